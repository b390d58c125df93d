/-! by program: the pure functions of the methods, and their walks -/
def f_X0_init (v0 : Nat) (w : Wd) : Option (Unit × Wd) := (if wK w v0 = 0 then
 (lb_ (sI w v0 0 9) fun w2 =>
 (lb_ (sI w2 v0 3 511) fun w4 =>
 some ((), w4)))
 else none)
theorem c_X0_init {l : Launch} {V : Vt} {v0 : Nat} {w w' : Wd} {r : Unit} (h : f_X0_init v0 w = some (r, w')) : MetW l V yX0_init cX0_init 1 (none) { frames := 1, cells := 0, slots := 0, locals := 20 } w [rf V v0] none w' 0 0 := by
  refine g_start (by decide) (Nat.le_of_ble_eq_true rfl) ?_
  intro t _ hrm X hret hnm
  have Y : Hd_ t V cX0_init 1 RX0 { frames := 1, cells := 0, slots := 0, locals := 20 } (none) "<init>" := ⟨X, hrm, hret, hnm⟩
  refine g_as (lv' := [(0, rf V v0)]) (st' := []) rfl rfl ?_
  unfold f_X0_init at h
  refine g_aload_n (pc := 0) X 0 rfl dX0_init_0 ?_
  refine g_objInit (pc := 1) X q_101 q_88 q_89 (by rw [Y.2.1]; decide) (by rw [Y.2.1]; exact Nat.le_of_ble_eq_true rfl) dX0_init_1 ?_
  refine g_aload_n (pc := 4) X 0 rfl dX0_init_4 ?_
  refine g_bipush (pc := 5) X (v := 9) dX0_init_5 rfl ?_
  obtain ⟨k1, h⟩ := gd_i h
  refine g_putI (pc := 7) X FcX0 k1 0 (by decide) rfl q_102 rfl rfl rfl dX0_init_7 ?_
  obtain ⟨w2, e3, h⟩ := lb_i h
  refine g_w e3 ?_
  refine g_aload_n (pc := 10) X 0 rfl dX0_init_10 ?_
  refine g_sipush (pc := 11) X (v := 511) dX0_init_11 rfl ?_
  refine g_putI (pc := 14) X FcX0 (kd_I e3 k1) 3 (by decide) rfl q_111 rfl rfl rfl dX0_init_14 ?_
  obtain ⟨w4, e5, h⟩ := lb_i h
  refine g_w e5 ?_
  obtain ⟨e1, e2⟩ := rt_i h
  exact g_vret (pc := 17) X Y.2.2.1 (Nat.le_of_ble_eq_true rfl) (Nat.le_of_ble_eq_true rfl) e2 dX0_init_17

def f_X0_setUp (v0 : Nat) (v1 : Int32) (v2 : Int32) (v3 : Int32) (w : Wd) : Option (Unit × Wd) := (if wK w v0 = 0 then
 (lb_ (sI w v0 0 v1) fun w2 =>
 (lb_ (sI w2 v0 1 v2) fun w4 =>
 (lb_ (sI w4 v0 2 v3) fun w6 =>
 (lb_ (sI w6 v0 3 ((1 <<< (v1 &&& 31)) - 1)) fun w8 =>
 some ((), w8)))))
 else none)
theorem c_X0_setUp {l : Launch} {V : Vt} {v0 : Nat} {v1 : Int32} {v2 : Int32} {v3 : Int32} {w w' : Wd} {r : Unit} (h : f_X0_setUp v0 v1 v2 v3 w = some (r, w')) : MetW l V yX0_setUp cX0_setUp 4 (none) { frames := 0, cells := 0, slots := 0, locals := 0 } w [rf V v0, .int v1, .int v2, .int v3] none w' 0 0 := by
  refine g_start (by decide) (Nat.le_of_ble_eq_true rfl) ?_
  intro t _ hrm X hret hnm
  have Y : Hd_ t V cX0_setUp 4 RX0 { frames := 0, cells := 0, slots := 0, locals := 0 } (none) "setUp" := ⟨X, hrm, hret, hnm⟩
  refine g_as (lv' := [(0, rf V v0), (1, .int v1), (2, .int v2), (3, .int v3)]) (st' := []) rfl rfl ?_
  unfold f_X0_setUp at h
  refine g_aload_n (pc := 0) X 0 rfl dX0_setUp_0 ?_
  refine g_iload_n (pc := 1) X 1 rfl dX0_setUp_1 ?_
  obtain ⟨k1, h⟩ := gd_i h
  refine g_putI (pc := 2) X FcX0 k1 0 (by decide) rfl q_102 rfl rfl rfl dX0_setUp_2 ?_
  obtain ⟨w2, e3, h⟩ := lb_i h
  refine g_w e3 ?_
  refine g_aload_n (pc := 5) X 0 rfl dX0_setUp_5 ?_
  refine g_iload_n (pc := 6) X 2 rfl dX0_setUp_6 ?_
  refine g_putI (pc := 7) X FcX0 (kd_I e3 k1) 1 (by decide) rfl q_106 rfl rfl rfl dX0_setUp_7 ?_
  obtain ⟨w4, e5, h⟩ := lb_i h
  refine g_w e5 ?_
  refine g_aload_n (pc := 10) X 0 rfl dX0_setUp_10 ?_
  refine g_iload_n (pc := 11) X 3 rfl dX0_setUp_11 ?_
  refine g_putI (pc := 12) X FcX0 (kd_I e5 (kd_I e3 k1)) 2 (by decide) rfl q_108 rfl rfl rfl dX0_setUp_12 ?_
  obtain ⟨w6, e7, h⟩ := lb_i h
  refine g_w e7 ?_
  refine g_aload_n (pc := 15) X 0 rfl dX0_setUp_15 ?_
  refine g_iconst (pc := 16) X (v := 1) dX0_setUp_16 rfl ?_
  refine g_iload_n (pc := 17) X 1 rfl dX0_setUp_17 ?_
  refine g_ishl (pc := 18) X dX0_setUp_18 ?_
  refine g_iconst (pc := 19) X (v := 1) dX0_setUp_19 rfl ?_
  refine g_isub (pc := 20) X dX0_setUp_20 ?_
  refine g_putI (pc := 21) X FcX0 (kd_I e7 (kd_I e5 (kd_I e3 k1))) 3 (by decide) rfl q_111 rfl rfl rfl dX0_setUp_21 ?_
  obtain ⟨w8, e9, h⟩ := lb_i h
  refine g_w e9 ?_
  obtain ⟨e1, e2⟩ := rt_i h
  exact g_vret (pc := 24) X Y.2.2.1 (Nat.le_of_ble_eq_true rfl) (Nat.le_of_ble_eq_true rfl) e2 dX0_setUp_24

def f_X0_become (v0 : Nat) (v1 : Nat) (w : Wd) : Option (Unit × Wd) := (if wK w v1 = 0 then
 (if wK w v0 = 0 then
 (bd2 (f_X0_setUp v0 (wI w v1 0) (wI w v1 1) (wI w v1 2) w) fun r3 w4 =>
 some ((), w4))
 else none)
 else none)
theorem c_X0_become {l : Launch} {V : Vt} {v0 : Nat} {v1 : Nat} {w w' : Wd} {r : Unit} (h : f_X0_become v0 v1 w = some (r, w')) : MetW l V yX0_become cX0_become 2 (none) { frames := 1, cells := 0, slots := 0, locals := 23 } w [rf V v0, rf V v1] none w' 0 0 := by
  refine g_start (by decide) (Nat.le_of_ble_eq_true rfl) ?_
  intro t _ hrm X hret hnm
  have Y : Hd_ t V cX0_become 2 RX0 { frames := 1, cells := 0, slots := 0, locals := 23 } (none) "become" := ⟨X, hrm, hret, hnm⟩
  refine g_as (lv' := [(0, rf V v0), (1, rf V v1)]) (st' := []) rfl rfl ?_
  unfold f_X0_become at h
  refine g_aload_n (pc := 0) X 0 rfl dX0_become_0 ?_
  refine g_aload_n (pc := 1) X 1 rfl dX0_become_1 ?_
  obtain ⟨k1, h⟩ := gd_i h
  refine g_getI (pc := 2) X FcX0 k1 0 (by decide) rfl q_102 dX0_become_2 ?_
  refine g_aload_n (pc := 5) X 1 rfl dX0_become_5 ?_
  refine g_getI (pc := 6) X FcX0 k1 1 (by decide) rfl q_106 dX0_become_6 ?_
  refine g_aload_n (pc := 9) X 1 rfl dX0_become_9 ?_
  refine g_getI (pc := 10) X FcX0 k1 2 (by decide) rfl q_108 dX0_become_10 ?_
  obtain ⟨k2, h⟩ := gd_i h
  obtain ⟨r3, w4, h5, h⟩ := bd2_i h
  refine g_callV (pc := 13) X FcX0 k2 mk_X0_setUp q_383 q_384 q_644 (c_X0_setUp h5) rfl rfl (by rw [Y.2.1]; decide)  rfl (rest := []) rfl (Nat.le_of_ble_eq_true rfl) (by rw [Y.2.1]; exact ⟨Nat.le_of_ble_eq_true rfl, Nat.le_of_ble_eq_true rfl⟩) dX0_become_13 (st' := []) rfl ?_
  obtain ⟨e1, e2⟩ := rt_i h
  exact g_vret (pc := 16) X Y.2.2.1 (Nat.le_of_ble_eq_true rfl) (Nat.le_of_ble_eq_true rfl) e2 dX0_become_16

def f_X0_withAhead (v0 : Nat) (v1 : Int32) (v2 : Int32) (w : Wd) : Option (Int32 × Wd) := (if wK w v0 = 0 then
 (lb_ (if (wI w v0 1) = 1 then v1 >>> (((wI w v0 0) - 1) &&& 31) else v2 : Int32) fun x2 =>
 some (((v1 <<< (1 &&& 31)) ||| x2) &&& (wI w v0 3), w))
 else none)
theorem c_X0_withAhead {l : Launch} {V : Vt} {v0 : Nat} {v1 : Int32} {v2 : Int32} {w w' : Wd} {r : Int32} (h : f_X0_withAhead v0 v1 v2 w = some (r, w')) : MetW l V yX0_withAhead cX0_withAhead 4 (some .int) { frames := 0, cells := 0, slots := 0, locals := 0 } w [rf V v0, .int v1, .int v2] (some (.int r)) w' 0 0 := by
  refine g_start (by decide) (Nat.le_of_ble_eq_true rfl) ?_
  intro t _ hrm X hret hnm
  have Y : Hd_ t V cX0_withAhead 4 RX0 { frames := 0, cells := 0, slots := 0, locals := 0 } (some .int) "withAhead" := ⟨X, hrm, hret, hnm⟩
  refine g_as (lv' := [(0, rf V v0), (1, .int v1), (2, .int v2)]) (st' := []) rfl rfl ?_
  unfold f_X0_withAhead at h
  refine g_aload_n (pc := 0) X 0 rfl dX0_withAhead_0 ?_
  obtain ⟨k1, h⟩ := gd_i h
  refine g_getI (pc := 1) X FcX0 k1 1 (by decide) rfl q_106 dX0_withAhead_1 ?_
  refine g_iconst (pc := 4) X (v := 1) dX0_withAhead_4 rfl ?_
  have kJ : Gd t V 4 0 0 (Qe t V (some (.int r)) w' 0 0) 20 [(0, rf V v0), (1, .int v1), (2, .int v2)] [.int (if (wI w v0 1) = 1 then v1 >>> (((wI w v0 0) - 1) &&& 31) else v2 : Int32)] w := by
    obtain ⟨x2, e3, h⟩ := lb_i h
    refine g_top e3 ?_
    refine g_istore_n (pc := 20) X (lv' := [(3, .int x2), (0, rf V v0), (1, .int v1), (2, .int v2)]) dX0_withAhead_20 (by decide) rfl ?_
    refine g_iload_n (pc := 21) X 2 rfl dX0_withAhead_21 ?_
    refine g_iconst (pc := 22) X (v := 1) dX0_withAhead_22 rfl ?_
    refine g_ishl (pc := 23) X dX0_withAhead_23 ?_
    refine g_iload_n (pc := 24) X 0 rfl dX0_withAhead_24 ?_
    refine g_ior (pc := 25) X dX0_withAhead_25 ?_
    refine g_aload_n (pc := 26) X 1 rfl dX0_withAhead_26 ?_
    refine g_getI (pc := 27) X FcX0 k1 3 (by decide) rfl q_111 dX0_withAhead_27 ?_
    refine g_iand (pc := 30) X dX0_withAhead_30 ?_
    obtain ⟨e1, e2⟩ := rt_i h
    exact g_iret (pc := 31) X Y.2.2.1 (Nat.le_of_ble_eq_true rfl) (Nat.le_of_ble_eq_true rfl) e1 e2 dX0_withAhead_31
  refine g_icmp_ne (pc := 5) X (tgt := 19) dX0_withAhead_5 rfl (fun c0 => ?_) (fun c0 => ?_)
  · refine g_iload_n (pc := 19) X 2 rfl dX0_withAhead_19 ?_
    exact g_top (by rw [if_neg c0]) kJ
  · refine g_iload_n (pc := 8) X 1 rfl dX0_withAhead_8 ?_
    refine g_aload_n (pc := 9) X 0 rfl dX0_withAhead_9 ?_
    refine g_getI (pc := 10) X FcX0 k1 0 (by decide) rfl q_102 dX0_withAhead_10 ?_
    refine g_iconst (pc := 13) X (v := 1) dX0_withAhead_13 rfl ?_
    refine g_isub (pc := 14) X dX0_withAhead_14 ?_
    refine g_ishr (pc := 15) X dX0_withAhead_15 ?_
    refine g_goto (pc := 16) X (tgt := 20) dX0_withAhead_16 rfl ?_
    exact g_top (by rw [if_pos c0]) kJ

def f_X0_withBehind (v0 : Nat) (v1 : Int32) (v2 : Int32) (w : Wd) : Option (Int32 × Wd) := (if wK w v0 = 0 then
 (lb_ (if (wI w v0 1) = 1 then v1 &&& 1 else v2 : Int32) fun x2 =>
 some ((v1 >>> (1 &&& 31)) ||| (x2 <<< (((wI w v0 0) - 1) &&& 31)), w))
 else none)
theorem c_X0_withBehind {l : Launch} {V : Vt} {v0 : Nat} {v1 : Int32} {v2 : Int32} {w w' : Wd} {r : Int32} (h : f_X0_withBehind v0 v1 v2 w = some (r, w')) : MetW l V yX0_withBehind cX0_withBehind 4 (some .int) { frames := 0, cells := 0, slots := 0, locals := 0 } w [rf V v0, .int v1, .int v2] (some (.int r)) w' 0 0 := by
  refine g_start (by decide) (Nat.le_of_ble_eq_true rfl) ?_
  intro t _ hrm X hret hnm
  have Y : Hd_ t V cX0_withBehind 4 RX0 { frames := 0, cells := 0, slots := 0, locals := 0 } (some .int) "withBehind" := ⟨X, hrm, hret, hnm⟩
  refine g_as (lv' := [(0, rf V v0), (1, .int v1), (2, .int v2)]) (st' := []) rfl rfl ?_
  unfold f_X0_withBehind at h
  refine g_aload_n (pc := 0) X 0 rfl dX0_withBehind_0 ?_
  obtain ⟨k1, h⟩ := gd_i h
  refine g_getI (pc := 1) X FcX0 k1 1 (by decide) rfl q_106 dX0_withBehind_1 ?_
  refine g_iconst (pc := 4) X (v := 1) dX0_withBehind_4 rfl ?_
  have kJ : Gd t V 4 0 0 (Qe t V (some (.int r)) w' 0 0) 15 [(0, rf V v0), (1, .int v1), (2, .int v2)] [.int (if (wI w v0 1) = 1 then v1 &&& 1 else v2 : Int32)] w := by
    obtain ⟨x2, e3, h⟩ := lb_i h
    refine g_top e3 ?_
    refine g_istore_n (pc := 15) X (lv' := [(3, .int x2), (0, rf V v0), (1, .int v1), (2, .int v2)]) dX0_withBehind_15 (by decide) rfl ?_
    refine g_iload_n (pc := 16) X 2 rfl dX0_withBehind_16 ?_
    refine g_iconst (pc := 17) X (v := 1) dX0_withBehind_17 rfl ?_
    refine g_ishr (pc := 18) X dX0_withBehind_18 ?_
    refine g_iload_n (pc := 19) X 0 rfl dX0_withBehind_19 ?_
    refine g_aload_n (pc := 20) X 1 rfl dX0_withBehind_20 ?_
    refine g_getI (pc := 21) X FcX0 k1 0 (by decide) rfl q_102 dX0_withBehind_21 ?_
    refine g_iconst (pc := 24) X (v := 1) dX0_withBehind_24 rfl ?_
    refine g_isub (pc := 25) X dX0_withBehind_25 ?_
    refine g_ishl (pc := 26) X dX0_withBehind_26 ?_
    refine g_ior (pc := 27) X dX0_withBehind_27 ?_
    obtain ⟨e1, e2⟩ := rt_i h
    exact g_iret (pc := 28) X Y.2.2.1 (Nat.le_of_ble_eq_true rfl) (Nat.le_of_ble_eq_true rfl) e1 e2 dX0_withBehind_28
  refine g_icmp_ne (pc := 5) X (tgt := 14) dX0_withBehind_5 rfl (fun c0 => ?_) (fun c0 => ?_)
  · refine g_iload_n (pc := 14) X 2 rfl dX0_withBehind_14 ?_
    exact g_top (by rw [if_neg c0]) kJ
  · refine g_iload_n (pc := 8) X 1 rfl dX0_withBehind_8 ?_
    refine g_iconst (pc := 9) X (v := 1) dX0_withBehind_9 rfl ?_
    refine g_iand (pc := 10) X dX0_withBehind_10 ?_
    refine g_goto (pc := 11) X (tgt := 15) dX0_withBehind_11 rfl ?_
    exact g_top (by rw [if_pos c0]) kJ

def f_X0_ordinary (v0 : Nat) (v1 : Int32) (w : Wd) : Option (Int32 × Wd) := (if wK w v0 = 0 then
 (bd2 (f_X0_withAhead v0 v1 (wI w v0 2) w) fun r2 w3 =>
 (if wK w3 v0 = 0 then
 (bd2 (f_X0_withBehind v0 v1 (wI w3 v0 2) w3) fun r6 w7 =>
 some (((wI w v0 3) &&& (v1 ^^^ (-1))) &&& ((r2 ^^^ r6) ^^^ (-1)), w7))
 else none))
 else none)
theorem c_X0_ordinary {l : Launch} {V : Vt} {v0 : Nat} {v1 : Int32} {w w' : Wd} {r : Int32} (h : f_X0_ordinary v0 v1 w = some (r, w')) : MetW l V yX0_ordinary cX0_ordinary 2 (some .int) { frames := 1, cells := 0, slots := 0, locals := 23 } w [rf V v0, .int v1] (some (.int r)) w' 0 0 := by
  refine g_start (by decide) (Nat.le_of_ble_eq_true rfl) ?_
  intro t _ hrm X hret hnm
  have Y : Hd_ t V cX0_ordinary 2 RX0 { frames := 1, cells := 0, slots := 0, locals := 23 } (some .int) "ordinary" := ⟨X, hrm, hret, hnm⟩
  refine g_as (lv' := [(0, rf V v0), (1, .int v1)]) (st' := []) rfl rfl ?_
  unfold f_X0_ordinary at h
  refine g_aload_n (pc := 0) X 0 rfl dX0_ordinary_0 ?_
  obtain ⟨k1, h⟩ := gd_i h
  refine g_getI (pc := 1) X FcX0 k1 3 (by decide) rfl q_111 dX0_ordinary_1 ?_
  refine g_iload_n (pc := 4) X 1 rfl dX0_ordinary_4 ?_
  refine g_iconst (pc := 5) X (v := (-1)) dX0_ordinary_5 rfl ?_
  refine g_ixor (pc := 6) X dX0_ordinary_6 ?_
  refine g_iand (pc := 7) X dX0_ordinary_7 ?_
  refine g_aload_n (pc := 8) X 0 rfl dX0_ordinary_8 ?_
  refine g_iload_n (pc := 9) X 1 rfl dX0_ordinary_9 ?_
  refine g_aload_n (pc := 10) X 0 rfl dX0_ordinary_10 ?_
  refine g_getI (pc := 11) X FcX0 k1 2 (by decide) rfl q_108 dX0_ordinary_11 ?_
  obtain ⟨r2, w3, h4, h⟩ := bd2_i h
  refine g_callV (pc := 14) X FcX0 k1 mk_X0_withAhead q_446 q_447 q_445 (c_X0_withAhead h4) rfl rfl (by rw [Y.2.1]; decide)  rfl (rest := [.int ((wI w v0 3) &&& (v1 ^^^ (-1)))]) rfl (Nat.le_of_ble_eq_true rfl) (by rw [Y.2.1]; exact ⟨Nat.le_of_ble_eq_true rfl, Nat.le_of_ble_eq_true rfl⟩) dX0_ordinary_14 (st' := [.int r2, .int ((wI w v0 3) &&& (v1 ^^^ (-1)))]) rfl ?_
  refine g_aload_n (pc := 17) X 0 rfl dX0_ordinary_17 ?_
  refine g_iload_n (pc := 18) X 1 rfl dX0_ordinary_18 ?_
  refine g_aload_n (pc := 19) X 0 rfl dX0_ordinary_19 ?_
  obtain ⟨k5, h⟩ := gd_i h
  refine g_getI (pc := 20) X FcX0 k5 2 (by decide) rfl q_108 dX0_ordinary_20 ?_
  obtain ⟨r6, w7, h8, h⟩ := bd2_i h
  refine g_callV (pc := 23) X FcX0 k5 mk_X0_withBehind q_442 q_443 q_441 (c_X0_withBehind h8) rfl rfl (by rw [Y.2.1]; decide)  rfl (rest := [.int r2, .int ((wI w v0 3) &&& (v1 ^^^ (-1)))]) rfl (Nat.le_of_ble_eq_true rfl) (by rw [Y.2.1]; exact ⟨Nat.le_of_ble_eq_true rfl, Nat.le_of_ble_eq_true rfl⟩) dX0_ordinary_23 (st' := [.int r6, .int r2, .int ((wI w v0 3) &&& (v1 ^^^ (-1)))]) rfl ?_
  refine g_ixor (pc := 26) X dX0_ordinary_26 ?_
  refine g_iconst (pc := 27) X (v := (-1)) dX0_ordinary_27 rfl ?_
  refine g_ixor (pc := 28) X dX0_ordinary_28 ?_
  refine g_iand (pc := 29) X dX0_ordinary_29 ?_
  obtain ⟨e1, e2⟩ := rt_i h
  exact g_iret (pc := 30) X Y.2.2.1 (Nat.le_of_ble_eq_true rfl) (Nat.le_of_ble_eq_true rfl) e1 e2 dX0_ordinary_30

def f_X0_broad (v0 : Nat) (v1 : Int32) (v2 : Int32) (w : Wd) : Option (Int32 × Wd) := (if wK w v0 = 0 then
 (if 2 ≤ (wI w v0 0) then
 (bd2 (f_X0_withBehind v0 v1 1 w) fun r2 w3 =>
 (lb_ (((wI w v0 3) &&& (v1 ^^^ (-1))) &&& (r2 ^^^ (-1))) fun x5 =>
 (if wK w3 v0 = 0 then
 (bd2 (f_X0_withAhead v0 v1 (wI w3 v0 2) w3) fun r8 w9 =>
 (if wK w9 v0 = 0 then
 (bd2 (f_X0_withBehind v0 v1 (wI w9 v0 2) w9) fun r12 w13 =>
 (if wK w13 v0 = 0 then
 (bd2 (f_X0_withBehind v0 r12 (wI w13 v0 2) w13) fun r16 w17 =>
 some (x5 &&& ((if v2 = 0 then r8 ^^^ r16 else r8 ||| r16 : Int32) ^^^ (-1)), w17))
 else none))
 else none))
 else none)))
 else
 some (0, w))
 else none)
theorem c_X0_broad {l : Launch} {V : Vt} {v0 : Nat} {v1 : Int32} {v2 : Int32} {w w' : Wd} {r : Int32} (h : f_X0_broad v0 v1 v2 w = some (r, w')) : MetW l V yX0_broad cX0_broad 6 (some .int) { frames := 1, cells := 0, slots := 0, locals := 23 } w [rf V v0, .int v1, .int v2] (some (.int r)) w' 0 0 := by
  refine g_start (by decide) (Nat.le_of_ble_eq_true rfl) ?_
  intro t _ hrm X hret hnm
  have Y : Hd_ t V cX0_broad 6 RX0 { frames := 1, cells := 0, slots := 0, locals := 23 } (some .int) "broad" := ⟨X, hrm, hret, hnm⟩
  refine g_as (lv' := [(0, rf V v0), (1, .int v1), (2, .int v2)]) (st' := []) rfl rfl ?_
  unfold f_X0_broad at h
  refine g_aload_n (pc := 0) X 0 rfl dX0_broad_0 ?_
  obtain ⟨k1, h⟩ := gd_i h
  refine g_getI (pc := 1) X FcX0 k1 0 (by decide) rfl q_102 dX0_broad_1 ?_
  refine g_iconst (pc := 4) X (v := 2) dX0_broad_4 rfl ?_
  refine g_icmp_ge (pc := 5) X (tgt := 10) dX0_broad_5 rfl (fun c => ?_) (fun c => ?_)
  · have h := br_y c h
    refine g_aload_n (pc := 10) X 0 rfl dX0_broad_10 ?_
    refine g_getI (pc := 11) X FcX0 k1 3 (by decide) rfl q_111 dX0_broad_11 ?_
    refine g_iload_n (pc := 14) X 1 rfl dX0_broad_14 ?_
    refine g_iconst (pc := 15) X (v := (-1)) dX0_broad_15 rfl ?_
    refine g_ixor (pc := 16) X dX0_broad_16 ?_
    refine g_iand (pc := 17) X dX0_broad_17 ?_
    refine g_aload_n (pc := 18) X 0 rfl dX0_broad_18 ?_
    refine g_iload_n (pc := 19) X 1 rfl dX0_broad_19 ?_
    refine g_iconst (pc := 20) X (v := 1) dX0_broad_20 rfl ?_
    obtain ⟨r2, w3, h4, h⟩ := bd2_i h
    refine g_callV (pc := 21) X FcX0 k1 mk_X0_withBehind q_442 q_443 q_441 (c_X0_withBehind h4) rfl rfl (by rw [Y.2.1]; decide)  rfl (rest := [.int ((wI w v0 3) &&& (v1 ^^^ (-1)))]) rfl (Nat.le_of_ble_eq_true rfl) (by rw [Y.2.1]; exact ⟨Nat.le_of_ble_eq_true rfl, Nat.le_of_ble_eq_true rfl⟩) dX0_broad_21 (st' := [.int r2, .int ((wI w v0 3) &&& (v1 ^^^ (-1)))]) rfl ?_
    refine g_iconst (pc := 24) X (v := (-1)) dX0_broad_24 rfl ?_
    refine g_ixor (pc := 25) X dX0_broad_25 ?_
    refine g_iand (pc := 26) X dX0_broad_26 ?_
    obtain ⟨x5, e6, h⟩ := lb_i h
    refine g_top e6 ?_
    refine g_istore_n (pc := 27) X (lv' := [(3, .int x5), (0, rf V v0), (1, .int v1), (2, .int v2)]) dX0_broad_27 (by decide) rfl ?_
    refine g_aload_n (pc := 28) X 1 rfl dX0_broad_28 ?_
    refine g_iload_n (pc := 29) X 2 rfl dX0_broad_29 ?_
    refine g_aload_n (pc := 30) X 1 rfl dX0_broad_30 ?_
    obtain ⟨k7, h⟩ := gd_i h
    refine g_getI (pc := 31) X FcX0 k7 2 (by decide) rfl q_108 dX0_broad_31 ?_
    obtain ⟨r8, w9, h10, h⟩ := bd2_i h
    refine g_callV (pc := 34) X FcX0 k7 mk_X0_withAhead q_446 q_447 q_445 (c_X0_withAhead h10) rfl rfl (by rw [Y.2.1]; decide)  rfl (rest := []) rfl (Nat.le_of_ble_eq_true rfl) (by rw [Y.2.1]; exact ⟨Nat.le_of_ble_eq_true rfl, Nat.le_of_ble_eq_true rfl⟩) dX0_broad_34 (st' := [.int r8]) rfl ?_
    refine g_istore (pc := 37) X (lv' := [(4, .int r8), (3, .int x5), (0, rf V v0), (1, .int v1), (2, .int v2)]) dX0_broad_37 (by decide) rfl ?_
    refine g_aload_n (pc := 39) X 2 rfl dX0_broad_39 ?_
    refine g_aload_n (pc := 40) X 2 rfl dX0_broad_40 ?_
    refine g_iload_n (pc := 41) X 3 rfl dX0_broad_41 ?_
    refine g_aload_n (pc := 42) X 2 rfl dX0_broad_42 ?_
    obtain ⟨k11, h⟩ := gd_i h
    refine g_getI (pc := 43) X FcX0 k11 2 (by decide) rfl q_108 dX0_broad_43 ?_
    obtain ⟨r12, w13, h14, h⟩ := bd2_i h
    refine g_callV (pc := 46) X FcX0 k11 mk_X0_withBehind q_442 q_443 q_441 (c_X0_withBehind h14) rfl rfl (by rw [Y.2.1]; decide)  rfl (rest := [rf V v0]) rfl (Nat.le_of_ble_eq_true rfl) (by rw [Y.2.1]; exact ⟨Nat.le_of_ble_eq_true rfl, Nat.le_of_ble_eq_true rfl⟩) dX0_broad_46 (st' := [.int r12, rf V v0]) rfl ?_
    refine g_aload_n (pc := 49) X 2 rfl dX0_broad_49 ?_
    obtain ⟨k15, h⟩ := gd_i h
    refine g_getI (pc := 50) X FcX0 k15 2 (by decide) rfl q_108 dX0_broad_50 ?_
    obtain ⟨r16, w17, h18, h⟩ := bd2_i h
    refine g_callV (pc := 53) X FcX0 k15 mk_X0_withBehind q_442 q_443 q_441 (c_X0_withBehind h18) rfl rfl (by rw [Y.2.1]; decide)  rfl (rest := []) rfl (Nat.le_of_ble_eq_true rfl) (by rw [Y.2.1]; exact ⟨Nat.le_of_ble_eq_true rfl, Nat.le_of_ble_eq_true rfl⟩) dX0_broad_53 (st' := [.int r16]) rfl ?_
    refine g_istore (pc := 56) X (lv' := [(5, .int r16), (4, .int r8), (3, .int x5), (0, rf V v0), (1, .int v1), (2, .int v2)]) dX0_broad_56 (by decide) rfl ?_
    refine g_iload_n (pc := 58) X 2 rfl dX0_broad_58 ?_
    refine g_iload_n (pc := 59) X 5 rfl dX0_broad_59 ?_
    have kJ : Gd t V 6 0 0 (Qe t V (some (.int r)) w' 0 0) 76 [(5, .int r16), (4, .int r8), (3, .int x5), (0, rf V v0), (1, .int v1), (2, .int v2)] [.int (if v2 = 0 then r8 ^^^ r16 else r8 ||| r16 : Int32), .int x5] w17 := by
      refine g_iconst (pc := 76) X (v := (-1)) dX0_broad_76 rfl ?_
      refine g_ixor (pc := 77) X dX0_broad_77 ?_
      refine g_iand (pc := 78) X dX0_broad_78 ?_
      obtain ⟨e1, e2⟩ := rt_i h
      exact g_iret (pc := 79) X Y.2.2.1 (Nat.le_of_ble_eq_true rfl) (Nat.le_of_ble_eq_true rfl) e1 e2 dX0_broad_79
    refine g_if_eq (pc := 60) X (tgt := 71) dX0_broad_60 rfl (fun c0 => ?_) (fun c0 => ?_)
    · refine g_iload (pc := 71) X 1 rfl dX0_broad_71 ?_
      refine g_iload (pc := 73) X 0 rfl dX0_broad_73 ?_
      refine g_ixor (pc := 75) X dX0_broad_75 ?_
      exact g_top (by rw [if_pos c0]) kJ
    · refine g_iload (pc := 63) X 1 rfl dX0_broad_63 ?_
      refine g_iload (pc := 65) X 0 rfl dX0_broad_65 ?_
      refine g_ior (pc := 67) X dX0_broad_67 ?_
      refine g_goto (pc := 68) X (tgt := 76) dX0_broad_68 rfl ?_
      exact g_top (by rw [if_neg c0]) kJ
  · have h := br_n c h
    refine g_iconst (pc := 8) X (v := 0) dX0_broad_8 rfl ?_
    obtain ⟨e1, e2⟩ := rt_i h
    exact g_iret (pc := 9) X Y.2.2.1 (Nat.le_of_ble_eq_true rfl) (Nat.le_of_ble_eq_true rfl) e1 e2 dX0_broad_9

def f_X4_init (v0 : Nat) (w : Wd) : Option (Unit × Wd) := (if wK w v0 = 4 then
 (lb_ (sI w v0 1 (-1)) fun w2 =>
 some ((), w2))
 else none)
theorem c_X4_init {l : Launch} {V : Vt} {v0 : Nat} {w w' : Wd} {r : Unit} (h : f_X4_init v0 w = some (r, w')) : MetW l V yX4_init cX4_init 1 (none) { frames := 1, cells := 0, slots := 0, locals := 20 } w [rf V v0] none w' 0 0 := by
  refine g_start (by decide) (Nat.le_of_ble_eq_true rfl) ?_
  intro t _ hrm X hret hnm
  have Y : Hd_ t V cX4_init 1 RX4 { frames := 1, cells := 0, slots := 0, locals := 20 } (none) "<init>" := ⟨X, hrm, hret, hnm⟩
  refine g_as (lv' := [(0, rf V v0)]) (st' := []) rfl rfl ?_
  unfold f_X4_init at h
  refine g_aload_n (pc := 0) X 0 rfl dX4_init_0 ?_
  refine g_objInit (pc := 1) X q_133 q_88 q_89 (by rw [Y.2.1]; decide) (by rw [Y.2.1]; exact Nat.le_of_ble_eq_true rfl) dX4_init_1 ?_
  refine g_aload_n (pc := 4) X 0 rfl dX4_init_4 ?_
  refine g_iconst (pc := 5) X (v := (-1)) dX4_init_5 rfl ?_
  obtain ⟨k1, h⟩ := gd_i h
  refine g_putI (pc := 6) X FcX4 k1 1 (by decide) rfl q_137 rfl rfl rfl dX4_init_6 ?_
  obtain ⟨w2, e3, h⟩ := lb_i h
  refine g_w e3 ?_
  obtain ⟨e1, e2⟩ := rt_i h
  exact g_vret (pc := 9) X Y.2.2.1 (Nat.le_of_ble_eq_true rfl) (Nat.le_of_ble_eq_true rfl) e2 dX4_init_9

set_option maxHeartbeats 4000000 in
set_option maxRecDepth 100000 in
def f_X1_init (v0 : Nat) (w : Wd) : Option (Unit × Wd) := (lb_ (wN w) fun a1 =>
 (lb_ (nC w 0 4) fun w3 =>
 (bd2 (f_X0_init a1 w3) fun r5 w6 =>
 (if wK w6 v0 = 1 then
 (lb_ (sR w6 v0 0 (some a1)) fun w9 =>
 (lb_ (wN w9) fun a11 =>
 (lb_ (nC w9 14 12) fun w13 =>
 (if wK w13 v0 = 1 then
 (lb_ (sR w13 v0 1 (some a11)) fun w16 =>
 (lb_ (wN w16) fun a18 =>
 (lb_ (nC w16 11 12) fun w20 =>
 (if wK w20 v0 = 1 then
 (lb_ (sR w20 v0 3 (some a18)) fun w23 =>
 (lb_ (wN w23) fun a25 =>
 (lb_ (nC w23 11 4) fun w27 =>
 (if aK 11 w27 a25 0 = true then
 (lb_ (sI w27 a25 (nx 0) 1) fun w30 =>
 (if aK 11 w30 a25 1 = true then
 (lb_ (sI w30 a25 (nx 1) 0) fun w33 =>
 (if aK 11 w33 a25 2 = true then
 (lb_ (sI w33 a25 (nx 2) 50) fun w36 =>
 (if aK 11 w36 a25 3 = true then
 (lb_ (sI w36 a25 (nx 3) 10) fun w39 =>
 (if wK w39 v0 = 1 then
 (lb_ (sR w39 v0 4 (some a25)) fun w42 =>
 (lb_ (sI w42 v0 7 1) fun w44 =>
 (lb_ (wN w44) fun a46 =>
 (lb_ (nC w44 16 14) fun w48 =>
 (if wK w48 v0 = 1 then
 (lb_ (sR w48 v0 8 (some a46)) fun w51 =>
 (lb_ (wN w51) fun a53 =>
 (lb_ (nC w51 11 3) fun w55 =>
 (if aK 11 w55 a53 0 = true then
 (lb_ (sI w55 a53 (nx 0) (-1000000005)) fun w58 =>
 (if aK 11 w58 a53 1 = true then
 (lb_ (sI w58 a53 (nx 1) (-1000000005)) fun w61 =>
 (if aK 11 w61 a53 2 = true then
 (lb_ (sI w61 a53 (nx 2) (-1000000005)) fun w64 =>
 (if wK w64 v0 = 1 then
 (lb_ (sR w64 v0 10 (some a53)) fun w67 =>
 (bd1 (wR w67 v0 1) fun a69 =>
 (lb_ (wN w67) fun a71 =>
 (lb_ (nC w67 4 4) fun w73 =>
 (bd2 (f_X4_init a71 w73) fun r75 w76 =>
 (if wK w76 a71 = 4 then
 (if aK 14 w76 a69 0 = true then
 (lb_ (sR w76 a69 (nx 0) (some a71)) fun w80 =>
 (if wK w80 v0 = 1 then
 (bd1 (wR w80 v0 1) fun a83 =>
 (lb_ (wN w80) fun a85 =>
 (lb_ (nC w80 4 4) fun w87 =>
 (bd2 (f_X4_init a85 w87) fun r89 w90 =>
 (if wK w90 a85 = 4 then
 (if aK 14 w90 a83 1 = true then
 (lb_ (sR w90 a83 (nx 1) (some a85)) fun w94 =>
 (if wK w94 v0 = 1 then
 (bd1 (wR w94 v0 1) fun a97 =>
 (lb_ (wN w94) fun a99 =>
 (lb_ (nC w94 4 4) fun w101 =>
 (bd2 (f_X4_init a99 w101) fun r103 w104 =>
 (if wK w104 a99 = 4 then
 (if aK 14 w104 a97 2 = true then
 (lb_ (sR w104 a97 (nx 2) (some a99)) fun w108 =>
 (if wK w108 v0 = 1 then
 (bd1 (wR w108 v0 1) fun a111 =>
 (lb_ (wN w108) fun a113 =>
 (lb_ (nC w108 4 4) fun w115 =>
 (bd2 (f_X4_init a113 w115) fun r117 w118 =>
 (if wK w118 a113 = 4 then
 (if aK 14 w118 a111 3 = true then
 (lb_ (sR w118 a111 (nx 3) (some a113)) fun w122 =>
 (if wK w122 v0 = 1 then
 (bd1 (wR w122 v0 1) fun a125 =>
 (lb_ (wN w122) fun a127 =>
 (lb_ (nC w122 4 4) fun w129 =>
 (bd2 (f_X4_init a127 w129) fun r131 w132 =>
 (if wK w132 a127 = 4 then
 (if aK 14 w132 a125 4 = true then
 (lb_ (sR w132 a125 (nx 4) (some a127)) fun w136 =>
 (if wK w136 v0 = 1 then
 (bd1 (wR w136 v0 1) fun a139 =>
 (lb_ (wN w136) fun a141 =>
 (lb_ (nC w136 4 4) fun w143 =>
 (bd2 (f_X4_init a141 w143) fun r145 w146 =>
 (if wK w146 a141 = 4 then
 (if aK 14 w146 a139 5 = true then
 (lb_ (sR w146 a139 (nx 5) (some a141)) fun w150 =>
 (if wK w150 v0 = 1 then
 (bd1 (wR w150 v0 1) fun a153 =>
 (lb_ (wN w150) fun a155 =>
 (lb_ (nC w150 4 4) fun w157 =>
 (bd2 (f_X4_init a155 w157) fun r159 w160 =>
 (if wK w160 a155 = 4 then
 (if aK 14 w160 a153 6 = true then
 (lb_ (sR w160 a153 (nx 6) (some a155)) fun w164 =>
 (if wK w164 v0 = 1 then
 (bd1 (wR w164 v0 1) fun a167 =>
 (lb_ (wN w164) fun a169 =>
 (lb_ (nC w164 4 4) fun w171 =>
 (bd2 (f_X4_init a169 w171) fun r173 w174 =>
 (if wK w174 a169 = 4 then
 (if aK 14 w174 a167 7 = true then
 (lb_ (sR w174 a167 (nx 7) (some a169)) fun w178 =>
 (if wK w178 v0 = 1 then
 (bd1 (wR w178 v0 1) fun a181 =>
 (lb_ (wN w178) fun a183 =>
 (lb_ (nC w178 4 4) fun w185 =>
 (bd2 (f_X4_init a183 w185) fun r187 w188 =>
 (if wK w188 a183 = 4 then
 (if aK 14 w188 a181 8 = true then
 (lb_ (sR w188 a181 (nx 8) (some a183)) fun w192 =>
 (if wK w192 v0 = 1 then
 (bd1 (wR w192 v0 1) fun a195 =>
 (lb_ (wN w192) fun a197 =>
 (lb_ (nC w192 4 4) fun w199 =>
 (bd2 (f_X4_init a197 w199) fun r201 w202 =>
 (if wK w202 a197 = 4 then
 (if aK 14 w202 a195 9 = true then
 (lb_ (sR w202 a195 (nx 9) (some a197)) fun w206 =>
 (if wK w206 v0 = 1 then
 (bd1 (wR w206 v0 1) fun a209 =>
 (lb_ (wN w206) fun a211 =>
 (lb_ (nC w206 4 4) fun w213 =>
 (bd2 (f_X4_init a211 w213) fun r215 w216 =>
 (if wK w216 a211 = 4 then
 (if aK 14 w216 a209 10 = true then
 (lb_ (sR w216 a209 (nx 10) (some a211)) fun w220 =>
 (if wK w220 v0 = 1 then
 (bd1 (wR w220 v0 1) fun a223 =>
 (lb_ (wN w220) fun a225 =>
 (lb_ (nC w220 4 4) fun w227 =>
 (bd2 (f_X4_init a225 w227) fun r229 w230 =>
 (if wK w230 a225 = 4 then
 (if aK 14 w230 a223 11 = true then
 (lb_ (sR w230 a223 (nx 11) (some a225)) fun w234 =>
 some ((), w234))
 else none)
 else none)))))
 else none))
 else none)
 else none)))))
 else none))
 else none)
 else none)))))
 else none))
 else none)
 else none)))))
 else none))
 else none)
 else none)))))
 else none))
 else none)
 else none)))))
 else none))
 else none)
 else none)))))
 else none))
 else none)
 else none)))))
 else none))
 else none)
 else none)))))
 else none))
 else none)
 else none)))))
 else none))
 else none)
 else none)))))
 else none))
 else none)
 else none))))))
 else none))
 else none))
 else none))
 else none))))
 else none)))))
 else none))
 else none))
 else none))
 else none))
 else none))))
 else none))))
 else none))))
 else none))))
set_option maxHeartbeats 4000000 in
set_option maxRecDepth 100000 in
theorem c_X1_init {l : Launch} {V : Vt} {v0 : Nat} {w w' : Wd} {r : Unit} (h : f_X1_init v0 w = some (r, w')) : MetW l V yX1_init cX1_init 2 (none) { frames := 2, cells := 18, slots := 97, locals := 40 } w [rf V v0] none w' 18 97 := by
  refine g_start (by decide) (Nat.le_of_ble_eq_true rfl) ?_
  intro t _ hrm X hret hnm
  have Y : Hd_ t V cX1_init 2 RX1 { frames := 2, cells := 18, slots := 97, locals := 40 } (none) "<init>" := ⟨X, hrm, hret, hnm⟩
  refine g_as (lv' := [(0, rf V v0)]) (st' := []) rfl rfl ?_
  unfold f_X1_init at h
  refine g_aload_n (pc := 0) X 0 rfl dX1_init_0 ?_
  refine g_objInit (pc := 1) X q_95 q_88 q_89 (by rw [Y.2.1]; decide) (by rw [Y.2.1]; exact Nat.le_of_ble_eq_true rfl) dX1_init_1 ?_
  refine g_aload_n (pc := 4) X 0 rfl dX1_init_4 ?_
  refine g_new (pc := 5) X FcX0 dfX0 q_96 q_97 q_66 (by rw [Y.2.1]; exact Nat.le_of_ble_eq_true rfl) (by rw [Y.2.1]; exact Nat.le_of_ble_eq_true rfl) dX1_init_5 ?_
  obtain ⟨a1, e2, h⟩ := lb_i h
  obtain ⟨w3, e4, h⟩ := lb_i h
  refine g_w e4 ?_
  refine g_topr e2 ?_
  refine g_dup (pc := 8) X rfl dX1_init_8 ?_
  obtain ⟨r5, w6, h7, h⟩ := bd2_i h
  refine g_callIN (pc := 9) X mk_X0_init rfl q_99 (host := RX8) (by decide +kernel) (c_X0_init h7) rfl rfl (by rw [Y.2.1]; decide)  rfl (rest := [rf V a1, rf V v0]) rfl (Nat.le_of_ble_eq_true rfl) (by rw [Y.2.1]; exact ⟨Nat.le_of_ble_eq_true rfl, Nat.le_of_ble_eq_true rfl⟩) dX1_init_9 (st' := [rf V a1, rf V v0]) rfl ?_
  obtain ⟨k8, h⟩ := gd_i h
  refine g_putFR (pc := 12) X FcX1 k8 0 (by decide) rfl q_156 rfl Y.2.2.2 rfl rfl rfl dX1_init_12 ?_
  obtain ⟨w9, e10, h⟩ := lb_i h
  refine g_w e10 ?_
  refine g_aload_n (pc := 15) X 0 rfl dX1_init_15 ?_
  refine g_bipush (pc := 16) X (v := 12) dX1_init_16 rfl ?_
  refine g_anew (pc := 18) X (k := 14) (by decide) (by decide) rfl q_124 (by decide +kernel) (N := 12) (by decide) rfl (Nat.le_of_ble_eq_true rfl) (by rw [Y.2.1]; exact Nat.le_of_ble_eq_true rfl) (by rw [Y.2.1]; exact Nat.le_of_ble_eq_true rfl) dX1_init_18 ?_
  obtain ⟨a11, e12, h⟩ := lb_i h
  obtain ⟨w13, e14, h⟩ := lb_i h
  refine g_w e14 ?_
  refine g_topr e12 ?_
  obtain ⟨k15, h⟩ := gd_i h
  refine g_putFR (pc := 21) X FcX1 k15 1 (by decide) rfl q_159 rfl Y.2.2.2 rfl rfl rfl dX1_init_21 ?_
  obtain ⟨w16, e17, h⟩ := lb_i h
  refine g_w e17 ?_
  refine g_aload_n (pc := 24) X 0 rfl dX1_init_24 ?_
  refine g_bipush (pc := 25) X (v := 12) dX1_init_25 rfl ?_
  refine g_newarr (pc := 27) X (atype := .int) (k := 11) (fty := .int) rfl (by decide) (by decide) rfl ra_int rfl q_155 (N := 12) (by decide) rfl (Nat.le_of_ble_eq_true rfl) (by rw [Y.2.1]; exact Nat.le_of_ble_eq_true rfl) (by rw [Y.2.1]; exact Nat.le_of_ble_eq_true rfl) dX1_init_27 ?_
  obtain ⟨a18, e19, h⟩ := lb_i h
  obtain ⟨w20, e21, h⟩ := lb_i h
  refine g_w e21 ?_
  refine g_topr e19 ?_
  obtain ⟨k22, h⟩ := gd_i h
  refine g_putFR (pc := 29) X FcX1 k22 3 (by decide) rfl q_163 rfl Y.2.2.2 rfl rfl rfl dX1_init_29 ?_
  obtain ⟨w23, e24, h⟩ := lb_i h
  refine g_w e24 ?_
  refine g_aload_n (pc := 32) X 0 rfl dX1_init_32 ?_
  refine g_iconst (pc := 33) X (v := 4) dX1_init_33 rfl ?_
  refine g_newarr (pc := 34) X (atype := .int) (k := 11) (fty := .int) rfl (by decide) (by decide) rfl ra_int rfl q_155 (N := 4) (by decide) rfl (Nat.le_of_ble_eq_true rfl) (by rw [Y.2.1]; exact Nat.le_of_ble_eq_true rfl) (by rw [Y.2.1]; exact Nat.le_of_ble_eq_true rfl) dX1_init_34 ?_
  obtain ⟨a25, e26, h⟩ := lb_i h
  obtain ⟨w27, e28, h⟩ := lb_i h
  refine g_w e28 ?_
  refine g_topr e26 ?_
  refine g_dup (pc := 36) X rfl dX1_init_36 ?_
  refine g_iconst (pc := 37) X (v := 0) dX1_init_37 rfl ?_
  refine g_iconst (pc := 38) X (v := 1) dX1_init_38 rfl ?_
  obtain ⟨k29, h⟩ := gd_i h
  refine g_iast (pc := 39) X k29 dX1_init_39 ?_
  obtain ⟨w30, e31, h⟩ := lb_i h
  refine g_w e31 ?_
  refine g_dup (pc := 40) X rfl dX1_init_40 ?_
  refine g_iconst (pc := 41) X (v := 1) dX1_init_41 rfl ?_
  refine g_iconst (pc := 42) X (v := 0) dX1_init_42 rfl ?_
  obtain ⟨k32, h⟩ := gd_i h
  refine g_iast (pc := 43) X k32 dX1_init_43 ?_
  obtain ⟨w33, e34, h⟩ := lb_i h
  refine g_w e34 ?_
  refine g_dup (pc := 44) X rfl dX1_init_44 ?_
  refine g_iconst (pc := 45) X (v := 2) dX1_init_45 rfl ?_
  refine g_bipush (pc := 46) X (v := 50) dX1_init_46 rfl ?_
  obtain ⟨k35, h⟩ := gd_i h
  refine g_iast (pc := 48) X k35 dX1_init_48 ?_
  obtain ⟨w36, e37, h⟩ := lb_i h
  refine g_w e37 ?_
  refine g_dup (pc := 49) X rfl dX1_init_49 ?_
  refine g_iconst (pc := 50) X (v := 3) dX1_init_50 rfl ?_
  refine g_bipush (pc := 51) X (v := 10) dX1_init_51 rfl ?_
  obtain ⟨k38, h⟩ := gd_i h
  refine g_iast (pc := 53) X k38 dX1_init_53 ?_
  obtain ⟨w39, e40, h⟩ := lb_i h
  refine g_w e40 ?_
  obtain ⟨k41, h⟩ := gd_i h
  refine g_putFR (pc := 54) X FcX1 k41 4 (by decide) rfl q_166 rfl Y.2.2.2 rfl rfl rfl dX1_init_54 ?_
  obtain ⟨w42, e43, h⟩ := lb_i h
  refine g_w e43 ?_
  refine g_aload_n (pc := 57) X 0 rfl dX1_init_57 ?_
  refine g_iconst (pc := 58) X (v := 1) dX1_init_58 rfl ?_
  refine g_putI (pc := 59) X FcX1 (kd_R e43 k41) 7 (by decide) rfl q_173 rfl rfl rfl dX1_init_59 ?_
  obtain ⟨w44, e45, h⟩ := lb_i h
  refine g_w e45 ?_
  refine g_aload_n (pc := 62) X 0 rfl dX1_init_62 ?_
  refine g_bipush (pc := 63) X (v := 14) dX1_init_63 rfl ?_
  refine g_anew (pc := 65) X (k := 16) (by decide) (by decide) rfl q_126 (by decide +kernel) (N := 14) (by decide) rfl (Nat.le_of_ble_eq_true rfl) (by rw [Y.2.1]; exact Nat.le_of_ble_eq_true rfl) (by rw [Y.2.1]; exact Nat.le_of_ble_eq_true rfl) dX1_init_65 ?_
  obtain ⟨a46, e47, h⟩ := lb_i h
  obtain ⟨w48, e49, h⟩ := lb_i h
  refine g_w e49 ?_
  refine g_topr e47 ?_
  obtain ⟨k50, h⟩ := gd_i h
  refine g_putFR (pc := 68) X FcX1 k50 8 (by decide) rfl q_175 rfl Y.2.2.2 rfl rfl rfl dX1_init_68 ?_
  obtain ⟨w51, e52, h⟩ := lb_i h
  refine g_w e52 ?_
  refine g_aload_n (pc := 71) X 0 rfl dX1_init_71 ?_
  refine g_iconst (pc := 72) X (v := 3) dX1_init_72 rfl ?_
  refine g_newarr (pc := 73) X (atype := .int) (k := 11) (fty := .int) rfl (by decide) (by decide) rfl ra_int rfl q_155 (N := 3) (by decide) rfl (Nat.le_of_ble_eq_true rfl) (by rw [Y.2.1]; exact Nat.le_of_ble_eq_true rfl) (by rw [Y.2.1]; exact Nat.le_of_ble_eq_true rfl) dX1_init_73 ?_
  obtain ⟨a53, e54, h⟩ := lb_i h
  obtain ⟨w55, e56, h⟩ := lb_i h
  refine g_w e56 ?_
  refine g_topr e54 ?_
  refine g_dup (pc := 75) X rfl dX1_init_75 ?_
  refine g_iconst (pc := 76) X (v := 0) dX1_init_76 rfl ?_
  refine g_ldc (pc := 77) X q_128 dX1_init_77 ?_
  obtain ⟨k57, h⟩ := gd_i h
  refine g_iast (pc := 79) X k57 dX1_init_79 ?_
  obtain ⟨w58, e59, h⟩ := lb_i h
  refine g_w e59 ?_
  refine g_dup (pc := 80) X rfl dX1_init_80 ?_
  refine g_iconst (pc := 81) X (v := 1) dX1_init_81 rfl ?_
  refine g_ldc (pc := 82) X q_128 dX1_init_82 ?_
  obtain ⟨k60, h⟩ := gd_i h
  refine g_iast (pc := 84) X k60 dX1_init_84 ?_
  obtain ⟨w61, e62, h⟩ := lb_i h
  refine g_w e62 ?_
  refine g_dup (pc := 85) X rfl dX1_init_85 ?_
  refine g_iconst (pc := 86) X (v := 2) dX1_init_86 rfl ?_
  refine g_ldc (pc := 87) X q_128 dX1_init_87 ?_
  obtain ⟨k63, h⟩ := gd_i h
  refine g_iast (pc := 89) X k63 dX1_init_89 ?_
  obtain ⟨w64, e65, h⟩ := lb_i h
  refine g_w e65 ?_
  obtain ⟨k66, h⟩ := gd_i h
  refine g_putFR (pc := 90) X FcX1 k66 10 (by decide) rfl q_179 rfl Y.2.2.2 rfl rfl rfl dX1_init_90 ?_
  obtain ⟨w67, e68, h⟩ := lb_i h
  refine g_w e68 ?_
  refine g_iconst (pc := 93) X (v := 0) dX1_init_93 rfl ?_
  refine g_istore_n (pc := 94) X (lv' := [(1, .int 0), (0, rf V v0)]) dX1_init_94 (by decide) rfl ?_
  refine g_iload_n (pc := 95) X 0 rfl dX1_init_95 ?_
  refine g_bipush (pc := 96) X (v := 12) dX1_init_96 rfl ?_
  refine g_icmp_ge (pc := 98) X (tgt := 120) dX1_init_98 rfl (fun c => absurd c (by decide)) (fun _ => ?_)
  refine g_aload_n (pc := 101) X 1 rfl dX1_init_101 ?_
  obtain ⟨a69, e70, h⟩ := bd1_i h
  refine g_getR (pc := 102) X FcX1 (kd_R e68 k66) 1 e70 (by decide) rfl q_159 dX1_init_102 ?_
  refine g_iload_n (pc := 105) X 0 rfl dX1_init_105 ?_
  refine g_new (pc := 106) X FcX4 dfX4 q_124 q_129 q_67 (by rw [Y.2.1]; exact Nat.le_of_ble_eq_true rfl) (by rw [Y.2.1]; exact Nat.le_of_ble_eq_true rfl) dX1_init_106 ?_
  obtain ⟨a71, e72, h⟩ := lb_i h
  obtain ⟨w73, e74, h⟩ := lb_i h
  refine g_w e74 ?_
  refine g_topr e72 ?_
  refine g_dup (pc := 109) X rfl dX1_init_109 ?_
  obtain ⟨r75, w76, h77, h⟩ := bd2_i h
  refine g_callIN (pc := 110) X mk_X4_init rfl q_131 (host := RX8) (by decide +kernel) (c_X4_init h77) rfl rfl (by rw [Y.2.1]; decide)  rfl (rest := [rf V a71, .int 0, rf V a69]) rfl (Nat.le_of_ble_eq_true rfl) (by rw [Y.2.1]; exact ⟨Nat.le_of_ble_eq_true rfl, Nat.le_of_ble_eq_true rfl⟩) dX1_init_110 (st' := [rf V a71, .int 0, rf V a69]) rfl ?_
  obtain ⟨k78, h⟩ := gd_i h
  obtain ⟨k79, h⟩ := gd_i h
  refine g_aast (pc := 113) X FcX4 k78 k79 (by decide) (by decide) rfl dX1_init_113 ?_
  obtain ⟨w80, e81, h⟩ := lb_i h
  refine g_w e81 ?_
  refine g_iinc (pc := 114) X 0 rfl dX1_init_114 (v := 1) rfl (by decide) (lv' := [(1, .int 1), (0, rf V v0)]) rfl ?_
  refine g_goto (pc := 117) X (tgt := 95) dX1_init_117 rfl ?_
  refine g_iload_n (pc := 95) X 0 rfl dX1_init_95 ?_
  refine g_bipush (pc := 96) X (v := 12) dX1_init_96 rfl ?_
  refine g_icmp_ge (pc := 98) X (tgt := 120) dX1_init_98 rfl (fun c => absurd c (by decide)) (fun _ => ?_)
  refine g_aload_n (pc := 101) X 1 rfl dX1_init_101 ?_
  obtain ⟨k82, h⟩ := gd_i h
  obtain ⟨a83, e84, h⟩ := bd1_i h
  refine g_getR (pc := 102) X FcX1 k82 1 e84 (by decide) rfl q_159 dX1_init_102 ?_
  refine g_iload_n (pc := 105) X 0 rfl dX1_init_105 ?_
  refine g_new (pc := 106) X FcX4 dfX4 q_124 q_129 q_67 (by rw [Y.2.1]; exact Nat.le_of_ble_eq_true rfl) (by rw [Y.2.1]; exact Nat.le_of_ble_eq_true rfl) dX1_init_106 ?_
  obtain ⟨a85, e86, h⟩ := lb_i h
  obtain ⟨w87, e88, h⟩ := lb_i h
  refine g_w e88 ?_
  refine g_topr e86 ?_
  refine g_dup (pc := 109) X rfl dX1_init_109 ?_
  obtain ⟨r89, w90, h91, h⟩ := bd2_i h
  refine g_callIN (pc := 110) X mk_X4_init rfl q_131 (host := RX8) (by decide +kernel) (c_X4_init h91) rfl rfl (by rw [Y.2.1]; decide)  rfl (rest := [rf V a85, .int 1, rf V a83]) rfl (Nat.le_of_ble_eq_true rfl) (by rw [Y.2.1]; exact ⟨Nat.le_of_ble_eq_true rfl, Nat.le_of_ble_eq_true rfl⟩) dX1_init_110 (st' := [rf V a85, .int 1, rf V a83]) rfl ?_
  obtain ⟨k92, h⟩ := gd_i h
  obtain ⟨k93, h⟩ := gd_i h
  refine g_aast (pc := 113) X FcX4 k92 k93 (by decide) (by decide) rfl dX1_init_113 ?_
  obtain ⟨w94, e95, h⟩ := lb_i h
  refine g_w e95 ?_
  refine g_iinc (pc := 114) X 0 rfl dX1_init_114 (v := 2) rfl (by decide) (lv' := [(1, .int 2), (0, rf V v0)]) rfl ?_
  refine g_goto (pc := 117) X (tgt := 95) dX1_init_117 rfl ?_
  refine g_iload_n (pc := 95) X 0 rfl dX1_init_95 ?_
  refine g_bipush (pc := 96) X (v := 12) dX1_init_96 rfl ?_
  refine g_icmp_ge (pc := 98) X (tgt := 120) dX1_init_98 rfl (fun c => absurd c (by decide)) (fun _ => ?_)
  refine g_aload_n (pc := 101) X 1 rfl dX1_init_101 ?_
  obtain ⟨k96, h⟩ := gd_i h
  obtain ⟨a97, e98, h⟩ := bd1_i h
  refine g_getR (pc := 102) X FcX1 k96 1 e98 (by decide) rfl q_159 dX1_init_102 ?_
  refine g_iload_n (pc := 105) X 0 rfl dX1_init_105 ?_
  refine g_new (pc := 106) X FcX4 dfX4 q_124 q_129 q_67 (by rw [Y.2.1]; exact Nat.le_of_ble_eq_true rfl) (by rw [Y.2.1]; exact Nat.le_of_ble_eq_true rfl) dX1_init_106 ?_
  obtain ⟨a99, e100, h⟩ := lb_i h
  obtain ⟨w101, e102, h⟩ := lb_i h
  refine g_w e102 ?_
  refine g_topr e100 ?_
  refine g_dup (pc := 109) X rfl dX1_init_109 ?_
  obtain ⟨r103, w104, h105, h⟩ := bd2_i h
  refine g_callIN (pc := 110) X mk_X4_init rfl q_131 (host := RX8) (by decide +kernel) (c_X4_init h105) rfl rfl (by rw [Y.2.1]; decide)  rfl (rest := [rf V a99, .int 2, rf V a97]) rfl (Nat.le_of_ble_eq_true rfl) (by rw [Y.2.1]; exact ⟨Nat.le_of_ble_eq_true rfl, Nat.le_of_ble_eq_true rfl⟩) dX1_init_110 (st' := [rf V a99, .int 2, rf V a97]) rfl ?_
  obtain ⟨k106, h⟩ := gd_i h
  obtain ⟨k107, h⟩ := gd_i h
  refine g_aast (pc := 113) X FcX4 k106 k107 (by decide) (by decide) rfl dX1_init_113 ?_
  obtain ⟨w108, e109, h⟩ := lb_i h
  refine g_w e109 ?_
  refine g_iinc (pc := 114) X 0 rfl dX1_init_114 (v := 3) rfl (by decide) (lv' := [(1, .int 3), (0, rf V v0)]) rfl ?_
  refine g_goto (pc := 117) X (tgt := 95) dX1_init_117 rfl ?_
  refine g_iload_n (pc := 95) X 0 rfl dX1_init_95 ?_
  refine g_bipush (pc := 96) X (v := 12) dX1_init_96 rfl ?_
  refine g_icmp_ge (pc := 98) X (tgt := 120) dX1_init_98 rfl (fun c => absurd c (by decide)) (fun _ => ?_)
  refine g_aload_n (pc := 101) X 1 rfl dX1_init_101 ?_
  obtain ⟨k110, h⟩ := gd_i h
  obtain ⟨a111, e112, h⟩ := bd1_i h
  refine g_getR (pc := 102) X FcX1 k110 1 e112 (by decide) rfl q_159 dX1_init_102 ?_
  refine g_iload_n (pc := 105) X 0 rfl dX1_init_105 ?_
  refine g_new (pc := 106) X FcX4 dfX4 q_124 q_129 q_67 (by rw [Y.2.1]; exact Nat.le_of_ble_eq_true rfl) (by rw [Y.2.1]; exact Nat.le_of_ble_eq_true rfl) dX1_init_106 ?_
  obtain ⟨a113, e114, h⟩ := lb_i h
  obtain ⟨w115, e116, h⟩ := lb_i h
  refine g_w e116 ?_
  refine g_topr e114 ?_
  refine g_dup (pc := 109) X rfl dX1_init_109 ?_
  obtain ⟨r117, w118, h119, h⟩ := bd2_i h
  refine g_callIN (pc := 110) X mk_X4_init rfl q_131 (host := RX8) (by decide +kernel) (c_X4_init h119) rfl rfl (by rw [Y.2.1]; decide)  rfl (rest := [rf V a113, .int 3, rf V a111]) rfl (Nat.le_of_ble_eq_true rfl) (by rw [Y.2.1]; exact ⟨Nat.le_of_ble_eq_true rfl, Nat.le_of_ble_eq_true rfl⟩) dX1_init_110 (st' := [rf V a113, .int 3, rf V a111]) rfl ?_
  obtain ⟨k120, h⟩ := gd_i h
  obtain ⟨k121, h⟩ := gd_i h
  refine g_aast (pc := 113) X FcX4 k120 k121 (by decide) (by decide) rfl dX1_init_113 ?_
  obtain ⟨w122, e123, h⟩ := lb_i h
  refine g_w e123 ?_
  refine g_iinc (pc := 114) X 0 rfl dX1_init_114 (v := 4) rfl (by decide) (lv' := [(1, .int 4), (0, rf V v0)]) rfl ?_
  refine g_goto (pc := 117) X (tgt := 95) dX1_init_117 rfl ?_
  refine g_iload_n (pc := 95) X 0 rfl dX1_init_95 ?_
  refine g_bipush (pc := 96) X (v := 12) dX1_init_96 rfl ?_
  refine g_icmp_ge (pc := 98) X (tgt := 120) dX1_init_98 rfl (fun c => absurd c (by decide)) (fun _ => ?_)
  refine g_aload_n (pc := 101) X 1 rfl dX1_init_101 ?_
  obtain ⟨k124, h⟩ := gd_i h
  obtain ⟨a125, e126, h⟩ := bd1_i h
  refine g_getR (pc := 102) X FcX1 k124 1 e126 (by decide) rfl q_159 dX1_init_102 ?_
  refine g_iload_n (pc := 105) X 0 rfl dX1_init_105 ?_
  refine g_new (pc := 106) X FcX4 dfX4 q_124 q_129 q_67 (by rw [Y.2.1]; exact Nat.le_of_ble_eq_true rfl) (by rw [Y.2.1]; exact Nat.le_of_ble_eq_true rfl) dX1_init_106 ?_
  obtain ⟨a127, e128, h⟩ := lb_i h
  obtain ⟨w129, e130, h⟩ := lb_i h
  refine g_w e130 ?_
  refine g_topr e128 ?_
  refine g_dup (pc := 109) X rfl dX1_init_109 ?_
  obtain ⟨r131, w132, h133, h⟩ := bd2_i h
  refine g_callIN (pc := 110) X mk_X4_init rfl q_131 (host := RX8) (by decide +kernel) (c_X4_init h133) rfl rfl (by rw [Y.2.1]; decide)  rfl (rest := [rf V a127, .int 4, rf V a125]) rfl (Nat.le_of_ble_eq_true rfl) (by rw [Y.2.1]; exact ⟨Nat.le_of_ble_eq_true rfl, Nat.le_of_ble_eq_true rfl⟩) dX1_init_110 (st' := [rf V a127, .int 4, rf V a125]) rfl ?_
  obtain ⟨k134, h⟩ := gd_i h
  obtain ⟨k135, h⟩ := gd_i h
  refine g_aast (pc := 113) X FcX4 k134 k135 (by decide) (by decide) rfl dX1_init_113 ?_
  obtain ⟨w136, e137, h⟩ := lb_i h
  refine g_w e137 ?_
  refine g_iinc (pc := 114) X 0 rfl dX1_init_114 (v := 5) rfl (by decide) (lv' := [(1, .int 5), (0, rf V v0)]) rfl ?_
  refine g_goto (pc := 117) X (tgt := 95) dX1_init_117 rfl ?_
  refine g_iload_n (pc := 95) X 0 rfl dX1_init_95 ?_
  refine g_bipush (pc := 96) X (v := 12) dX1_init_96 rfl ?_
  refine g_icmp_ge (pc := 98) X (tgt := 120) dX1_init_98 rfl (fun c => absurd c (by decide)) (fun _ => ?_)
  refine g_aload_n (pc := 101) X 1 rfl dX1_init_101 ?_
  obtain ⟨k138, h⟩ := gd_i h
  obtain ⟨a139, e140, h⟩ := bd1_i h
  refine g_getR (pc := 102) X FcX1 k138 1 e140 (by decide) rfl q_159 dX1_init_102 ?_
  refine g_iload_n (pc := 105) X 0 rfl dX1_init_105 ?_
  refine g_new (pc := 106) X FcX4 dfX4 q_124 q_129 q_67 (by rw [Y.2.1]; exact Nat.le_of_ble_eq_true rfl) (by rw [Y.2.1]; exact Nat.le_of_ble_eq_true rfl) dX1_init_106 ?_
  obtain ⟨a141, e142, h⟩ := lb_i h
  obtain ⟨w143, e144, h⟩ := lb_i h
  refine g_w e144 ?_
  refine g_topr e142 ?_
  refine g_dup (pc := 109) X rfl dX1_init_109 ?_
  obtain ⟨r145, w146, h147, h⟩ := bd2_i h
  refine g_callIN (pc := 110) X mk_X4_init rfl q_131 (host := RX8) (by decide +kernel) (c_X4_init h147) rfl rfl (by rw [Y.2.1]; decide)  rfl (rest := [rf V a141, .int 5, rf V a139]) rfl (Nat.le_of_ble_eq_true rfl) (by rw [Y.2.1]; exact ⟨Nat.le_of_ble_eq_true rfl, Nat.le_of_ble_eq_true rfl⟩) dX1_init_110 (st' := [rf V a141, .int 5, rf V a139]) rfl ?_
  obtain ⟨k148, h⟩ := gd_i h
  obtain ⟨k149, h⟩ := gd_i h
  refine g_aast (pc := 113) X FcX4 k148 k149 (by decide) (by decide) rfl dX1_init_113 ?_
  obtain ⟨w150, e151, h⟩ := lb_i h
  refine g_w e151 ?_
  refine g_iinc (pc := 114) X 0 rfl dX1_init_114 (v := 6) rfl (by decide) (lv' := [(1, .int 6), (0, rf V v0)]) rfl ?_
  refine g_goto (pc := 117) X (tgt := 95) dX1_init_117 rfl ?_
  refine g_iload_n (pc := 95) X 0 rfl dX1_init_95 ?_
  refine g_bipush (pc := 96) X (v := 12) dX1_init_96 rfl ?_
  refine g_icmp_ge (pc := 98) X (tgt := 120) dX1_init_98 rfl (fun c => absurd c (by decide)) (fun _ => ?_)
  refine g_aload_n (pc := 101) X 1 rfl dX1_init_101 ?_
  obtain ⟨k152, h⟩ := gd_i h
  obtain ⟨a153, e154, h⟩ := bd1_i h
  refine g_getR (pc := 102) X FcX1 k152 1 e154 (by decide) rfl q_159 dX1_init_102 ?_
  refine g_iload_n (pc := 105) X 0 rfl dX1_init_105 ?_
  refine g_new (pc := 106) X FcX4 dfX4 q_124 q_129 q_67 (by rw [Y.2.1]; exact Nat.le_of_ble_eq_true rfl) (by rw [Y.2.1]; exact Nat.le_of_ble_eq_true rfl) dX1_init_106 ?_
  obtain ⟨a155, e156, h⟩ := lb_i h
  obtain ⟨w157, e158, h⟩ := lb_i h
  refine g_w e158 ?_
  refine g_topr e156 ?_
  refine g_dup (pc := 109) X rfl dX1_init_109 ?_
  obtain ⟨r159, w160, h161, h⟩ := bd2_i h
  refine g_callIN (pc := 110) X mk_X4_init rfl q_131 (host := RX8) (by decide +kernel) (c_X4_init h161) rfl rfl (by rw [Y.2.1]; decide)  rfl (rest := [rf V a155, .int 6, rf V a153]) rfl (Nat.le_of_ble_eq_true rfl) (by rw [Y.2.1]; exact ⟨Nat.le_of_ble_eq_true rfl, Nat.le_of_ble_eq_true rfl⟩) dX1_init_110 (st' := [rf V a155, .int 6, rf V a153]) rfl ?_
  obtain ⟨k162, h⟩ := gd_i h
  obtain ⟨k163, h⟩ := gd_i h
  refine g_aast (pc := 113) X FcX4 k162 k163 (by decide) (by decide) rfl dX1_init_113 ?_
  obtain ⟨w164, e165, h⟩ := lb_i h
  refine g_w e165 ?_
  refine g_iinc (pc := 114) X 0 rfl dX1_init_114 (v := 7) rfl (by decide) (lv' := [(1, .int 7), (0, rf V v0)]) rfl ?_
  refine g_goto (pc := 117) X (tgt := 95) dX1_init_117 rfl ?_
  refine g_iload_n (pc := 95) X 0 rfl dX1_init_95 ?_
  refine g_bipush (pc := 96) X (v := 12) dX1_init_96 rfl ?_
  refine g_icmp_ge (pc := 98) X (tgt := 120) dX1_init_98 rfl (fun c => absurd c (by decide)) (fun _ => ?_)
  refine g_aload_n (pc := 101) X 1 rfl dX1_init_101 ?_
  obtain ⟨k166, h⟩ := gd_i h
  obtain ⟨a167, e168, h⟩ := bd1_i h
  refine g_getR (pc := 102) X FcX1 k166 1 e168 (by decide) rfl q_159 dX1_init_102 ?_
  refine g_iload_n (pc := 105) X 0 rfl dX1_init_105 ?_
  refine g_new (pc := 106) X FcX4 dfX4 q_124 q_129 q_67 (by rw [Y.2.1]; exact Nat.le_of_ble_eq_true rfl) (by rw [Y.2.1]; exact Nat.le_of_ble_eq_true rfl) dX1_init_106 ?_
  obtain ⟨a169, e170, h⟩ := lb_i h
  obtain ⟨w171, e172, h⟩ := lb_i h
  refine g_w e172 ?_
  refine g_topr e170 ?_
  refine g_dup (pc := 109) X rfl dX1_init_109 ?_
  obtain ⟨r173, w174, h175, h⟩ := bd2_i h
  refine g_callIN (pc := 110) X mk_X4_init rfl q_131 (host := RX8) (by decide +kernel) (c_X4_init h175) rfl rfl (by rw [Y.2.1]; decide)  rfl (rest := [rf V a169, .int 7, rf V a167]) rfl (Nat.le_of_ble_eq_true rfl) (by rw [Y.2.1]; exact ⟨Nat.le_of_ble_eq_true rfl, Nat.le_of_ble_eq_true rfl⟩) dX1_init_110 (st' := [rf V a169, .int 7, rf V a167]) rfl ?_
  obtain ⟨k176, h⟩ := gd_i h
  obtain ⟨k177, h⟩ := gd_i h
  refine g_aast (pc := 113) X FcX4 k176 k177 (by decide) (by decide) rfl dX1_init_113 ?_
  obtain ⟨w178, e179, h⟩ := lb_i h
  refine g_w e179 ?_
  refine g_iinc (pc := 114) X 0 rfl dX1_init_114 (v := 8) rfl (by decide) (lv' := [(1, .int 8), (0, rf V v0)]) rfl ?_
  refine g_goto (pc := 117) X (tgt := 95) dX1_init_117 rfl ?_
  refine g_iload_n (pc := 95) X 0 rfl dX1_init_95 ?_
  refine g_bipush (pc := 96) X (v := 12) dX1_init_96 rfl ?_
  refine g_icmp_ge (pc := 98) X (tgt := 120) dX1_init_98 rfl (fun c => absurd c (by decide)) (fun _ => ?_)
  refine g_aload_n (pc := 101) X 1 rfl dX1_init_101 ?_
  obtain ⟨k180, h⟩ := gd_i h
  obtain ⟨a181, e182, h⟩ := bd1_i h
  refine g_getR (pc := 102) X FcX1 k180 1 e182 (by decide) rfl q_159 dX1_init_102 ?_
  refine g_iload_n (pc := 105) X 0 rfl dX1_init_105 ?_
  refine g_new (pc := 106) X FcX4 dfX4 q_124 q_129 q_67 (by rw [Y.2.1]; exact Nat.le_of_ble_eq_true rfl) (by rw [Y.2.1]; exact Nat.le_of_ble_eq_true rfl) dX1_init_106 ?_
  obtain ⟨a183, e184, h⟩ := lb_i h
  obtain ⟨w185, e186, h⟩ := lb_i h
  refine g_w e186 ?_
  refine g_topr e184 ?_
  refine g_dup (pc := 109) X rfl dX1_init_109 ?_
  obtain ⟨r187, w188, h189, h⟩ := bd2_i h
  refine g_callIN (pc := 110) X mk_X4_init rfl q_131 (host := RX8) (by decide +kernel) (c_X4_init h189) rfl rfl (by rw [Y.2.1]; decide)  rfl (rest := [rf V a183, .int 8, rf V a181]) rfl (Nat.le_of_ble_eq_true rfl) (by rw [Y.2.1]; exact ⟨Nat.le_of_ble_eq_true rfl, Nat.le_of_ble_eq_true rfl⟩) dX1_init_110 (st' := [rf V a183, .int 8, rf V a181]) rfl ?_
  obtain ⟨k190, h⟩ := gd_i h
  obtain ⟨k191, h⟩ := gd_i h
  refine g_aast (pc := 113) X FcX4 k190 k191 (by decide) (by decide) rfl dX1_init_113 ?_
  obtain ⟨w192, e193, h⟩ := lb_i h
  refine g_w e193 ?_
  refine g_iinc (pc := 114) X 0 rfl dX1_init_114 (v := 9) rfl (by decide) (lv' := [(1, .int 9), (0, rf V v0)]) rfl ?_
  refine g_goto (pc := 117) X (tgt := 95) dX1_init_117 rfl ?_
  refine g_iload_n (pc := 95) X 0 rfl dX1_init_95 ?_
  refine g_bipush (pc := 96) X (v := 12) dX1_init_96 rfl ?_
  refine g_icmp_ge (pc := 98) X (tgt := 120) dX1_init_98 rfl (fun c => absurd c (by decide)) (fun _ => ?_)
  refine g_aload_n (pc := 101) X 1 rfl dX1_init_101 ?_
  obtain ⟨k194, h⟩ := gd_i h
  obtain ⟨a195, e196, h⟩ := bd1_i h
  refine g_getR (pc := 102) X FcX1 k194 1 e196 (by decide) rfl q_159 dX1_init_102 ?_
  refine g_iload_n (pc := 105) X 0 rfl dX1_init_105 ?_
  refine g_new (pc := 106) X FcX4 dfX4 q_124 q_129 q_67 (by rw [Y.2.1]; exact Nat.le_of_ble_eq_true rfl) (by rw [Y.2.1]; exact Nat.le_of_ble_eq_true rfl) dX1_init_106 ?_
  obtain ⟨a197, e198, h⟩ := lb_i h
  obtain ⟨w199, e200, h⟩ := lb_i h
  refine g_w e200 ?_
  refine g_topr e198 ?_
  refine g_dup (pc := 109) X rfl dX1_init_109 ?_
  obtain ⟨r201, w202, h203, h⟩ := bd2_i h
  refine g_callIN (pc := 110) X mk_X4_init rfl q_131 (host := RX8) (by decide +kernel) (c_X4_init h203) rfl rfl (by rw [Y.2.1]; decide)  rfl (rest := [rf V a197, .int 9, rf V a195]) rfl (Nat.le_of_ble_eq_true rfl) (by rw [Y.2.1]; exact ⟨Nat.le_of_ble_eq_true rfl, Nat.le_of_ble_eq_true rfl⟩) dX1_init_110 (st' := [rf V a197, .int 9, rf V a195]) rfl ?_
  obtain ⟨k204, h⟩ := gd_i h
  obtain ⟨k205, h⟩ := gd_i h
  refine g_aast (pc := 113) X FcX4 k204 k205 (by decide) (by decide) rfl dX1_init_113 ?_
  obtain ⟨w206, e207, h⟩ := lb_i h
  refine g_w e207 ?_
  refine g_iinc (pc := 114) X 0 rfl dX1_init_114 (v := 10) rfl (by decide) (lv' := [(1, .int 10), (0, rf V v0)]) rfl ?_
  refine g_goto (pc := 117) X (tgt := 95) dX1_init_117 rfl ?_
  refine g_iload_n (pc := 95) X 0 rfl dX1_init_95 ?_
  refine g_bipush (pc := 96) X (v := 12) dX1_init_96 rfl ?_
  refine g_icmp_ge (pc := 98) X (tgt := 120) dX1_init_98 rfl (fun c => absurd c (by decide)) (fun _ => ?_)
  refine g_aload_n (pc := 101) X 1 rfl dX1_init_101 ?_
  obtain ⟨k208, h⟩ := gd_i h
  obtain ⟨a209, e210, h⟩ := bd1_i h
  refine g_getR (pc := 102) X FcX1 k208 1 e210 (by decide) rfl q_159 dX1_init_102 ?_
  refine g_iload_n (pc := 105) X 0 rfl dX1_init_105 ?_
  refine g_new (pc := 106) X FcX4 dfX4 q_124 q_129 q_67 (by rw [Y.2.1]; exact Nat.le_of_ble_eq_true rfl) (by rw [Y.2.1]; exact Nat.le_of_ble_eq_true rfl) dX1_init_106 ?_
  obtain ⟨a211, e212, h⟩ := lb_i h
  obtain ⟨w213, e214, h⟩ := lb_i h
  refine g_w e214 ?_
  refine g_topr e212 ?_
  refine g_dup (pc := 109) X rfl dX1_init_109 ?_
  obtain ⟨r215, w216, h217, h⟩ := bd2_i h
  refine g_callIN (pc := 110) X mk_X4_init rfl q_131 (host := RX8) (by decide +kernel) (c_X4_init h217) rfl rfl (by rw [Y.2.1]; decide)  rfl (rest := [rf V a211, .int 10, rf V a209]) rfl (Nat.le_of_ble_eq_true rfl) (by rw [Y.2.1]; exact ⟨Nat.le_of_ble_eq_true rfl, Nat.le_of_ble_eq_true rfl⟩) dX1_init_110 (st' := [rf V a211, .int 10, rf V a209]) rfl ?_
  obtain ⟨k218, h⟩ := gd_i h
  obtain ⟨k219, h⟩ := gd_i h
  refine g_aast (pc := 113) X FcX4 k218 k219 (by decide) (by decide) rfl dX1_init_113 ?_
  obtain ⟨w220, e221, h⟩ := lb_i h
  refine g_w e221 ?_
  refine g_iinc (pc := 114) X 0 rfl dX1_init_114 (v := 11) rfl (by decide) (lv' := [(1, .int 11), (0, rf V v0)]) rfl ?_
  refine g_goto (pc := 117) X (tgt := 95) dX1_init_117 rfl ?_
  refine g_iload_n (pc := 95) X 0 rfl dX1_init_95 ?_
  refine g_bipush (pc := 96) X (v := 12) dX1_init_96 rfl ?_
  refine g_icmp_ge (pc := 98) X (tgt := 120) dX1_init_98 rfl (fun c => absurd c (by decide)) (fun _ => ?_)
  refine g_aload_n (pc := 101) X 1 rfl dX1_init_101 ?_
  obtain ⟨k222, h⟩ := gd_i h
  obtain ⟨a223, e224, h⟩ := bd1_i h
  refine g_getR (pc := 102) X FcX1 k222 1 e224 (by decide) rfl q_159 dX1_init_102 ?_
  refine g_iload_n (pc := 105) X 0 rfl dX1_init_105 ?_
  refine g_new (pc := 106) X FcX4 dfX4 q_124 q_129 q_67 (by rw [Y.2.1]; exact Nat.le_of_ble_eq_true rfl) (by rw [Y.2.1]; exact Nat.le_of_ble_eq_true rfl) dX1_init_106 ?_
  obtain ⟨a225, e226, h⟩ := lb_i h
  obtain ⟨w227, e228, h⟩ := lb_i h
  refine g_w e228 ?_
  refine g_topr e226 ?_
  refine g_dup (pc := 109) X rfl dX1_init_109 ?_
  obtain ⟨r229, w230, h231, h⟩ := bd2_i h
  refine g_callIN (pc := 110) X mk_X4_init rfl q_131 (host := RX8) (by decide +kernel) (c_X4_init h231) rfl rfl (by rw [Y.2.1]; decide)  rfl (rest := [rf V a225, .int 11, rf V a223]) rfl (Nat.le_of_ble_eq_true rfl) (by rw [Y.2.1]; exact ⟨Nat.le_of_ble_eq_true rfl, Nat.le_of_ble_eq_true rfl⟩) dX1_init_110 (st' := [rf V a225, .int 11, rf V a223]) rfl ?_
  obtain ⟨k232, h⟩ := gd_i h
  obtain ⟨k233, h⟩ := gd_i h
  refine g_aast (pc := 113) X FcX4 k232 k233 (by decide) (by decide) rfl dX1_init_113 ?_
  obtain ⟨w234, e235, h⟩ := lb_i h
  refine g_w e235 ?_
  refine g_iinc (pc := 114) X 0 rfl dX1_init_114 (v := 12) rfl (by decide) (lv' := [(1, .int 12), (0, rf V v0)]) rfl ?_
  refine g_goto (pc := 117) X (tgt := 95) dX1_init_117 rfl ?_
  refine g_iload_n (pc := 95) X 0 rfl dX1_init_95 ?_
  refine g_bipush (pc := 96) X (v := 12) dX1_init_96 rfl ?_
  refine g_icmp_ge (pc := 98) X (tgt := 120) dX1_init_98 rfl (fun _ => ?_) (fun c => absurd (by decide) c)
  obtain ⟨e1, e2⟩ := rt_i h
  exact g_vret (pc := 120) X Y.2.2.1 (Nat.le_of_ble_eq_true rfl) (Nat.le_of_ble_eq_true rfl) e2 dX1_init_120

def f_X4_become (v0 : Nat) (v1 : Nat) (w : Wd) : Option (Unit × Wd) := (if wK w v1 = 4 then
 (if wK w v0 = 4 then
 (lb_ (sI w v0 0 (wI w v1 0)) fun w3 =>
 (lb_ (sI w3 v0 1 (wI w3 v1 1)) fun w5 =>
 (lb_ (sI w5 v0 2 (wI w5 v1 2)) fun w7 =>
 (lb_ (sI w7 v0 3 (wI w7 v1 3)) fun w9 =>
 some ((), w9)))))
 else none)
 else none)
theorem c_X4_become {l : Launch} {V : Vt} {v0 : Nat} {v1 : Nat} {w w' : Wd} {r : Unit} (h : f_X4_become v0 v1 w = some (r, w')) : MetW l V yX4_become cX4_become 2 (none) { frames := 0, cells := 0, slots := 0, locals := 0 } w [rf V v0, rf V v1] none w' 0 0 := by
  refine g_start (by decide) (Nat.le_of_ble_eq_true rfl) ?_
  intro t _ hrm X hret hnm
  have Y : Hd_ t V cX4_become 2 RX4 { frames := 0, cells := 0, slots := 0, locals := 0 } (none) "become" := ⟨X, hrm, hret, hnm⟩
  refine g_as (lv' := [(0, rf V v0), (1, rf V v1)]) (st' := []) rfl rfl ?_
  unfold f_X4_become at h
  refine g_aload_n (pc := 0) X 0 rfl dX4_become_0 ?_
  refine g_aload_n (pc := 1) X 1 rfl dX4_become_1 ?_
  obtain ⟨k1, h⟩ := gd_i h
  refine g_getI (pc := 2) X FcX4 k1 0 (by decide) rfl q_134 dX4_become_2 ?_
  obtain ⟨k2, h⟩ := gd_i h
  refine g_putI (pc := 5) X FcX4 k2 0 (by decide) rfl q_134 rfl rfl rfl dX4_become_5 ?_
  obtain ⟨w3, e4, h⟩ := lb_i h
  refine g_w e4 ?_
  refine g_aload_n (pc := 8) X 0 rfl dX4_become_8 ?_
  refine g_aload_n (pc := 9) X 1 rfl dX4_become_9 ?_
  refine g_getI (pc := 10) X FcX4 (kd_I e4 k1) 1 (by decide) rfl q_137 dX4_become_10 ?_
  refine g_putI (pc := 13) X FcX4 (kd_I e4 k2) 1 (by decide) rfl q_137 rfl rfl rfl dX4_become_13 ?_
  obtain ⟨w5, e6, h⟩ := lb_i h
  refine g_w e6 ?_
  refine g_aload_n (pc := 16) X 0 rfl dX4_become_16 ?_
  refine g_aload_n (pc := 17) X 1 rfl dX4_become_17 ?_
  refine g_getI (pc := 18) X FcX4 (kd_I e6 (kd_I e4 k1)) 2 (by decide) rfl q_140 dX4_become_18 ?_
  refine g_putI (pc := 21) X FcX4 (kd_I e6 (kd_I e4 k2)) 2 (by decide) rfl q_140 rfl rfl rfl dX4_become_21 ?_
  obtain ⟨w7, e8, h⟩ := lb_i h
  refine g_w e8 ?_
  refine g_aload_n (pc := 24) X 0 rfl dX4_become_24 ?_
  refine g_aload_n (pc := 25) X 1 rfl dX4_become_25 ?_
  refine g_getI (pc := 26) X FcX4 (kd_I e8 (kd_I e6 (kd_I e4 k1))) 3 (by decide) rfl q_143 dX4_become_26 ?_
  refine g_putI (pc := 29) X FcX4 (kd_I e8 (kd_I e6 (kd_I e4 k2))) 3 (by decide) rfl q_143 rfl rfl rfl dX4_become_29 ?_
  obtain ⟨w9, e10, h⟩ := lb_i h
  refine g_w e10 ?_
  obtain ⟨e1, e2⟩ := rt_i h
  exact g_vret (pc := 32) X Y.2.2.1 (Nat.le_of_ble_eq_true rfl) (Nat.le_of_ble_eq_true rfl) e2 dX4_become_32

def L_X1_become_117  (n : Nat) (v0 : Nat) (v1 : Nat) (v2 : Int32) (w : Wd) : Option (Unit × Wd) := match n with
  | 0 => none
  | n + 1 => (if wK w v0 = 1 then
 (if (wI w v0 9) ≤ v2 then
 (if wK w v1 = 1 then
 (bd1 (wR w v1 10) fun a44 =>
 (bd1 (wR w v0 10) fun a46 =>
 (bd1 (wR w v0 10) fun a48 =>
 (if wK w a48 = 11 then
 (if cp_ok w a44 0 a46 0 (nI (wL w a48)) = true then
 (lb_ (cp_W w a44 0 a46 0 (nI (wL w a48))) fun w52 =>
 some ((), w52))
 else none)
 else none))))
 else none)
 else
 (bd1 (wR w v0 8) fun a54 =>
 (if wK w v1 = 1 then
 (bd1 (wR w v1 8) fun a57 =>
 (if aK 16 w a57 v2 = true then
 (bd1 (wR w a57 (nx v2)) fun a60 =>
 (if wK w a60 = 7 then
 (if aK 16 w a54 v2 = true then
 (lb_ (sR w a54 (nx v2) (some a60)) fun w64 =>
 (lb_ (v2 + 1) fun x66 =>
 L_X1_become_117 n v0 v1 x66 w64))
 else none)
 else none))
 else none))
 else none)))
 else none)
theorem bL_X1_become_117 {t : Ct} {V : Vt} {r : Unit} {w' : Wd} (Y : Hd_ t V cX1_become 3 RX1 { frames := 2, cells := 0, slots := 0, locals := 64 } (none) "become") : ∀ {n : Nat} {v0 : Nat} {v1 : Nat} {v2 : Int32} {w : Wd}, L_X1_become_117  n v0 v1 v2 w = some (r, w') → Gd t V 3 0 0 (Qe t V none w' 0 0) 117 [(0, rf V v0), (1, rf V v1), (2, .int v2)] [] w := by
  have X := Y.1
  intro n
  induction n with
  | zero => intro v0 v1 v2 w h; cases h
  | succ n ih0 =>
    have ih : ∀ (v0 : Nat) (v1 : Nat) (v2 : Int32) (w : Wd), L_X1_become_117  n v0 v1 v2 w = some (r, w') → Gd t V 3 0 0 (Qe t V none w' 0 0) 117 [(0, rf V v0), (1, rf V v1), (2, .int v2)] [] w := fun v0 v1 v2 w h => ih0 h
    clear ih0
    intro v0 v1 v2 w h
    unfold L_X1_become_117 at h
    refine g_iload_n (pc := 117) X 2 rfl dX1_become_117 ?_
    refine g_aload_n (pc := 118) X 0 rfl dX1_become_118 ?_
    obtain ⟨k42, h⟩ := gd_i h
    refine g_getI (pc := 119) X FcX1 k42 9 (by decide) rfl q_177 dX1_become_119 ?_
    refine g_icmp_ge (pc := 122) X (tgt := 143) dX1_become_122 rfl (fun c => ?_) (fun c => ?_)
    · have h := br_y c h
      refine g_aload_n (pc := 143) X 1 rfl dX1_become_143 ?_
      obtain ⟨k43, h⟩ := gd_i h
      obtain ⟨a44, e45, h⟩ := bd1_i h
      refine g_getR (pc := 144) X FcX1 k43 10 e45 (by decide) rfl q_179 dX1_become_144 ?_
      refine g_iconst (pc := 147) X (v := 0) dX1_become_147 rfl ?_
      refine g_aload_n (pc := 148) X 0 rfl dX1_become_148 ?_
      obtain ⟨a46, e47, h⟩ := bd1_i h
      refine g_getR (pc := 149) X FcX1 k42 10 e47 (by decide) rfl q_179 dX1_become_149 ?_
      refine g_iconst (pc := 152) X (v := 0) dX1_become_152 rfl ?_
      refine g_aload_n (pc := 153) X 0 rfl dX1_become_153 ?_
      obtain ⟨a48, e49, h⟩ := bd1_i h
      refine g_getR (pc := 154) X FcX1 k42 10 e49 (by decide) rfl q_179 dX1_become_154 ?_
      obtain ⟨k50, h⟩ := gd_i h
      refine g_alen (pc := 157) X k50 dX1_become_157 ?_
      obtain ⟨k51, h⟩ := gd_i h
      refine g_copy (pc := 158) X k51 q_649 q_651 q_650 q_76 (by rw [Y.2.1]; decide) (by rw [Y.2.1]; exact Nat.le_of_ble_eq_true rfl) dX1_become_158 ?_
      obtain ⟨w52, e53, h⟩ := lb_i h
      refine g_w e53 ?_
      obtain ⟨e1, e2⟩ := rt_i h
      exact g_vret (pc := 161) X Y.2.2.1 (Nat.le_of_ble_eq_true rfl) (Nat.le_of_ble_eq_true rfl) e2 dX1_become_161
    · have h := br_n c h
      refine g_aload_n (pc := 125) X 0 rfl dX1_become_125 ?_
      obtain ⟨a54, e55, h⟩ := bd1_i h
      refine g_getR (pc := 126) X FcX1 k42 8 e55 (by decide) rfl q_175 dX1_become_126 ?_
      refine g_iload_n (pc := 129) X 2 rfl dX1_become_129 ?_
      refine g_aload_n (pc := 130) X 1 rfl dX1_become_130 ?_
      obtain ⟨k56, h⟩ := gd_i h
      obtain ⟨a57, e58, h⟩ := bd1_i h
      refine g_getR (pc := 131) X FcX1 k56 8 e58 (by decide) rfl q_175 dX1_become_131 ?_
      refine g_iload_n (pc := 134) X 2 rfl dX1_become_134 ?_
      obtain ⟨k59, h⟩ := gd_i h
      obtain ⟨a60, e61, h⟩ := bd1_i h
      refine g_aald (pc := 135) X (C := RX7) k59 (by decide) (by decide) rfl e61 dX1_become_135 ?_
      obtain ⟨k62, h⟩ := gd_i h
      obtain ⟨k63, h⟩ := gd_i h
      refine g_aast (pc := 136) X FcX7 k62 k63 (by decide) (by decide) rfl dX1_become_136 ?_
      obtain ⟨w64, e65, h⟩ := lb_i h
      refine g_w e65 ?_
      obtain ⟨x66, e67, h⟩ := lb_i h
      refine g_iinc (pc := 137) X 2 rfl dX1_become_137 (v := x66) e67.symm (by decide) (lv' := [(2, .int x66), (0, rf V v0), (1, rf V v1)]) rfl ?_
      refine g_goto (pc := 140) X (tgt := 117) dX1_become_140 rfl ?_
      refine g_sub (lv' := [(0, rf V v0), (1, rf V v1), (2, .int x66)]) [1, 2, 0] rfl ?_
      exact ih _ _ _ _ h

def L_X1_become_21  (n : Nat) (v0 : Nat) (v1 : Nat) (v2 : Int32) (w : Wd) : Option (Unit × Wd) := match n with
  | 0 => none
  | n + 1 => (if wK w v0 = 1 then
 (if (wI w v0 2) ≤ v2 then
 (if wK w v1 = 1 then
 (bd1 (wR w v1 3) fun a17 =>
 (bd1 (wR w v0 3) fun a19 =>
 (if cp_ok w a17 0 a19 0 12 = true then
 (lb_ (cp_W w a17 0 a19 0 12) fun w22 =>
 (bd1 (wR w22 v1 4) fun a24 =>
 (bd1 (wR w22 v0 4) fun a26 =>
 (bd1 (wR w22 v0 4) fun a28 =>
 (if wK w22 a28 = 11 then
 (if cp_ok w22 a24 0 a26 0 (nI (wL w22 a28)) = true then
 (lb_ (cp_W w22 a24 0 a26 0 (nI (wL w22 a28))) fun w32 =>
 (lb_ (sI w32 v0 5 (wI w32 v1 5)) fun w34 =>
 (lb_ (sI w34 v0 6 (wI w34 v1 6)) fun w36 =>
 (lb_ (sI w36 v0 7 (wI w36 v1 7)) fun w38 =>
 (lb_ (sI w38 v0 9 (wI w38 v1 9)) fun w40 =>
 L_X1_become_117 FU v0 v1 0 w40)))))
 else none)
 else none)))))
 else none)))
 else none)
 else
 (bd1 (wR w v0 1) fun a68 =>
 (if aK 14 w a68 v2 = true then
 (bd1 (wR w a68 (nx v2)) fun a71 =>
 (if wK w v1 = 1 then
 (bd1 (wR w v1 1) fun a74 =>
 (if aK 14 w a74 v2 = true then
 (bd1 (wR w a74 (nx v2)) fun a77 =>
 (if wK w a71 = 4 then
 (bd2 (f_X4_become a71 a77 w) fun r80 w81 =>
 (lb_ (v2 + 1) fun x83 =>
 L_X1_become_21 n v0 v1 x83 w81))
 else none))
 else none))
 else none))
 else none)))
 else none)
theorem bL_X1_become_21 {t : Ct} {V : Vt} {r : Unit} {w' : Wd} (Y : Hd_ t V cX1_become 3 RX1 { frames := 2, cells := 0, slots := 0, locals := 64 } (none) "become") : ∀ {n : Nat} {v0 : Nat} {v1 : Nat} {v2 : Int32} {w : Wd}, L_X1_become_21  n v0 v1 v2 w = some (r, w') → Gd t V 3 0 0 (Qe t V none w' 0 0) 21 [(0, rf V v0), (1, rf V v1), (2, .int v2)] [] w := by
  have X := Y.1
  intro n
  induction n with
  | zero => intro v0 v1 v2 w h; cases h
  | succ n ih0 =>
    have ih : ∀ (v0 : Nat) (v1 : Nat) (v2 : Int32) (w : Wd), L_X1_become_21  n v0 v1 v2 w = some (r, w') → Gd t V 3 0 0 (Qe t V none w' 0 0) 21 [(0, rf V v0), (1, rf V v1), (2, .int v2)] [] w := fun v0 v1 v2 w h => ih0 h
    clear ih0
    intro v0 v1 v2 w h
    unfold L_X1_become_21 at h
    refine g_iload_n (pc := 21) X 2 rfl dX1_become_21 ?_
    refine g_aload_n (pc := 22) X 0 rfl dX1_become_22 ?_
    obtain ⟨k15, h⟩ := gd_i h
    refine g_getI (pc := 23) X FcX1 k15 2 (by decide) rfl q_161 dX1_become_23 ?_
    refine g_icmp_ge (pc := 26) X (tgt := 50) dX1_become_26 rfl (fun c => ?_) (fun c => ?_)
    · have h := br_y c h
      refine g_aload_n (pc := 50) X 1 rfl dX1_become_50 ?_
      obtain ⟨k16, h⟩ := gd_i h
      obtain ⟨a17, e18, h⟩ := bd1_i h
      refine g_getR (pc := 51) X FcX1 k16 3 e18 (by decide) rfl q_163 dX1_become_51 ?_
      refine g_iconst (pc := 54) X (v := 0) dX1_become_54 rfl ?_
      refine g_aload_n (pc := 55) X 0 rfl dX1_become_55 ?_
      obtain ⟨a19, e20, h⟩ := bd1_i h
      refine g_getR (pc := 56) X FcX1 k15 3 e20 (by decide) rfl q_163 dX1_become_56 ?_
      refine g_iconst (pc := 59) X (v := 0) dX1_become_59 rfl ?_
      refine g_bipush (pc := 60) X (v := 12) dX1_become_60 rfl ?_
      obtain ⟨k21, h⟩ := gd_i h
      refine g_copy (pc := 62) X k21 q_649 q_651 q_650 q_76 (by rw [Y.2.1]; decide) (by rw [Y.2.1]; exact Nat.le_of_ble_eq_true rfl) dX1_become_62 ?_
      obtain ⟨w22, e23, h⟩ := lb_i h
      refine g_w e23 ?_
      refine g_aload_n (pc := 65) X 1 rfl dX1_become_65 ?_
      obtain ⟨a24, e25, h⟩ := bd1_i h
      refine g_getR (pc := 66) X FcX1 (kd_C e23 k16) 4 e25 (by decide) rfl q_166 dX1_become_66 ?_
      refine g_iconst (pc := 69) X (v := 0) dX1_become_69 rfl ?_
      refine g_aload_n (pc := 70) X 0 rfl dX1_become_70 ?_
      obtain ⟨a26, e27, h⟩ := bd1_i h
      refine g_getR (pc := 71) X FcX1 (kd_C e23 k15) 4 e27 (by decide) rfl q_166 dX1_become_71 ?_
      refine g_iconst (pc := 74) X (v := 0) dX1_become_74 rfl ?_
      refine g_aload_n (pc := 75) X 0 rfl dX1_become_75 ?_
      obtain ⟨a28, e29, h⟩ := bd1_i h
      refine g_getR (pc := 76) X FcX1 (kd_C e23 k15) 4 e29 (by decide) rfl q_166 dX1_become_76 ?_
      obtain ⟨k30, h⟩ := gd_i h
      refine g_alen (pc := 79) X k30 dX1_become_79 ?_
      obtain ⟨k31, h⟩ := gd_i h
      refine g_copy (pc := 80) X k31 q_649 q_651 q_650 q_76 (by rw [Y.2.1]; decide) (by rw [Y.2.1]; exact Nat.le_of_ble_eq_true rfl) dX1_become_80 ?_
      obtain ⟨w32, e33, h⟩ := lb_i h
      refine g_w e33 ?_
      refine g_aload_n (pc := 83) X 0 rfl dX1_become_83 ?_
      refine g_aload_n (pc := 84) X 1 rfl dX1_become_84 ?_
      refine g_getI (pc := 85) X FcX1 (kd_C e33 (kd_C e23 k16)) 5 (by decide) rfl q_169 dX1_become_85 ?_
      refine g_putI (pc := 88) X FcX1 (kd_C e33 (kd_C e23 k15)) 5 (by decide) rfl q_169 rfl rfl rfl dX1_become_88 ?_
      obtain ⟨w34, e35, h⟩ := lb_i h
      refine g_w e35 ?_
      refine g_aload_n (pc := 91) X 0 rfl dX1_become_91 ?_
      refine g_aload_n (pc := 92) X 1 rfl dX1_become_92 ?_
      refine g_getI (pc := 93) X FcX1 (kd_I e35 (kd_C e33 (kd_C e23 k16))) 6 (by decide) rfl q_171 dX1_become_93 ?_
      refine g_putI (pc := 96) X FcX1 (kd_I e35 (kd_C e33 (kd_C e23 k15))) 6 (by decide) rfl q_171 rfl rfl rfl dX1_become_96 ?_
      obtain ⟨w36, e37, h⟩ := lb_i h
      refine g_w e37 ?_
      refine g_aload_n (pc := 99) X 0 rfl dX1_become_99 ?_
      refine g_aload_n (pc := 100) X 1 rfl dX1_become_100 ?_
      refine g_getI (pc := 101) X FcX1 (kd_I e37 (kd_I e35 (kd_C e33 (kd_C e23 k16)))) 7 (by decide) rfl q_173 dX1_become_101 ?_
      refine g_putI (pc := 104) X FcX1 (kd_I e37 (kd_I e35 (kd_C e33 (kd_C e23 k15)))) 7 (by decide) rfl q_173 rfl rfl rfl dX1_become_104 ?_
      obtain ⟨w38, e39, h⟩ := lb_i h
      refine g_w e39 ?_
      refine g_aload_n (pc := 107) X 0 rfl dX1_become_107 ?_
      refine g_aload_n (pc := 108) X 1 rfl dX1_become_108 ?_
      refine g_getI (pc := 109) X FcX1 (kd_I e39 (kd_I e37 (kd_I e35 (kd_C e33 (kd_C e23 k16))))) 9 (by decide) rfl q_177 dX1_become_109 ?_
      refine g_putI (pc := 112) X FcX1 (kd_I e39 (kd_I e37 (kd_I e35 (kd_C e33 (kd_C e23 k15))))) 9 (by decide) rfl q_177 rfl rfl rfl dX1_become_112 ?_
      obtain ⟨w40, e41, h⟩ := lb_i h
      refine g_w e41 ?_
      refine g_iconst (pc := 115) X (v := 0) dX1_become_115 rfl ?_
      refine g_istore_n (pc := 116) X (lv' := [(2, .int 0), (0, rf V v0), (1, rf V v1)]) dX1_become_116 (by decide) rfl ?_
      refine g_sub (lv' := [(0, rf V v0), (1, rf V v1), (2, .int 0)]) [1, 2, 0] rfl ?_
      exact bL_X1_become_117 Y  h
    · have h := br_n c h
      refine g_aload_n (pc := 29) X 0 rfl dX1_become_29 ?_
      obtain ⟨a68, e69, h⟩ := bd1_i h
      refine g_getR (pc := 30) X FcX1 k15 1 e69 (by decide) rfl q_159 dX1_become_30 ?_
      refine g_iload_n (pc := 33) X 2 rfl dX1_become_33 ?_
      obtain ⟨k70, h⟩ := gd_i h
      obtain ⟨a71, e72, h⟩ := bd1_i h
      refine g_aald (pc := 34) X (C := RX4) k70 (by decide) (by decide) rfl e72 dX1_become_34 ?_
      refine g_aload_n (pc := 35) X 1 rfl dX1_become_35 ?_
      obtain ⟨k73, h⟩ := gd_i h
      obtain ⟨a74, e75, h⟩ := bd1_i h
      refine g_getR (pc := 36) X FcX1 k73 1 e75 (by decide) rfl q_159 dX1_become_36 ?_
      refine g_iload_n (pc := 39) X 2 rfl dX1_become_39 ?_
      obtain ⟨k76, h⟩ := gd_i h
      obtain ⟨a77, e78, h⟩ := bd1_i h
      refine g_aald (pc := 40) X (C := RX4) k76 (by decide) (by decide) rfl e78 dX1_become_40 ?_
      obtain ⟨k79, h⟩ := gd_i h
      obtain ⟨r80, w81, h82, h⟩ := bd2_i h
      refine g_callV (pc := 41) X FcX4 k79 mk_X4_become q_646 q_647 q_645 (c_X4_become h82) rfl rfl (by rw [Y.2.1]; decide)  rfl (rest := []) rfl (Nat.le_of_ble_eq_true rfl) (by rw [Y.2.1]; exact ⟨Nat.le_of_ble_eq_true rfl, Nat.le_of_ble_eq_true rfl⟩) dX1_become_41 (st' := []) rfl ?_
      obtain ⟨x83, e84, h⟩ := lb_i h
      refine g_iinc (pc := 44) X 2 rfl dX1_become_44 (v := x83) e84.symm (by decide) (lv' := [(2, .int x83), (0, rf V v0), (1, rf V v1)]) rfl ?_
      refine g_goto (pc := 47) X (tgt := 21) dX1_become_47 rfl ?_
      refine g_sub (lv' := [(0, rf V v0), (1, rf V v1), (2, .int x83)]) [1, 2, 0] rfl ?_
      exact ih _ _ _ _ h

def f_X1_become (v0 : Nat) (v1 : Nat) (w : Wd) : Option (Unit × Wd) := (if wK w v0 = 1 then
 (bd1 (wR w v0 0) fun a2 =>
 (if wK w v1 = 1 then
 (bd1 (wR w v1 0) fun a5 =>
 (if wK w a2 = 0 then
 (bd2 (f_X0_become a2 a5 w) fun r8 w9 =>
 (if wK w9 v1 = 1 then
 (if wK w9 v0 = 1 then
 (lb_ (sI w9 v0 2 (wI w9 v1 2)) fun w13 =>
 L_X1_become_21 FU v0 v1 0 w13)
 else none)
 else none))
 else none))
 else none))
 else none)
theorem c_X1_become {l : Launch} {V : Vt} {v0 : Nat} {v1 : Nat} {w w' : Wd} {r : Unit} (h : f_X1_become v0 v1 w = some (r, w')) : MetW l V yX1_become cX1_become 3 (none) { frames := 2, cells := 0, slots := 0, locals := 64 } w [rf V v0, rf V v1] none w' 0 0 := by
  refine g_start (by decide) (Nat.le_of_ble_eq_true rfl) ?_
  intro t _ hrm X hret hnm
  have Y : Hd_ t V cX1_become 3 RX1 { frames := 2, cells := 0, slots := 0, locals := 64 } (none) "become" := ⟨X, hrm, hret, hnm⟩
  refine g_as (lv' := [(0, rf V v0), (1, rf V v1)]) (st' := []) rfl rfl ?_
  unfold f_X1_become at h
  refine g_aload_n (pc := 0) X 0 rfl dX1_become_0 ?_
  obtain ⟨k1, h⟩ := gd_i h
  obtain ⟨a2, e3, h⟩ := bd1_i h
  refine g_getR (pc := 1) X FcX1 k1 0 e3 (by decide) rfl q_156 dX1_become_1 ?_
  refine g_aload_n (pc := 4) X 1 rfl dX1_become_4 ?_
  obtain ⟨k4, h⟩ := gd_i h
  obtain ⟨a5, e6, h⟩ := bd1_i h
  refine g_getR (pc := 5) X FcX1 k4 0 e6 (by decide) rfl q_156 dX1_become_5 ?_
  obtain ⟨k7, h⟩ := gd_i h
  obtain ⟨r8, w9, h10, h⟩ := bd2_i h
  refine g_callV (pc := 8) X FcX0 k7 mk_X0_become q_641 q_642 q_640 (c_X0_become h10) rfl rfl (by rw [Y.2.1]; decide)  rfl (rest := []) rfl (Nat.le_of_ble_eq_true rfl) (by rw [Y.2.1]; exact ⟨Nat.le_of_ble_eq_true rfl, Nat.le_of_ble_eq_true rfl⟩) dX1_become_8 (st' := []) rfl ?_
  refine g_aload_n (pc := 11) X 0 rfl dX1_become_11 ?_
  refine g_aload_n (pc := 12) X 1 rfl dX1_become_12 ?_
  obtain ⟨k11, h⟩ := gd_i h
  refine g_getI (pc := 13) X FcX1 k11 2 (by decide) rfl q_161 dX1_become_13 ?_
  obtain ⟨k12, h⟩ := gd_i h
  refine g_putI (pc := 16) X FcX1 k12 2 (by decide) rfl q_161 rfl rfl rfl dX1_become_16 ?_
  obtain ⟨w13, e14, h⟩ := lb_i h
  refine g_w e14 ?_
  refine g_iconst (pc := 19) X (v := 0) dX1_become_19 rfl ?_
  refine g_istore_n (pc := 20) X (lv' := [(2, .int 0), (0, rf V v0), (1, rf V v1)]) dX1_become_20 (by decide) rfl ?_
  refine g_sub (lv' := [(0, rf V v0), (1, rf V v1), (2, .int 0)]) [1, 2, 0] rfl ?_
  exact bL_X1_become_21 Y  h

def f_X4_sitsNow (v0 : Nat) (w : Wd) : Option (Int32 × Wd) := (if wK w v0 = 4 then
 some ((if (wI w v0 1) < 0 then 0 else 1 : Int32), w)
 else none)
theorem c_X4_sitsNow {l : Launch} {V : Vt} {v0 : Nat} {w w' : Wd} {r : Int32} (h : f_X4_sitsNow v0 w = some (r, w')) : MetW l V yX4_sitsNow cX4_sitsNow 1 (some .boolean) { frames := 0, cells := 0, slots := 0, locals := 0 } w [rf V v0] (some (.int r)) w' 0 0 := by
  refine g_start (by decide) (Nat.le_of_ble_eq_true rfl) ?_
  intro t _ hrm X hret hnm
  have Y : Hd_ t V cX4_sitsNow 1 RX4 { frames := 0, cells := 0, slots := 0, locals := 0 } (some .boolean) "sitsNow" := ⟨X, hrm, hret, hnm⟩
  refine g_as (lv' := [(0, rf V v0)]) (st' := []) rfl rfl ?_
  unfold f_X4_sitsNow at h
  refine g_aload_n (pc := 0) X 0 rfl dX4_sitsNow_0 ?_
  obtain ⟨k1, h⟩ := gd_i h
  refine g_getI (pc := 1) X FcX4 k1 1 (by decide) rfl q_137 dX4_sitsNow_1 ?_
  have kJ : Gd t V 1 0 0 (Qe t V (some (.int r)) w' 0 0) 12 [(0, rf V v0)] [.int (if (wI w v0 1) < 0 then 0 else 1 : Int32)] w := by
    obtain ⟨e1, e2⟩ := rt_i h
    exact g_zret (pc := 12) X Y.2.2.1 (bz_ite (Or.inl rfl) (Or.inr rfl)) (Nat.le_of_ble_eq_true rfl) (Nat.le_of_ble_eq_true rfl) e1 e2 dX4_sitsNow_12
  refine g_if_lt (pc := 4) X (tgt := 11) dX4_sitsNow_4 rfl (fun c0 => ?_) (fun c0 => ?_)
  · refine g_iconst (pc := 11) X (v := 0) dX4_sitsNow_11 rfl ?_
    exact g_top (by rw [if_pos c0]) kJ
  · refine g_iconst (pc := 7) X (v := 1) dX4_sitsNow_7 rfl ?_
    refine g_goto (pc := 8) X (tgt := 12) dX4_sitsNow_8 rfl ?_
    exact g_top (by rw [if_neg c0]) kJ

def L_X1_standing_4  (n : Nat) (v0 : Nat) (v1 : Int32) (v2 : Int32) (w : Wd) : Option (Int32 × Wd) := match n with
  | 0 => none
  | n + 1 => (if wK w v0 = 1 then
 (if (wI w v0 2) ≤ v2 then
 some (v1, w)
 else
 (bd1 (wR w v0 1) fun a2 =>
 (if aK 14 w a2 v2 = true then
 (bd1 (wR w a2 (nx v2)) fun a5 =>
 (if wK w a5 = 4 then
 (bd2 (f_X4_sitsNow a5 w) fun r8 w9 =>
 (if r8 = 0 then
 (lb_ (v1 ||| (1 <<< (v2 &&& 31))) fun x13 =>
 (lb_ (v2 + 1) fun x15 =>
 L_X1_standing_4 n v0 x13 x15 w9))
 else
 (lb_ (v2 + 1) fun x11 =>
 L_X1_standing_4 n v0 v1 x11 w9)))
 else none))
 else none)))
 else none)
theorem bL_X1_standing_4 {t : Ct} {V : Vt} {r : Int32} {w' : Wd} (Y : Hd_ t V cX1_standing 3 RX1 { frames := 1, cells := 0, slots := 0, locals := 20 } (some .int) "standing") : ∀ {n : Nat} {v0 : Nat} {v1 : Int32} {v2 : Int32} {w : Wd}, L_X1_standing_4  n v0 v1 v2 w = some (r, w') → Gd t V 3 0 0 (Qe t V (some (.int r)) w' 0 0) 4 [(0, rf V v0), (1, .int v1), (2, .int v2)] [] w := by
  have X := Y.1
  intro n
  induction n with
  | zero => intro v0 v1 v2 w h; cases h
  | succ n ih0 =>
    have ih : ∀ (v0 : Nat) (v1 : Int32) (v2 : Int32) (w : Wd), L_X1_standing_4  n v0 v1 v2 w = some (r, w') → Gd t V 3 0 0 (Qe t V (some (.int r)) w' 0 0) 4 [(0, rf V v0), (1, .int v1), (2, .int v2)] [] w := fun v0 v1 v2 w h => ih0 h
    clear ih0
    intro v0 v1 v2 w h
    unfold L_X1_standing_4 at h
    refine g_iload_n (pc := 4) X 2 rfl dX1_standing_4 ?_
    refine g_aload_n (pc := 5) X 0 rfl dX1_standing_5 ?_
    obtain ⟨k1, h⟩ := gd_i h
    refine g_getI (pc := 6) X FcX1 k1 2 (by decide) rfl q_161 dX1_standing_6 ?_
    refine g_icmp_ge (pc := 9) X (tgt := 36) dX1_standing_9 rfl (fun c => ?_) (fun c => ?_)
    · have h := br_y c h
      refine g_iload_n (pc := 36) X 1 rfl dX1_standing_36 ?_
      obtain ⟨e1, e2⟩ := rt_i h
      exact g_iret (pc := 37) X Y.2.2.1 (Nat.le_of_ble_eq_true rfl) (Nat.le_of_ble_eq_true rfl) e1 e2 dX1_standing_37
    · have h := br_n c h
      refine g_aload_n (pc := 12) X 0 rfl dX1_standing_12 ?_
      obtain ⟨a2, e3, h⟩ := bd1_i h
      refine g_getR (pc := 13) X FcX1 k1 1 e3 (by decide) rfl q_159 dX1_standing_13 ?_
      refine g_iload_n (pc := 16) X 2 rfl dX1_standing_16 ?_
      obtain ⟨k4, h⟩ := gd_i h
      obtain ⟨a5, e6, h⟩ := bd1_i h
      refine g_aald (pc := 17) X (C := RX4) k4 (by decide) (by decide) rfl e6 dX1_standing_17 ?_
      obtain ⟨k7, h⟩ := gd_i h
      obtain ⟨r8, w9, h10, h⟩ := bd2_i h
      refine g_callV (pc := 18) X FcX4 k7 mk_X4_sitsNow q_373 q_374 q_372 (c_X4_sitsNow h10) rfl rfl (by rw [Y.2.1]; decide)  rfl (rest := []) rfl (Nat.le_of_ble_eq_true rfl) (by rw [Y.2.1]; exact ⟨Nat.le_of_ble_eq_true rfl, Nat.le_of_ble_eq_true rfl⟩) dX1_standing_18 (st' := [.int r8]) rfl ?_
      refine g_if_ne (pc := 21) X (tgt := 30) dX1_standing_21 rfl (fun c => ?_) (fun c => ?_)
      · have h := br_n c h
        obtain ⟨x11, e12, h⟩ := lb_i h
        refine g_iinc (pc := 30) X 2 rfl dX1_standing_30 (v := x11) e12.symm (by decide) (lv' := [(2, .int x11), (0, rf V v0), (1, .int v1)]) rfl ?_
        refine g_goto (pc := 33) X (tgt := 4) dX1_standing_33 rfl ?_
        refine g_sub (lv' := [(0, rf V v0), (1, .int v1), (2, .int x11)]) [1, 2, 0] rfl ?_
        exact ih _ _ _ _ h
      · have h := br_y c h
        refine g_iload_n (pc := 24) X 1 rfl dX1_standing_24 ?_
        refine g_iconst (pc := 25) X (v := 1) dX1_standing_25 rfl ?_
        refine g_iload_n (pc := 26) X 2 rfl dX1_standing_26 ?_
        refine g_ishl (pc := 27) X dX1_standing_27 ?_
        refine g_ior (pc := 28) X dX1_standing_28 ?_
        obtain ⟨x13, e14, h⟩ := lb_i h
        refine g_top e14 ?_
        refine g_istore_n (pc := 29) X (lv' := [(1, .int x13), (0, rf V v0), (2, .int v2)]) dX1_standing_29 (by decide) rfl ?_
        obtain ⟨x15, e16, h⟩ := lb_i h
        refine g_iinc (pc := 30) X 2 rfl dX1_standing_30 (v := x15) e16.symm (by decide) (lv' := [(2, .int x15), (1, .int x13), (0, rf V v0)]) rfl ?_
        refine g_goto (pc := 33) X (tgt := 4) dX1_standing_33 rfl ?_
        refine g_sub (lv' := [(0, rf V v0), (1, .int x13), (2, .int x15)]) [2, 1, 0] rfl ?_
        exact ih _ _ _ _ h

def f_X1_standing (v0 : Nat) (w : Wd) : Option (Int32 × Wd) := L_X1_standing_4 FU v0 0 0 w
theorem c_X1_standing {l : Launch} {V : Vt} {v0 : Nat} {w w' : Wd} {r : Int32} (h : f_X1_standing v0 w = some (r, w')) : MetW l V yX1_standing cX1_standing 3 (some .int) { frames := 1, cells := 0, slots := 0, locals := 20 } w [rf V v0] (some (.int r)) w' 0 0 := by
  refine g_start (by decide) (Nat.le_of_ble_eq_true rfl) ?_
  intro t _ hrm X hret hnm
  have Y : Hd_ t V cX1_standing 3 RX1 { frames := 1, cells := 0, slots := 0, locals := 20 } (some .int) "standing" := ⟨X, hrm, hret, hnm⟩
  refine g_as (lv' := [(0, rf V v0)]) (st' := []) rfl rfl ?_
  unfold f_X1_standing at h
  refine g_iconst (pc := 0) X (v := 0) dX1_standing_0 rfl ?_
  refine g_istore_n (pc := 1) X (lv' := [(1, .int 0), (0, rf V v0)]) dX1_standing_1 (by decide) rfl ?_
  refine g_iconst (pc := 2) X (v := 0) dX1_standing_2 rfl ?_
  refine g_istore_n (pc := 3) X (lv' := [(2, .int 0), (1, .int 0), (0, rf V v0)]) dX1_standing_3 (by decide) rfl ?_
  refine g_sub (lv' := [(0, rf V v0), (1, .int 0), (2, .int 0)]) [2, 1, 0] rfl ?_
  exact bL_X1_standing_4 Y  h

def f_J6_bitCount_0f7a4 (v0 : Int32) (w : Wd) : Option (Int32 × Wd) := (lb_ (v0 - ((ushr v0 1) &&& 1431655765)) fun x1 =>
 (lb_ ((x1 &&& 858993459) + ((ushr x1 2) &&& 858993459)) fun x3 =>
 (lb_ ((x3 + (ushr x3 4)) &&& 252645135) fun x5 =>
 (lb_ (x5 + (ushr x5 8)) fun x7 =>
 (lb_ (x7 + (ushr x7 16)) fun x9 =>
 some (x9 &&& 63, w))))))
theorem c_J6_bitCount_0f7a4 {l : Launch} {V : Vt} {v0 : Int32} {w w' : Wd} {r : Int32} (h : f_J6_bitCount_0f7a4 v0 w = some (r, w')) : MetW l V yJ6_bitCount_0f7a4 cJ6_bitCount_0f7a4 1 (some .int) { frames := 0, cells := 0, slots := 0, locals := 0 } w [.int v0] (some (.int r)) w' 0 0 := by
  refine g_start (by decide) (Nat.le_of_ble_eq_true rfl) ?_
  intro t _ hrm X hret hnm
  have Y : Hd_ t V cJ6_bitCount_0f7a4 1 RJ6 { frames := 0, cells := 0, slots := 0, locals := 0 } (some .int) "bitCount" := ⟨X, hrm, hret, hnm⟩
  refine g_as (lv' := [(0, .int v0)]) (st' := []) rfl rfl ?_
  unfold f_J6_bitCount_0f7a4 at h
  refine g_iload_n (pc := 0) X 0 rfl dJ6_bitCount_0f7a4_0 ?_
  refine g_iload_n (pc := 1) X 0 rfl dJ6_bitCount_0f7a4_1 ?_
  refine g_iconst (pc := 2) X (v := 1) dJ6_bitCount_0f7a4_2 rfl ?_
  refine g_iushr (pc := 3) X dJ6_bitCount_0f7a4_3 ?_
  refine g_ldcw (pc := 4) X q_379 dJ6_bitCount_0f7a4_4 ?_
  refine g_iand (pc := 7) X dJ6_bitCount_0f7a4_7 ?_
  refine g_isub (pc := 8) X dJ6_bitCount_0f7a4_8 ?_
  obtain ⟨x1, e2, h⟩ := lb_i h
  refine g_top e2 ?_
  refine g_istore_n (pc := 9) X (lv' := [(0, .int x1)]) dJ6_bitCount_0f7a4_9 (by decide) rfl ?_
  refine g_iload_n (pc := 10) X 0 rfl dJ6_bitCount_0f7a4_10 ?_
  refine g_ldcw (pc := 11) X q_380 dJ6_bitCount_0f7a4_11 ?_
  refine g_iand (pc := 14) X dJ6_bitCount_0f7a4_14 ?_
  refine g_iload_n (pc := 15) X 0 rfl dJ6_bitCount_0f7a4_15 ?_
  refine g_iconst (pc := 16) X (v := 2) dJ6_bitCount_0f7a4_16 rfl ?_
  refine g_iushr (pc := 17) X dJ6_bitCount_0f7a4_17 ?_
  refine g_ldcw (pc := 18) X q_380 dJ6_bitCount_0f7a4_18 ?_
  refine g_iand (pc := 21) X dJ6_bitCount_0f7a4_21 ?_
  refine g_iadd (pc := 22) X dJ6_bitCount_0f7a4_22 ?_
  obtain ⟨x3, e4, h⟩ := lb_i h
  refine g_top e4 ?_
  refine g_istore_n (pc := 23) X (lv' := [(0, .int x3)]) dJ6_bitCount_0f7a4_23 (by decide) rfl ?_
  refine g_iload_n (pc := 24) X 0 rfl dJ6_bitCount_0f7a4_24 ?_
  refine g_iload_n (pc := 25) X 0 rfl dJ6_bitCount_0f7a4_25 ?_
  refine g_iconst (pc := 26) X (v := 4) dJ6_bitCount_0f7a4_26 rfl ?_
  refine g_iushr (pc := 27) X dJ6_bitCount_0f7a4_27 ?_
  refine g_iadd (pc := 28) X dJ6_bitCount_0f7a4_28 ?_
  refine g_ldcw (pc := 29) X q_381 dJ6_bitCount_0f7a4_29 ?_
  refine g_iand (pc := 32) X dJ6_bitCount_0f7a4_32 ?_
  obtain ⟨x5, e6, h⟩ := lb_i h
  refine g_top e6 ?_
  refine g_istore_n (pc := 33) X (lv' := [(0, .int x5)]) dJ6_bitCount_0f7a4_33 (by decide) rfl ?_
  refine g_iload_n (pc := 34) X 0 rfl dJ6_bitCount_0f7a4_34 ?_
  refine g_iload_n (pc := 35) X 0 rfl dJ6_bitCount_0f7a4_35 ?_
  refine g_bipush (pc := 36) X (v := 8) dJ6_bitCount_0f7a4_36 rfl ?_
  refine g_iushr (pc := 38) X dJ6_bitCount_0f7a4_38 ?_
  refine g_iadd (pc := 39) X dJ6_bitCount_0f7a4_39 ?_
  obtain ⟨x7, e8, h⟩ := lb_i h
  refine g_top e8 ?_
  refine g_istore_n (pc := 40) X (lv' := [(0, .int x7)]) dJ6_bitCount_0f7a4_40 (by decide) rfl ?_
  refine g_iload_n (pc := 41) X 0 rfl dJ6_bitCount_0f7a4_41 ?_
  refine g_iload_n (pc := 42) X 0 rfl dJ6_bitCount_0f7a4_42 ?_
  refine g_bipush (pc := 43) X (v := 16) dJ6_bitCount_0f7a4_43 rfl ?_
  refine g_iushr (pc := 45) X dJ6_bitCount_0f7a4_45 ?_
  refine g_iadd (pc := 46) X dJ6_bitCount_0f7a4_46 ?_
  obtain ⟨x9, e10, h⟩ := lb_i h
  refine g_top e10 ?_
  refine g_istore_n (pc := 47) X (lv' := [(0, .int x9)]) dJ6_bitCount_0f7a4_47 (by decide) rfl ?_
  refine g_iload_n (pc := 48) X 0 rfl dJ6_bitCount_0f7a4_48 ?_
  refine g_bipush (pc := 49) X (v := 63) dJ6_bitCount_0f7a4_49 rfl ?_
  refine g_iand (pc := 51) X dJ6_bitCount_0f7a4_51 ?_
  obtain ⟨e1, e2⟩ := rt_i h
  exact g_iret (pc := 52) X Y.2.2.1 (Nat.le_of_ble_eq_true rfl) (Nat.le_of_ble_eq_true rfl) e1 e2 dJ6_bitCount_0f7a4_52

def f_X1_seatedCount (v0 : Nat) (w : Wd) : Option (Int32 × Wd) := (if wK w v0 = 1 then
 (bd2 (f_X1_standing v0 w) fun r2 w3 =>
 (bd2 (f_J6_bitCount_0f7a4 r2 w3) fun r5 w6 =>
 some ((wI w v0 2) - r5, w6)))
 else none)
theorem c_X1_seatedCount {l : Launch} {V : Vt} {v0 : Nat} {w w' : Wd} {r : Int32} (h : f_X1_seatedCount v0 w = some (r, w')) : MetW l V yX1_seatedCount cX1_seatedCount 1 (some .int) { frames := 2, cells := 0, slots := 0, locals := 42 } w [rf V v0] (some (.int r)) w' 0 0 := by
  refine g_start (by decide) (Nat.le_of_ble_eq_true rfl) ?_
  intro t _ hrm X hret hnm
  have Y : Hd_ t V cX1_seatedCount 1 RX1 { frames := 2, cells := 0, slots := 0, locals := 42 } (some .int) "seatedCount" := ⟨X, hrm, hret, hnm⟩
  refine g_as (lv' := [(0, rf V v0)]) (st' := []) rfl rfl ?_
  unfold f_X1_seatedCount at h
  refine g_aload_n (pc := 0) X 0 rfl dX1_seatedCount_0 ?_
  obtain ⟨k1, h⟩ := gd_i h
  refine g_getI (pc := 1) X FcX1 k1 2 (by decide) rfl q_161 dX1_seatedCount_1 ?_
  refine g_aload_n (pc := 4) X 0 rfl dX1_seatedCount_4 ?_
  obtain ⟨r2, w3, h4, h⟩ := bd2_i h
  refine g_callV (pc := 5) X FcX1 k1 mk_X1_standing q_369 q_370 q_368 (c_X1_standing h4) rfl rfl (by rw [Y.2.1]; decide)  rfl (rest := [.int (wI w v0 2)]) rfl (Nat.le_of_ble_eq_true rfl) (by rw [Y.2.1]; exact ⟨Nat.le_of_ble_eq_true rfl, Nat.le_of_ble_eq_true rfl⟩) dX1_seatedCount_5 (st' := [.int r2, .int (wI w v0 2)]) rfl ?_
  obtain ⟨r5, w6, h7, h⟩ := bd2_i h
  refine g_callS (pc := 8) X mk_J6_bitCount_0f7a4 q_377 q_376 (c_J6_bitCount_0f7a4 h7) rfl rfl (by rw [Y.2.1]; decide)  rfl (rest := [.int (wI w v0 2)]) rfl (Nat.le_of_ble_eq_true rfl) (by rw [Y.2.1]; exact ⟨Nat.le_of_ble_eq_true rfl, Nat.le_of_ble_eq_true rfl⟩) dX1_seatedCount_8 (st' := [.int r5, .int (wI w v0 2)]) rfl ?_
  refine g_isub (pc := 11) X dX1_seatedCount_11 ?_
  obtain ⟨e1, e2⟩ := rt_i h
  exact g_iret (pc := 12) X Y.2.2.1 (Nat.le_of_ble_eq_true rfl) (Nat.le_of_ble_eq_true rfl) e1 e2 dX1_seatedCount_12

def L_X1_setUp_48  (n : Nat) (v0 : Nat) (v4 : Int32) (v5 : Int32) (w : Wd) : Option (Int32 × Wd) := match n with
  | 0 => none
  | n + 1 => (if 12 ≤ v5 then
 some (v4, w)
 else
 (if wK w v0 = 1 then
 (bd1 (wR w v0 3) fun a14 =>
 (if aK 11 w a14 v5 = true then
 (lb_ (sI w a14 (nx v5) 0) fun w17 =>
 (lb_ (v5 + 1) fun x19 =>
 L_X1_setUp_48 n v0 v4 x19 w17))
 else none))
 else none))
theorem bL_X1_setUp_48 {t : Ct} {V : Vt} {r : Int32} {w' : Wd} (Y : Hd_ t V cX1_setUp 6 RX1 { frames := 3, cells := 0, slots := 0, locals := 62 } (some .int) "setUp") : ∀ {n : Nat} {v0 : Nat} {v4 : Int32} {v5 : Int32} {w : Wd}, L_X1_setUp_48  n v0 v4 v5 w = some (r, w') → Gd t V 6 0 0 (Qe t V (some (.int r)) w' 0 0) 48 [(0, rf V v0), (4, .int v4), (5, .int v5)] [] w := by
  have X := Y.1
  intro n
  induction n with
  | zero => intro v0 v4 v5 w h; cases h
  | succ n ih0 =>
    have ih : ∀ (v0 : Nat) (v4 : Int32) (v5 : Int32) (w : Wd), L_X1_setUp_48  n v0 v4 v5 w = some (r, w') → Gd t V 6 0 0 (Qe t V (some (.int r)) w' 0 0) 48 [(0, rf V v0), (4, .int v4), (5, .int v5)] [] w := fun v0 v4 v5 w h => ih0 h
    clear ih0
    intro v0 v4 v5 w h
    unfold L_X1_setUp_48 at h
    refine g_iload (pc := 48) X 2 rfl dX1_setUp_48 ?_
    refine g_bipush (pc := 50) X (v := 12) dX1_setUp_50 rfl ?_
    refine g_icmp_ge (pc := 52) X (tgt := 69) dX1_setUp_52 rfl (fun c => ?_) (fun c => ?_)
    · have h := br_y c h
      refine g_iload (pc := 69) X 1 rfl dX1_setUp_69 ?_
      obtain ⟨e1, e2⟩ := rt_i h
      exact g_iret (pc := 71) X Y.2.2.1 (Nat.le_of_ble_eq_true rfl) (Nat.le_of_ble_eq_true rfl) e1 e2 dX1_setUp_71
    · have h := br_n c h
      refine g_aload_n (pc := 55) X 0 rfl dX1_setUp_55 ?_
      obtain ⟨k13, h⟩ := gd_i h
      obtain ⟨a14, e15, h⟩ := bd1_i h
      refine g_getR (pc := 56) X FcX1 k13 3 e15 (by decide) rfl q_163 dX1_setUp_56 ?_
      refine g_iload (pc := 59) X 2 rfl dX1_setUp_59 ?_
      refine g_iconst (pc := 61) X (v := 0) dX1_setUp_61 rfl ?_
      obtain ⟨k16, h⟩ := gd_i h
      refine g_iast (pc := 62) X k16 dX1_setUp_62 ?_
      obtain ⟨w17, e18, h⟩ := lb_i h
      refine g_w e18 ?_
      obtain ⟨x19, e20, h⟩ := lb_i h
      refine g_iinc (pc := 63) X 2 rfl dX1_setUp_63 (v := x19) e20.symm (by decide) (lv' := [(5, .int x19), (0, rf V v0), (4, .int v4)]) rfl ?_
      refine g_goto (pc := 66) X (tgt := 48) dX1_setUp_66 rfl ?_
      refine g_sub (lv' := [(0, rf V v0), (4, .int v4), (5, .int x19)]) [1, 2, 0] rfl ?_
      exact ih _ _ _ _ h

def L_X1_setUp_19  (n : Nat) (v0 : Nat) (v4 : Int32) (v5 : Int32) (w : Wd) : Option (Int32 × Wd) := match n with
  | 0 => none
  | n + 1 => (if wK w v0 = 1 then
 (if (wI w v0 2) ≤ v5 then
 L_X1_setUp_48 FU v0 v4 0 w
 else
 (bd1 (wR w v0 1) fun a21 =>
 (if aK 14 w a21 v5 = true then
 (bd1 (wR w a21 (nx v5)) fun a24 =>
 (if wK w a24 = 4 then
 (lb_ (sI w a24 1 (-1)) fun w27 =>
 (lb_ (v5 + 1) fun x29 =>
 L_X1_setUp_19 n v0 v4 x29 w27))
 else none))
 else none)))
 else none)
theorem bL_X1_setUp_19 {t : Ct} {V : Vt} {r : Int32} {w' : Wd} (Y : Hd_ t V cX1_setUp 6 RX1 { frames := 3, cells := 0, slots := 0, locals := 62 } (some .int) "setUp") : ∀ {n : Nat} {v0 : Nat} {v4 : Int32} {v5 : Int32} {w : Wd}, L_X1_setUp_19  n v0 v4 v5 w = some (r, w') → Gd t V 6 0 0 (Qe t V (some (.int r)) w' 0 0) 19 [(0, rf V v0), (4, .int v4), (5, .int v5)] [] w := by
  have X := Y.1
  intro n
  induction n with
  | zero => intro v0 v4 v5 w h; cases h
  | succ n ih0 =>
    have ih : ∀ (v0 : Nat) (v4 : Int32) (v5 : Int32) (w : Wd), L_X1_setUp_19  n v0 v4 v5 w = some (r, w') → Gd t V 6 0 0 (Qe t V (some (.int r)) w' 0 0) 19 [(0, rf V v0), (4, .int v4), (5, .int v5)] [] w := fun v0 v4 v5 w h => ih0 h
    clear ih0
    intro v0 v4 v5 w h
    unfold L_X1_setUp_19 at h
    refine g_iload (pc := 19) X 2 rfl dX1_setUp_19 ?_
    refine g_aload_n (pc := 21) X 0 rfl dX1_setUp_21 ?_
    obtain ⟨k12, h⟩ := gd_i h
    refine g_getI (pc := 22) X FcX1 k12 2 (by decide) rfl q_161 dX1_setUp_22 ?_
    refine g_icmp_ge (pc := 25) X (tgt := 45) dX1_setUp_25 rfl (fun c => ?_) (fun c => ?_)
    · have h := br_y c h
      refine g_iconst (pc := 45) X (v := 0) dX1_setUp_45 rfl ?_
      refine g_istore (pc := 46) X (lv' := [(5, .int 0), (0, rf V v0), (4, .int v4)]) dX1_setUp_46 (by decide) rfl ?_
      refine g_sub (lv' := [(0, rf V v0), (4, .int v4), (5, .int 0)]) [1, 2, 0] rfl ?_
      exact bL_X1_setUp_48 Y  h
    · have h := br_n c h
      refine g_aload_n (pc := 28) X 0 rfl dX1_setUp_28 ?_
      obtain ⟨a21, e22, h⟩ := bd1_i h
      refine g_getR (pc := 29) X FcX1 k12 1 e22 (by decide) rfl q_159 dX1_setUp_29 ?_
      refine g_iload (pc := 32) X 2 rfl dX1_setUp_32 ?_
      obtain ⟨k23, h⟩ := gd_i h
      obtain ⟨a24, e25, h⟩ := bd1_i h
      refine g_aald (pc := 34) X (C := RX4) k23 (by decide) (by decide) rfl e25 dX1_setUp_34 ?_
      refine g_iconst (pc := 35) X (v := (-1)) dX1_setUp_35 rfl ?_
      obtain ⟨k26, h⟩ := gd_i h
      refine g_putI (pc := 36) X FcX4 k26 1 (by decide) rfl q_138 rfl rfl rfl dX1_setUp_36 ?_
      obtain ⟨w27, e28, h⟩ := lb_i h
      refine g_w e28 ?_
      obtain ⟨x29, e30, h⟩ := lb_i h
      refine g_iinc (pc := 39) X 2 rfl dX1_setUp_39 (v := x29) e30.symm (by decide) (lv' := [(5, .int x29), (0, rf V v0), (4, .int v4)]) rfl ?_
      refine g_goto (pc := 42) X (tgt := 19) dX1_setUp_42 rfl ?_
      refine g_sub (lv' := [(0, rf V v0), (4, .int v4), (5, .int x29)]) [1, 2, 0] rfl ?_
      exact ih _ _ _ _ h

def f_X1_setUp (v0 : Nat) (v1 : Int32) (v2 : Int32) (v3 : Int32) (w : Wd) : Option (Int32 × Wd) := (if wK w v0 = 1 then
 (bd2 (f_X1_seatedCount v0 w) fun r2 w3 =>
 (if wK w3 v0 = 1 then
 (bd1 (wR w3 v0 0) fun a6 =>
 (if wK w3 a6 = 0 then
 (bd2 (f_X0_setUp a6 v1 v2 v3 w3) fun r9 w10 =>
 L_X1_setUp_19 FU v0 r2 0 w10)
 else none))
 else none))
 else none)
theorem c_X1_setUp {l : Launch} {V : Vt} {v0 : Nat} {v1 : Int32} {v2 : Int32} {v3 : Int32} {w w' : Wd} {r : Int32} (h : f_X1_setUp v0 v1 v2 v3 w = some (r, w')) : MetW l V yX1_setUp cX1_setUp 6 (some .int) { frames := 3, cells := 0, slots := 0, locals := 62 } w [rf V v0, .int v1, .int v2, .int v3] (some (.int r)) w' 0 0 := by
  refine g_start (by decide) (Nat.le_of_ble_eq_true rfl) ?_
  intro t _ hrm X hret hnm
  have Y : Hd_ t V cX1_setUp 6 RX1 { frames := 3, cells := 0, slots := 0, locals := 62 } (some .int) "setUp" := ⟨X, hrm, hret, hnm⟩
  refine g_as (lv' := [(0, rf V v0), (1, .int v1), (2, .int v2), (3, .int v3)]) (st' := []) rfl rfl ?_
  unfold f_X1_setUp at h
  refine g_aload_n (pc := 0) X 0 rfl dX1_setUp_0 ?_
  obtain ⟨k1, h⟩ := gd_i h
  obtain ⟨r2, w3, h4, h⟩ := bd2_i h
  refine g_callV (pc := 1) X FcX1 k1 mk_X1_seatedCount q_365 q_366 q_364 (c_X1_seatedCount h4) rfl rfl (by rw [Y.2.1]; decide)  rfl (rest := []) rfl (Nat.le_of_ble_eq_true rfl) (by rw [Y.2.1]; exact ⟨Nat.le_of_ble_eq_true rfl, Nat.le_of_ble_eq_true rfl⟩) dX1_setUp_1 (st' := [.int r2]) rfl ?_
  refine g_istore (pc := 4) X (lv' := [(4, .int r2), (0, rf V v0), (1, .int v1), (2, .int v2), (3, .int v3)]) dX1_setUp_4 (by decide) rfl ?_
  refine g_aload_n (pc := 6) X 1 rfl dX1_setUp_6 ?_
  obtain ⟨k5, h⟩ := gd_i h
  obtain ⟨a6, e7, h⟩ := bd1_i h
  refine g_getR (pc := 7) X FcX1 k5 0 e7 (by decide) rfl q_156 dX1_setUp_7 ?_
  refine g_iload_n (pc := 10) X 2 rfl dX1_setUp_10 ?_
  refine g_iload_n (pc := 11) X 3 rfl dX1_setUp_11 ?_
  refine g_iload_n (pc := 12) X 4 rfl dX1_setUp_12 ?_
  obtain ⟨k8, h⟩ := gd_i h
  obtain ⟨r9, w10, h11, h⟩ := bd2_i h
  refine g_callV (pc := 13) X FcX0 k8 mk_X0_setUp q_383 q_384 q_382 (c_X0_setUp h11) rfl rfl (by rw [Y.2.1]; decide)  rfl (rest := []) rfl (Nat.le_of_ble_eq_true rfl) (by rw [Y.2.1]; exact ⟨Nat.le_of_ble_eq_true rfl, Nat.le_of_ble_eq_true rfl⟩) dX1_setUp_13 (st' := []) rfl ?_
  refine g_iconst (pc := 16) X (v := 0) dX1_setUp_16 rfl ?_
  refine g_istore (pc := 17) X (lv' := [(5, .int 0), (4, .int r2), (0, rf V v0), (1, .int v1), (2, .int v2), (3, .int v3)]) dX1_setUp_17 (by decide) rfl ?_
  refine g_sub (lv' := [(0, rf V v0), (4, .int r2), (5, .int 0)]) [2, 1, 0] rfl ?_
  exact bL_X1_setUp_19 Y  h

def f_X4_begin (v0 : Nat) (v1 : Int32) (w : Wd) : Option (Unit × Wd) := (if wK w v0 = 4 then
 (lb_ (sI w v0 0 v1) fun w2 =>
 (lb_ (sI w2 v0 1 (-1)) fun w4 =>
 (lb_ (sI w4 v0 2 0) fun w6 =>
 (lb_ (sI w6 v0 3 0) fun w8 =>
 some ((), w8)))))
 else none)
theorem c_X4_begin {l : Launch} {V : Vt} {v0 : Nat} {v1 : Int32} {w w' : Wd} {r : Unit} (h : f_X4_begin v0 v1 w = some (r, w')) : MetW l V yX4_begin cX4_begin 2 (none) { frames := 0, cells := 0, slots := 0, locals := 0 } w [rf V v0, .int v1] none w' 0 0 := by
  refine g_start (by decide) (Nat.le_of_ble_eq_true rfl) ?_
  intro t _ hrm X hret hnm
  have Y : Hd_ t V cX4_begin 2 RX4 { frames := 0, cells := 0, slots := 0, locals := 0 } (none) "begin" := ⟨X, hrm, hret, hnm⟩
  refine g_as (lv' := [(0, rf V v0), (1, .int v1)]) (st' := []) rfl rfl ?_
  unfold f_X4_begin at h
  refine g_aload_n (pc := 0) X 0 rfl dX4_begin_0 ?_
  refine g_iload_n (pc := 1) X 1 rfl dX4_begin_1 ?_
  obtain ⟨k1, h⟩ := gd_i h
  refine g_putI (pc := 2) X FcX4 k1 0 (by decide) rfl q_134 rfl rfl rfl dX4_begin_2 ?_
  obtain ⟨w2, e3, h⟩ := lb_i h
  refine g_w e3 ?_
  refine g_aload_n (pc := 5) X 0 rfl dX4_begin_5 ?_
  refine g_iconst (pc := 6) X (v := (-1)) dX4_begin_6 rfl ?_
  refine g_putI (pc := 7) X FcX4 (kd_I e3 k1) 1 (by decide) rfl q_137 rfl rfl rfl dX4_begin_7 ?_
  obtain ⟨w4, e5, h⟩ := lb_i h
  refine g_w e5 ?_
  refine g_aload_n (pc := 10) X 0 rfl dX4_begin_10 ?_
  refine g_iconst (pc := 11) X (v := 0) dX4_begin_11 rfl ?_
  refine g_putI (pc := 12) X FcX4 (kd_I e5 (kd_I e3 k1)) 2 (by decide) rfl q_140 rfl rfl rfl dX4_begin_12 ?_
  obtain ⟨w6, e7, h⟩ := lb_i h
  refine g_w e7 ?_
  refine g_aload_n (pc := 15) X 0 rfl dX4_begin_15 ?_
  refine g_iconst (pc := 16) X (v := 0) dX4_begin_16 rfl ?_
  refine g_putI (pc := 17) X FcX4 (kd_I e7 (kd_I e5 (kd_I e3 k1))) 3 (by decide) rfl q_143 rfl rfl rfl dX4_begin_17 ?_
  obtain ⟨w8, e9, h⟩ := lb_i h
  refine g_w e9 ?_
  obtain ⟨e1, e2⟩ := rt_i h
  exact g_vret (pc := 20) X Y.2.2.1 (Nat.le_of_ble_eq_true rfl) (Nat.le_of_ble_eq_true rfl) e2 dX4_begin_20

def f_X1_welcome (v0 : Nat) (v1 : Int32) (w : Wd) : Option (Int32 × Wd) := (if wK w v0 = 1 then
 (if (wI w v0 2) < 12 then
 (bd1 (wR w v0 1) fun a2 =>
 (if aK 14 w a2 (wI w v0 2) = true then
 (bd1 (wR w a2 (nx (wI w v0 2))) fun a5 =>
 (if wK w a5 = 4 then
 (bd2 (f_X4_begin a5 v1 w) fun r8 w9 =>
 (if wK w9 v0 = 1 then
 (lb_ (sI w9 v0 2 ((wI w9 v0 2) + 1)) fun w12 =>
 some ((wI w12 v0 2) - 1, w12))
 else none))
 else none))
 else none))
 else
 some ((-1000000003), w))
 else none)
theorem c_X1_welcome {l : Launch} {V : Vt} {v0 : Nat} {v1 : Int32} {w w' : Wd} {r : Int32} (h : f_X1_welcome v0 v1 w = some (r, w')) : MetW l V yX1_welcome cX1_welcome 2 (some .int) { frames := 1, cells := 0, slots := 0, locals := 21 } w [rf V v0, .int v1] (some (.int r)) w' 0 0 := by
  refine g_start (by decide) (Nat.le_of_ble_eq_true rfl) ?_
  intro t _ hrm X hret hnm
  have Y : Hd_ t V cX1_welcome 2 RX1 { frames := 1, cells := 0, slots := 0, locals := 21 } (some .int) "welcome" := ⟨X, hrm, hret, hnm⟩
  refine g_as (lv' := [(0, rf V v0), (1, .int v1)]) (st' := []) rfl rfl ?_
  unfold f_X1_welcome at h
  refine g_aload_n (pc := 0) X 0 rfl dX1_welcome_0 ?_
  obtain ⟨k1, h⟩ := gd_i h
  refine g_getI (pc := 1) X FcX1 k1 2 (by decide) rfl q_161 dX1_welcome_1 ?_
  refine g_bipush (pc := 4) X (v := 12) dX1_welcome_4 rfl ?_
  refine g_icmp_lt (pc := 6) X (tgt := 12) dX1_welcome_6 rfl (fun c => ?_) (fun c => ?_)
  · have h := br_y c h
    refine g_aload_n (pc := 12) X 0 rfl dX1_welcome_12 ?_
    obtain ⟨a2, e3, h⟩ := bd1_i h
    refine g_getR (pc := 13) X FcX1 k1 1 e3 (by decide) rfl q_159 dX1_welcome_13 ?_
    refine g_aload_n (pc := 16) X 0 rfl dX1_welcome_16 ?_
    refine g_getI (pc := 17) X FcX1 k1 2 (by decide) rfl q_161 dX1_welcome_17 ?_
    obtain ⟨k4, h⟩ := gd_i h
    obtain ⟨a5, e6, h⟩ := bd1_i h
    refine g_aald (pc := 20) X (C := RX4) k4 (by decide) (by decide) rfl e6 dX1_welcome_20 ?_
    refine g_iload_n (pc := 21) X 1 rfl dX1_welcome_21 ?_
    obtain ⟨k7, h⟩ := gd_i h
    obtain ⟨r8, w9, h10, h⟩ := bd2_i h
    refine g_callV (pc := 22) X FcX4 k7 mk_X4_begin q_399 q_400 q_398 (c_X4_begin h10) rfl rfl (by rw [Y.2.1]; decide)  rfl (rest := []) rfl (Nat.le_of_ble_eq_true rfl) (by rw [Y.2.1]; exact ⟨Nat.le_of_ble_eq_true rfl, Nat.le_of_ble_eq_true rfl⟩) dX1_welcome_22 (st' := []) rfl ?_
    refine g_aload_n (pc := 25) X 0 rfl dX1_welcome_25 ?_
    refine g_dup (pc := 26) X rfl dX1_welcome_26 ?_
    obtain ⟨k11, h⟩ := gd_i h
    refine g_getI (pc := 27) X FcX1 k11 2 (by decide) rfl q_161 dX1_welcome_27 ?_
    refine g_iconst (pc := 30) X (v := 1) dX1_welcome_30 rfl ?_
    refine g_iadd (pc := 31) X dX1_welcome_31 ?_
    refine g_putI (pc := 32) X FcX1 k11 2 (by decide) rfl q_161 rfl rfl rfl dX1_welcome_32 ?_
    obtain ⟨w12, e13, h⟩ := lb_i h
    refine g_w e13 ?_
    refine g_aload_n (pc := 35) X 0 rfl dX1_welcome_35 ?_
    refine g_getI (pc := 36) X FcX1 (kd_I e13 k11) 2 (by decide) rfl q_161 dX1_welcome_36 ?_
    refine g_iconst (pc := 39) X (v := 1) dX1_welcome_39 rfl ?_
    refine g_isub (pc := 40) X dX1_welcome_40 ?_
    obtain ⟨e1, e2⟩ := rt_i h
    exact g_iret (pc := 41) X Y.2.2.1 (Nat.le_of_ble_eq_true rfl) (Nat.le_of_ble_eq_true rfl) e1 e2 dX1_welcome_41
  · have h := br_n c h
    refine g_ldc (pc := 9) X q_397 dX1_welcome_9 ?_
    obtain ⟨e1, e2⟩ := rt_i h
    exact g_iret (pc := 11) X Y.2.2.1 (Nat.le_of_ble_eq_true rfl) (Nat.le_of_ble_eq_true rfl) e1 e2 dX1_welcome_11

def f_X4_isOf (v0 : Nat) (v1 : Int32) (w : Wd) : Option (Int32 × Wd) := (if ib v1 6 = true then
 (if wK w v0 = 4 then
 some ((if (((kdL.getD (nx v1) 0) >>> ((wI w v0 0) &&& 31)) &&& 1) = 1 then 1 else 0 : Int32), w)
 else none)
 else none)
theorem c_X4_isOf {l : Launch} {V : Vt} {v0 : Nat} {v1 : Int32} {w w' : Wd} {r : Int32} (h : f_X4_isOf v0 v1 w = some (r, w')) : MetW l V yX4_isOf cX4_isOf 2 (some .boolean) { frames := 0, cells := 0, slots := 0, locals := 0 } w [rf V v0, .int v1] (some (.int r)) w' 0 0 := by
  refine g_start (by decide) (Nat.le_of_ble_eq_true rfl) ?_
  intro t _ hrm X hret hnm
  have Y : Hd_ t V cX4_isOf 2 RX4 { frames := 0, cells := 0, slots := 0, locals := 0 } (some .boolean) "isOf" := ⟨X, hrm, hret, hnm⟩
  refine g_as (lv' := [(0, rf V v0), (1, .int v1)]) (st' := []) rfl rfl ?_
  unfold f_X4_isOf at h
  refine g_getsN0 (pc := 0) X (by decide +kernel) dX4_isOf_0 ?_
  refine g_iload_n (pc := 3) X 1 rfl dX4_isOf_3 ?_
  obtain ⟨k1, h⟩ := gd_i h
  refine g_ialoadS0 (pc := 4) X k1 dX4_isOf_4 ?_
  refine g_aload_n (pc := 5) X 0 rfl dX4_isOf_5 ?_
  obtain ⟨k2, h⟩ := gd_i h
  refine g_getI (pc := 6) X FcX4 k2 0 (by decide) rfl q_134 dX4_isOf_6 ?_
  refine g_ishr (pc := 9) X dX4_isOf_9 ?_
  refine g_iconst (pc := 10) X (v := 1) dX4_isOf_10 rfl ?_
  refine g_iand (pc := 11) X dX4_isOf_11 ?_
  refine g_iconst (pc := 12) X (v := 1) dX4_isOf_12 rfl ?_
  have kJ : Gd t V 2 0 0 (Qe t V (some (.int r)) w' 0 0) 21 [(0, rf V v0), (1, .int v1)] [.int (if (((kdL.getD (nx v1) 0) >>> ((wI w v0 0) &&& 31)) &&& 1) = 1 then 1 else 0 : Int32)] w := by
    obtain ⟨e1, e2⟩ := rt_i h
    exact g_zret (pc := 21) X Y.2.2.1 (bz_ite (Or.inr rfl) (Or.inl rfl)) (Nat.le_of_ble_eq_true rfl) (Nat.le_of_ble_eq_true rfl) e1 e2 dX4_isOf_21
  refine g_icmp_ne (pc := 13) X (tgt := 20) dX4_isOf_13 rfl (fun c0 => ?_) (fun c0 => ?_)
  · refine g_iconst (pc := 20) X (v := 0) dX4_isOf_20 rfl ?_
    exact g_top (by rw [if_neg c0]) kJ
  · refine g_iconst (pc := 16) X (v := 1) dX4_isOf_16 rfl ?_
    refine g_goto (pc := 17) X (tgt := 21) dX4_isOf_17 rfl ?_
    exact g_top (by rw [if_pos c0]) kJ

def f_X1_placesOf (v0 : Nat) (v1 : Nat) (w : Wd) : Option (Int32 × Wd) := (if wK w v1 = 4 then
 (bd2 (f_X4_sitsNow v1 w) fun r2 w3 =>
 (if r2 = 0 then
 some (0, w3)
 else
 (if wK w3 v1 = 4 then
 (lb_ (1 <<< ((wI w3 v1 1) &&& 31)) fun x6 =>
 (bd2 (f_X4_isOf v1 1 w3) fun r8 w9 =>
 (if r8 = 0 then
 some (x6, w9)
 else
 (if wK w9 v1 = 4 then
 (if wK w9 v0 = 1 then
 (bd1 (wR w9 v0 0) fun a13 =>
 (if wK w9 a13 = 0 then
 (lb_ (if (wI w9 a13 0) ≤ ((wI w9 v1 1) + 1) then 0 else (wI w9 v1 1) + 1 : Int32) fun x16 =>
 some (x6 ||| (1 <<< (x16 &&& 31)), w9))
 else none))
 else none)
 else none))))
 else none)))
 else none)
theorem c_X1_placesOf {l : Launch} {V : Vt} {v0 : Nat} {v1 : Nat} {w w' : Wd} {r : Int32} (h : f_X1_placesOf v0 v1 w = some (r, w')) : MetW l V yX1_placesOf cX1_placesOf 4 (some .int) { frames := 1, cells := 0, slots := 0, locals := 21 } w [rf V v0, rf V v1] (some (.int r)) w' 0 0 := by
  refine g_start (by decide) (Nat.le_of_ble_eq_true rfl) ?_
  intro t _ hrm X hret hnm
  have Y : Hd_ t V cX1_placesOf 4 RX1 { frames := 1, cells := 0, slots := 0, locals := 21 } (some .int) "placesOf" := ⟨X, hrm, hret, hnm⟩
  refine g_as (lv' := [(0, rf V v0), (1, rf V v1)]) (st' := []) rfl rfl ?_
  unfold f_X1_placesOf at h
  refine g_aload_n (pc := 0) X 1 rfl dX1_placesOf_0 ?_
  obtain ⟨k1, h⟩ := gd_i h
  obtain ⟨r2, w3, h4, h⟩ := bd2_i h
  refine g_callV (pc := 1) X FcX4 k1 mk_X4_sitsNow q_373 q_374 q_372 (c_X4_sitsNow h4) rfl rfl (by rw [Y.2.1]; decide)  rfl (rest := []) rfl (Nat.le_of_ble_eq_true rfl) (by rw [Y.2.1]; exact ⟨Nat.le_of_ble_eq_true rfl, Nat.le_of_ble_eq_true rfl⟩) dX1_placesOf_1 (st' := [.int r2]) rfl ?_
  refine g_if_ne (pc := 4) X (tgt := 9) dX1_placesOf_4 rfl (fun c => ?_) (fun c => ?_)
  · have h := br_n c h
    refine g_iconst (pc := 9) X (v := 1) dX1_placesOf_9 rfl ?_
    refine g_aload_n (pc := 10) X 1 rfl dX1_placesOf_10 ?_
    obtain ⟨k5, h⟩ := gd_i h
    refine g_getI (pc := 11) X FcX4 k5 1 (by decide) rfl q_138 dX1_placesOf_11 ?_
    refine g_ishl (pc := 14) X dX1_placesOf_14 ?_
    obtain ⟨x6, e7, h⟩ := lb_i h
    refine g_top e7 ?_
    refine g_istore_n (pc := 15) X (lv' := [(2, .int x6), (0, rf V v0), (1, rf V v1)]) dX1_placesOf_15 (by decide) rfl ?_
    refine g_aload_n (pc := 16) X 2 rfl dX1_placesOf_16 ?_
    refine g_iconst (pc := 17) X (v := 1) dX1_placesOf_17 rfl ?_
    obtain ⟨r8, w9, h10, h⟩ := bd2_i h
    refine g_callV (pc := 18) X FcX4 k5 mk_X4_isOf q_415 q_416 q_414 (c_X4_isOf h10) rfl rfl (by rw [Y.2.1]; decide)  rfl (rest := []) rfl (Nat.le_of_ble_eq_true rfl) (by rw [Y.2.1]; exact ⟨Nat.le_of_ble_eq_true rfl, Nat.le_of_ble_eq_true rfl⟩) dX1_placesOf_18 (st' := [.int r8]) rfl ?_
    refine g_if_ne (pc := 21) X (tgt := 26) dX1_placesOf_21 rfl (fun c => ?_) (fun c => ?_)
    · have h := br_n c h
      refine g_aload_n (pc := 26) X 2 rfl dX1_placesOf_26 ?_
      obtain ⟨k11, h⟩ := gd_i h
      refine g_getI (pc := 27) X FcX4 k11 1 (by decide) rfl q_138 dX1_placesOf_27 ?_
      refine g_iconst (pc := 30) X (v := 1) dX1_placesOf_30 rfl ?_
      refine g_iadd (pc := 31) X dX1_placesOf_31 ?_
      refine g_aload_n (pc := 32) X 1 rfl dX1_placesOf_32 ?_
      obtain ⟨k12, h⟩ := gd_i h
      obtain ⟨a13, e14, h⟩ := bd1_i h
      refine g_getR (pc := 33) X FcX1 k12 0 e14 (by decide) rfl q_156 dX1_placesOf_33 ?_
      obtain ⟨k15, h⟩ := gd_i h
      refine g_getI (pc := 36) X FcX0 k15 0 (by decide) rfl q_104 dX1_placesOf_36 ?_
      have kJ : Gd t V 4 0 0 (Qe t V (some (.int r)) w' 0 0) 52 [(2, .int x6), (0, rf V v0), (1, rf V v1)] [.int (if (wI w9 a13 0) ≤ ((wI w9 v1 1) + 1) then 0 else (wI w9 v1 1) + 1 : Int32)] w9 := by
        obtain ⟨x16, e17, h⟩ := lb_i h
        refine g_top e17 ?_
        refine g_istore_n (pc := 52) X (lv' := [(3, .int x16), (2, .int x6), (0, rf V v0), (1, rf V v1)]) dX1_placesOf_52 (by decide) rfl ?_
        refine g_iload_n (pc := 53) X 1 rfl dX1_placesOf_53 ?_
        refine g_iconst (pc := 54) X (v := 1) dX1_placesOf_54 rfl ?_
        refine g_iload_n (pc := 55) X 0 rfl dX1_placesOf_55 ?_
        refine g_ishl (pc := 56) X dX1_placesOf_56 ?_
        refine g_ior (pc := 57) X dX1_placesOf_57 ?_
        obtain ⟨e1, e2⟩ := rt_i h
        exact g_iret (pc := 58) X Y.2.2.1 (Nat.le_of_ble_eq_true rfl) (Nat.le_of_ble_eq_true rfl) e1 e2 dX1_placesOf_58
      refine g_icmp_ge (pc := 39) X (tgt := 51) dX1_placesOf_39 rfl (fun c0 => ?_) (fun c0 => ?_)
      · refine g_iconst (pc := 51) X (v := 0) dX1_placesOf_51 rfl ?_
        exact g_top (by rw [if_pos c0]) kJ
      · refine g_aload_n (pc := 42) X 2 rfl dX1_placesOf_42 ?_
        refine g_getI (pc := 43) X FcX4 k11 1 (by decide) rfl q_138 dX1_placesOf_43 ?_
        refine g_iconst (pc := 46) X (v := 1) dX1_placesOf_46 rfl ?_
        refine g_iadd (pc := 47) X dX1_placesOf_47 ?_
        refine g_goto (pc := 48) X (tgt := 52) dX1_placesOf_48 rfl ?_
        exact g_top (by rw [if_neg c0]) kJ
    · have h := br_y c h
      refine g_iload_n (pc := 24) X 0 rfl dX1_placesOf_24 ?_
      obtain ⟨e1, e2⟩ := rt_i h
      exact g_iret (pc := 25) X Y.2.2.1 (Nat.le_of_ble_eq_true rfl) (Nat.le_of_ble_eq_true rfl) e1 e2 dX1_placesOf_25
  · have h := br_y c h
    refine g_iconst (pc := 7) X (v := 0) dX1_placesOf_7 rfl ?_
    obtain ⟨e1, e2⟩ := rt_i h
    exact g_iret (pc := 8) X Y.2.2.1 (Nat.le_of_ble_eq_true rfl) (Nat.le_of_ble_eq_true rfl) e1 e2 dX1_placesOf_8

def L_X1_taken_4  (n : Nat) (v0 : Nat) (v1 : Int32) (v2 : Int32) (w : Wd) : Option (Int32 × Wd) := match n with
  | 0 => none
  | n + 1 => (if wK w v0 = 1 then
 (if (wI w v0 2) ≤ v2 then
 some (v1, w)
 else
 (bd1 (wR w v0 1) fun a2 =>
 (if aK 14 w a2 v2 = true then
 (bd1 (wR w a2 (nx v2)) fun a5 =>
 (bd2 (f_X1_placesOf v0 a5 w) fun r7 w8 =>
 (lb_ (v1 ||| r7) fun x10 =>
 (lb_ (v2 + 1) fun x12 =>
 L_X1_taken_4 n v0 x10 x12 w8))))
 else none)))
 else none)
theorem bL_X1_taken_4 {t : Ct} {V : Vt} {r : Int32} {w' : Wd} (Y : Hd_ t V cX1_taken 3 RX1 { frames := 2, cells := 0, slots := 0, locals := 44 } (some .int) "taken") : ∀ {n : Nat} {v0 : Nat} {v1 : Int32} {v2 : Int32} {w : Wd}, L_X1_taken_4  n v0 v1 v2 w = some (r, w') → Gd t V 3 0 0 (Qe t V (some (.int r)) w' 0 0) 4 [(0, rf V v0), (1, .int v1), (2, .int v2)] [] w := by
  have X := Y.1
  intro n
  induction n with
  | zero => intro v0 v1 v2 w h; cases h
  | succ n ih0 =>
    have ih : ∀ (v0 : Nat) (v1 : Int32) (v2 : Int32) (w : Wd), L_X1_taken_4  n v0 v1 v2 w = some (r, w') → Gd t V 3 0 0 (Qe t V (some (.int r)) w' 0 0) 4 [(0, rf V v0), (1, .int v1), (2, .int v2)] [] w := fun v0 v1 v2 w h => ih0 h
    clear ih0
    intro v0 v1 v2 w h
    unfold L_X1_taken_4 at h
    refine g_iload_n (pc := 4) X 2 rfl dX1_taken_4 ?_
    refine g_aload_n (pc := 5) X 0 rfl dX1_taken_5 ?_
    obtain ⟨k1, h⟩ := gd_i h
    refine g_getI (pc := 6) X FcX1 k1 2 (by decide) rfl q_161 dX1_taken_6 ?_
    refine g_icmp_ge (pc := 9) X (tgt := 31) dX1_taken_9 rfl (fun c => ?_) (fun c => ?_)
    · have h := br_y c h
      refine g_iload_n (pc := 31) X 1 rfl dX1_taken_31 ?_
      obtain ⟨e1, e2⟩ := rt_i h
      exact g_iret (pc := 32) X Y.2.2.1 (Nat.le_of_ble_eq_true rfl) (Nat.le_of_ble_eq_true rfl) e1 e2 dX1_taken_32
    · have h := br_n c h
      refine g_iload_n (pc := 12) X 1 rfl dX1_taken_12 ?_
      refine g_aload_n (pc := 13) X 0 rfl dX1_taken_13 ?_
      refine g_aload_n (pc := 14) X 0 rfl dX1_taken_14 ?_
      obtain ⟨a2, e3, h⟩ := bd1_i h
      refine g_getR (pc := 15) X FcX1 k1 1 e3 (by decide) rfl q_159 dX1_taken_15 ?_
      refine g_iload_n (pc := 18) X 2 rfl dX1_taken_18 ?_
      obtain ⟨k4, h⟩ := gd_i h
      obtain ⟨a5, e6, h⟩ := bd1_i h
      refine g_aald (pc := 19) X (C := RX4) k4 (by decide) (by decide) rfl e6 dX1_taken_19 ?_
      obtain ⟨r7, w8, h9, h⟩ := bd2_i h
      refine g_callV (pc := 20) X FcX1 k1 mk_X1_placesOf q_411 q_412 q_428 (c_X1_placesOf h9) rfl rfl (by rw [Y.2.1]; decide)  rfl (rest := [.int v1]) rfl (Nat.le_of_ble_eq_true rfl) (by rw [Y.2.1]; exact ⟨Nat.le_of_ble_eq_true rfl, Nat.le_of_ble_eq_true rfl⟩) dX1_taken_20 (st' := [.int r7, .int v1]) rfl ?_
      refine g_ior (pc := 23) X dX1_taken_23 ?_
      obtain ⟨x10, e11, h⟩ := lb_i h
      refine g_top e11 ?_
      refine g_istore_n (pc := 24) X (lv' := [(1, .int x10), (0, rf V v0), (2, .int v2)]) dX1_taken_24 (by decide) rfl ?_
      obtain ⟨x12, e13, h⟩ := lb_i h
      refine g_iinc (pc := 25) X 2 rfl dX1_taken_25 (v := x12) e13.symm (by decide) (lv' := [(2, .int x12), (1, .int x10), (0, rf V v0)]) rfl ?_
      refine g_goto (pc := 28) X (tgt := 4) dX1_taken_28 rfl ?_
      refine g_sub (lv' := [(0, rf V v0), (1, .int x10), (2, .int x12)]) [2, 1, 0] rfl ?_
      exact ih _ _ _ _ h

def f_X1_taken (v0 : Nat) (w : Wd) : Option (Int32 × Wd) := L_X1_taken_4 FU v0 0 0 w
theorem c_X1_taken {l : Launch} {V : Vt} {v0 : Nat} {w w' : Wd} {r : Int32} (h : f_X1_taken v0 w = some (r, w')) : MetW l V yX1_taken cX1_taken 3 (some .int) { frames := 2, cells := 0, slots := 0, locals := 44 } w [rf V v0] (some (.int r)) w' 0 0 := by
  refine g_start (by decide) (Nat.le_of_ble_eq_true rfl) ?_
  intro t _ hrm X hret hnm
  have Y : Hd_ t V cX1_taken 3 RX1 { frames := 2, cells := 0, slots := 0, locals := 44 } (some .int) "taken" := ⟨X, hrm, hret, hnm⟩
  refine g_as (lv' := [(0, rf V v0)]) (st' := []) rfl rfl ?_
  unfold f_X1_taken at h
  refine g_iconst (pc := 0) X (v := 0) dX1_taken_0 rfl ?_
  refine g_istore_n (pc := 1) X (lv' := [(1, .int 0), (0, rf V v0)]) dX1_taken_1 (by decide) rfl ?_
  refine g_iconst (pc := 2) X (v := 0) dX1_taken_2 rfl ?_
  refine g_istore_n (pc := 3) X (lv' := [(2, .int 0), (1, .int 0), (0, rf V v0)]) dX1_taken_3 (by decide) rfl ?_
  refine g_sub (lv' := [(0, rf V v0), (1, .int 0), (2, .int 0)]) [2, 1, 0] rfl ?_
  exact bL_X1_taken_4 Y  h

def L_X1_takenByFriends_4  (n : Nat) (v0 : Nat) (v1 : Int32) (v2 : Int32) (w : Wd) : Option (Int32 × Wd) := match n with
  | 0 => none
  | n + 1 => (if wK w v0 = 1 then
 (if (wI w v0 2) ≤ v2 then
 some (v1, w)
 else
 (bd1 (wR w v0 1) fun a2 =>
 (if aK 14 w a2 v2 = true then
 (bd1 (wR w a2 (nx v2)) fun a5 =>
 (if wK w a5 = 4 then
 (bd2 (f_X4_isOf a5 2 w) fun r8 w9 =>
 (if r8 = 0 then
 (lb_ (v2 + 1) fun x11 =>
 L_X1_takenByFriends_4 n v0 v1 x11 w9)
 else
 (if wK w9 v0 = 1 then
 (bd1 (wR w9 v0 1) fun a14 =>
 (if aK 14 w9 a14 v2 = true then
 (bd1 (wR w9 a14 (nx v2)) fun a17 =>
 (bd2 (f_X1_placesOf v0 a17 w9) fun r19 w20 =>
 (lb_ (v1 ||| r19) fun x22 =>
 (lb_ (v2 + 1) fun x24 =>
 L_X1_takenByFriends_4 n v0 x22 x24 w20))))
 else none))
 else none)))
 else none))
 else none)))
 else none)
theorem bL_X1_takenByFriends_4 {t : Ct} {V : Vt} {r : Int32} {w' : Wd} (Y : Hd_ t V cX1_takenByFriends 3 RX1 { frames := 2, cells := 0, slots := 0, locals := 44 } (some .int) "takenByFriends") : ∀ {n : Nat} {v0 : Nat} {v1 : Int32} {v2 : Int32} {w : Wd}, L_X1_takenByFriends_4  n v0 v1 v2 w = some (r, w') → Gd t V 3 0 0 (Qe t V (some (.int r)) w' 0 0) 4 [(0, rf V v0), (1, .int v1), (2, .int v2)] [] w := by
  have X := Y.1
  intro n
  induction n with
  | zero => intro v0 v1 v2 w h; cases h
  | succ n ih0 =>
    have ih : ∀ (v0 : Nat) (v1 : Int32) (v2 : Int32) (w : Wd), L_X1_takenByFriends_4  n v0 v1 v2 w = some (r, w') → Gd t V 3 0 0 (Qe t V (some (.int r)) w' 0 0) 4 [(0, rf V v0), (1, .int v1), (2, .int v2)] [] w := fun v0 v1 v2 w h => ih0 h
    clear ih0
    intro v0 v1 v2 w h
    unfold L_X1_takenByFriends_4 at h
    refine g_iload_n (pc := 4) X 2 rfl dX1_takenByFriends_4 ?_
    refine g_aload_n (pc := 5) X 0 rfl dX1_takenByFriends_5 ?_
    obtain ⟨k1, h⟩ := gd_i h
    refine g_getI (pc := 6) X FcX1 k1 2 (by decide) rfl q_161 dX1_takenByFriends_6 ?_
    refine g_icmp_ge (pc := 9) X (tgt := 44) dX1_takenByFriends_9 rfl (fun c => ?_) (fun c => ?_)
    · have h := br_y c h
      refine g_iload_n (pc := 44) X 1 rfl dX1_takenByFriends_44 ?_
      obtain ⟨e1, e2⟩ := rt_i h
      exact g_iret (pc := 45) X Y.2.2.1 (Nat.le_of_ble_eq_true rfl) (Nat.le_of_ble_eq_true rfl) e1 e2 dX1_takenByFriends_45
    · have h := br_n c h
      refine g_aload_n (pc := 12) X 0 rfl dX1_takenByFriends_12 ?_
      obtain ⟨a2, e3, h⟩ := bd1_i h
      refine g_getR (pc := 13) X FcX1 k1 1 e3 (by decide) rfl q_159 dX1_takenByFriends_13 ?_
      refine g_iload_n (pc := 16) X 2 rfl dX1_takenByFriends_16 ?_
      obtain ⟨k4, h⟩ := gd_i h
      obtain ⟨a5, e6, h⟩ := bd1_i h
      refine g_aald (pc := 17) X (C := RX4) k4 (by decide) (by decide) rfl e6 dX1_takenByFriends_17 ?_
      refine g_iconst (pc := 18) X (v := 2) dX1_takenByFriends_18 rfl ?_
      obtain ⟨k7, h⟩ := gd_i h
      obtain ⟨r8, w9, h10, h⟩ := bd2_i h
      refine g_callV (pc := 19) X FcX4 k7 mk_X4_isOf q_415 q_416 q_414 (c_X4_isOf h10) rfl rfl (by rw [Y.2.1]; decide)  rfl (rest := []) rfl (Nat.le_of_ble_eq_true rfl) (by rw [Y.2.1]; exact ⟨Nat.le_of_ble_eq_true rfl, Nat.le_of_ble_eq_true rfl⟩) dX1_takenByFriends_19 (st' := [.int r8]) rfl ?_
      refine g_if_eq (pc := 22) X (tgt := 38) dX1_takenByFriends_22 rfl (fun c => ?_) (fun c => ?_)
      · have h := br_y c h
        obtain ⟨x11, e12, h⟩ := lb_i h
        refine g_iinc (pc := 38) X 2 rfl dX1_takenByFriends_38 (v := x11) e12.symm (by decide) (lv' := [(2, .int x11), (0, rf V v0), (1, .int v1)]) rfl ?_
        refine g_goto (pc := 41) X (tgt := 4) dX1_takenByFriends_41 rfl ?_
        refine g_sub (lv' := [(0, rf V v0), (1, .int v1), (2, .int x11)]) [1, 2, 0] rfl ?_
        exact ih _ _ _ _ h
      · have h := br_n c h
        refine g_iload_n (pc := 25) X 1 rfl dX1_takenByFriends_25 ?_
        refine g_aload_n (pc := 26) X 0 rfl dX1_takenByFriends_26 ?_
        refine g_aload_n (pc := 27) X 0 rfl dX1_takenByFriends_27 ?_
        obtain ⟨k13, h⟩ := gd_i h
        obtain ⟨a14, e15, h⟩ := bd1_i h
        refine g_getR (pc := 28) X FcX1 k13 1 e15 (by decide) rfl q_159 dX1_takenByFriends_28 ?_
        refine g_iload_n (pc := 31) X 2 rfl dX1_takenByFriends_31 ?_
        obtain ⟨k16, h⟩ := gd_i h
        obtain ⟨a17, e18, h⟩ := bd1_i h
        refine g_aald (pc := 32) X (C := RX4) k16 (by decide) (by decide) rfl e18 dX1_takenByFriends_32 ?_
        obtain ⟨r19, w20, h21, h⟩ := bd2_i h
        refine g_callV (pc := 33) X FcX1 k13 mk_X1_placesOf q_411 q_412 q_428 (c_X1_placesOf h21) rfl rfl (by rw [Y.2.1]; decide)  rfl (rest := [.int v1]) rfl (Nat.le_of_ble_eq_true rfl) (by rw [Y.2.1]; exact ⟨Nat.le_of_ble_eq_true rfl, Nat.le_of_ble_eq_true rfl⟩) dX1_takenByFriends_33 (st' := [.int r19, .int v1]) rfl ?_
        refine g_ior (pc := 36) X dX1_takenByFriends_36 ?_
        obtain ⟨x22, e23, h⟩ := lb_i h
        refine g_top e23 ?_
        refine g_istore_n (pc := 37) X (lv' := [(1, .int x22), (0, rf V v0), (2, .int v2)]) dX1_takenByFriends_37 (by decide) rfl ?_
        obtain ⟨x24, e25, h⟩ := lb_i h
        refine g_iinc (pc := 38) X 2 rfl dX1_takenByFriends_38 (v := x24) e25.symm (by decide) (lv' := [(2, .int x24), (1, .int x22), (0, rf V v0)]) rfl ?_
        refine g_goto (pc := 41) X (tgt := 4) dX1_takenByFriends_41 rfl ?_
        refine g_sub (lv' := [(0, rf V v0), (1, .int x22), (2, .int x24)]) [2, 1, 0] rfl ?_
        exact ih _ _ _ _ h

def f_X1_takenByFriends (v0 : Nat) (w : Wd) : Option (Int32 × Wd) := L_X1_takenByFriends_4 FU v0 0 0 w
theorem c_X1_takenByFriends {l : Launch} {V : Vt} {v0 : Nat} {w w' : Wd} {r : Int32} (h : f_X1_takenByFriends v0 w = some (r, w')) : MetW l V yX1_takenByFriends cX1_takenByFriends 3 (some .int) { frames := 2, cells := 0, slots := 0, locals := 44 } w [rf V v0] (some (.int r)) w' 0 0 := by
  refine g_start (by decide) (Nat.le_of_ble_eq_true rfl) ?_
  intro t _ hrm X hret hnm
  have Y : Hd_ t V cX1_takenByFriends 3 RX1 { frames := 2, cells := 0, slots := 0, locals := 44 } (some .int) "takenByFriends" := ⟨X, hrm, hret, hnm⟩
  refine g_as (lv' := [(0, rf V v0)]) (st' := []) rfl rfl ?_
  unfold f_X1_takenByFriends at h
  refine g_iconst (pc := 0) X (v := 0) dX1_takenByFriends_0 rfl ?_
  refine g_istore_n (pc := 1) X (lv' := [(1, .int 0), (0, rf V v0)]) dX1_takenByFriends_1 (by decide) rfl ?_
  refine g_iconst (pc := 2) X (v := 0) dX1_takenByFriends_2 rfl ?_
  refine g_istore_n (pc := 3) X (lv' := [(2, .int 0), (1, .int 0), (0, rf V v0)]) dX1_takenByFriends_3 (by decide) rfl ?_
  refine g_sub (lv' := [(0, rf V v0), (1, .int 0), (2, .int 0)]) [2, 1, 0] rfl ?_
  exact bL_X1_takenByFriends_4 Y  h

def j_X1_placesForKind_10  (v0 : Nat) (v1 : Int32) (v2 : Int32) (w : Wd) : Option (Int32 × Wd) := (if wK w v0 = 1 then
 (bd1 (wR w v0 0) fun a2 =>
 (if wK w a2 = 0 then
 (bd2 (f_X0_broad a2 v2 (if v1 = 3 then 1 else 0 : Int32) w) fun r5 w6 =>
 some (r5, w6))
 else none))
 else none)
theorem bj_X1_placesForKind_10 {t : Ct} {V : Vt} {r : Int32} {w' : Wd} (Y : Hd_ t V cX1_placesForKind 7 RX1 { frames := 2, cells := 0, slots := 0, locals := 48 } (some .int) "placesForKind") {v0 : Nat} {v1 : Int32} {v2 : Int32} {w : Wd} (h : j_X1_placesForKind_10  v0 v1 v2 w = some (r, w')) : Gd t V 7 0 0 (Qe t V (some (.int r)) w' 0 0) 10 [(0, rf V v0), (1, .int v1), (2, .int v2)] [] w := by
  have X := Y.1
  unfold j_X1_placesForKind_10 at h
  refine g_aload_n (pc := 10) X 0 rfl dX1_placesForKind_10 ?_
  obtain ⟨k1, h⟩ := gd_i h
  obtain ⟨a2, e3, h⟩ := bd1_i h
  refine g_getR (pc := 11) X FcX1 k1 0 e3 (by decide) rfl q_156 dX1_placesForKind_11 ?_
  refine g_iload_n (pc := 14) X 2 rfl dX1_placesForKind_14 ?_
  refine g_iload_n (pc := 15) X 1 rfl dX1_placesForKind_15 ?_
  refine g_iconst (pc := 16) X (v := 3) dX1_placesForKind_16 rfl ?_
  have kJ : Gd t V 7 0 0 (Qe t V (some (.int r)) w' 0 0) 25 [(0, rf V v0), (1, .int v1), (2, .int v2)] [.int (if v1 = 3 then 1 else 0 : Int32), .int v2, rf V a2] w := by
    obtain ⟨k4, h⟩ := gd_i h
    obtain ⟨r5, w6, h7, h⟩ := bd2_i h
    refine g_callV (pc := 25) X FcX0 k4 mk_X0_broad q_438 q_439 q_437 (c_X0_broad h7) rfl rfl (by rw [Y.2.1]; decide)  rfl (rest := []) rfl (Nat.le_of_ble_eq_true rfl) (by rw [Y.2.1]; exact ⟨Nat.le_of_ble_eq_true rfl, Nat.le_of_ble_eq_true rfl⟩) dX1_placesForKind_25 (st' := [.int r5]) rfl ?_
    obtain ⟨e1, e2⟩ := rt_i h
    exact g_iret (pc := 28) X Y.2.2.1 (Nat.le_of_ble_eq_true rfl) (Nat.le_of_ble_eq_true rfl) e1 e2 dX1_placesForKind_28
  refine g_icmp_ne (pc := 17) X (tgt := 24) dX1_placesForKind_17 rfl (fun c0 => ?_) (fun c0 => ?_)
  · refine g_iconst (pc := 24) X (v := 0) dX1_placesForKind_24 rfl ?_
    exact g_top (by rw [if_neg c0]) kJ
  · refine g_iconst (pc := 20) X (v := 1) dX1_placesForKind_20 rfl ?_
    refine g_goto (pc := 21) X (tgt := 25) dX1_placesForKind_21 rfl ?_
    exact g_top (by rw [if_pos c0]) kJ

def j_X1_placesForKind_135  (v1 : Int32) (v4 : Int32) (v5 : Int32) (v6 : Int32) (w : Wd) : Option (Int32 × Wd) := some ((if v1 = 4 then v6 ||| (v4 &&& v5) else v6 : Int32), w)
theorem bj_X1_placesForKind_135 {t : Ct} {V : Vt} {r : Int32} {w' : Wd} (Y : Hd_ t V cX1_placesForKind 7 RX1 { frames := 2, cells := 0, slots := 0, locals := 48 } (some .int) "placesForKind") {v1 : Int32} {v4 : Int32} {v5 : Int32} {v6 : Int32} {w : Wd} (h : j_X1_placesForKind_135  v1 v4 v5 v6 w = some (r, w')) : Gd t V 7 0 0 (Qe t V (some (.int r)) w' 0 0) 135 [(1, .int v1), (4, .int v4), (5, .int v5), (6, .int v6)] [] w := by
  have X := Y.1
  unfold j_X1_placesForKind_135 at h
  refine g_iload_n (pc := 135) X 0 rfl dX1_placesForKind_135 ?_
  refine g_iconst (pc := 136) X (v := 4) dX1_placesForKind_136 rfl ?_
  have kJ : Gd t V 7 0 0 (Qe t V (some (.int r)) w' 0 0) 153 [(1, .int v1), (4, .int v4), (5, .int v5), (6, .int v6)] [.int (if v1 = 4 then v6 ||| (v4 &&& v5) else v6 : Int32)] w := by
    obtain ⟨e1, e2⟩ := rt_i h
    exact g_iret (pc := 153) X Y.2.2.1 (Nat.le_of_ble_eq_true rfl) (Nat.le_of_ble_eq_true rfl) e1 e2 dX1_placesForKind_153
  refine g_icmp_ne (pc := 137) X (tgt := 151) dX1_placesForKind_137 rfl (fun c0 => ?_) (fun c0 => ?_)
  · refine g_iload (pc := 151) X 3 rfl dX1_placesForKind_151 ?_
    exact g_top (by rw [if_neg c0]) kJ
  · refine g_iload (pc := 140) X 3 rfl dX1_placesForKind_140 ?_
    refine g_iload (pc := 142) X 1 rfl dX1_placesForKind_142 ?_
    refine g_iload (pc := 144) X 2 rfl dX1_placesForKind_144 ?_
    refine g_iand (pc := 146) X dX1_placesForKind_146 ?_
    refine g_ior (pc := 147) X dX1_placesForKind_147 ?_
    refine g_goto (pc := 148) X (tgt := 153) dX1_placesForKind_148 rfl ?_
    exact g_top (by rw [if_pos c0]) kJ

def j_X1_placesForKind_108  (v0 : Nat) (v1 : Int32) (v3 : Int32) (v4 : Int32) (v5 : Int32) (v6 : Int32) (w : Wd) : Option (Int32 × Wd) := (if wK w v0 = 1 then
 (bd1 (wR w v0 0) fun a43 =>
 (if wK w a43 = 0 then
 (bd2 (f_X0_withAhead a43 v3 0 w) fun r46 w47 =>
 (if wK w47 v0 = 1 then
 (bd1 (wR w47 v0 0) fun a50 =>
 (if wK w47 a50 = 0 then
 (bd2 (f_X0_withBehind a50 v3 0 w47) fun r53 w54 =>
 (lb_ (v6 ||| (v4 &&& (r46 ||| r53))) fun x56 =>
 j_X1_placesForKind_135 v1 v4 v5 x56 w54))
 else none))
 else none))
 else none))
 else none)
theorem bj_X1_placesForKind_108 {t : Ct} {V : Vt} {r : Int32} {w' : Wd} (Y : Hd_ t V cX1_placesForKind 7 RX1 { frames := 2, cells := 0, slots := 0, locals := 48 } (some .int) "placesForKind") {v0 : Nat} {v1 : Int32} {v3 : Int32} {v4 : Int32} {v5 : Int32} {v6 : Int32} {w : Wd} (h : j_X1_placesForKind_108  v0 v1 v3 v4 v5 v6 w = some (r, w')) : Gd t V 7 0 0 (Qe t V (some (.int r)) w' 0 0) 108 [(0, rf V v0), (1, .int v1), (3, .int v3), (4, .int v4), (5, .int v5), (6, .int v6)] [] w := by
  have X := Y.1
  unfold j_X1_placesForKind_108 at h
  refine g_iload (pc := 108) X 5 rfl dX1_placesForKind_108 ?_
  refine g_iload (pc := 110) X 3 rfl dX1_placesForKind_110 ?_
  refine g_aload_n (pc := 112) X 0 rfl dX1_placesForKind_112 ?_
  obtain ⟨k42, h⟩ := gd_i h
  obtain ⟨a43, e44, h⟩ := bd1_i h
  refine g_getR (pc := 113) X FcX1 k42 0 e44 (by decide) rfl q_156 dX1_placesForKind_113 ?_
  refine g_iload_n (pc := 116) X 2 rfl dX1_placesForKind_116 ?_
  refine g_iconst (pc := 117) X (v := 0) dX1_placesForKind_117 rfl ?_
  obtain ⟨k45, h⟩ := gd_i h
  obtain ⟨r46, w47, h48, h⟩ := bd2_i h
  refine g_callV (pc := 118) X FcX0 k45 mk_X0_withAhead q_446 q_447 q_449 (c_X0_withAhead h48) rfl rfl (by rw [Y.2.1]; decide)  rfl (rest := [.int v4, .int v6]) rfl (Nat.le_of_ble_eq_true rfl) (by rw [Y.2.1]; exact ⟨Nat.le_of_ble_eq_true rfl, Nat.le_of_ble_eq_true rfl⟩) dX1_placesForKind_118 (st' := [.int r46, .int v4, .int v6]) rfl ?_
  refine g_aload_n (pc := 121) X 0 rfl dX1_placesForKind_121 ?_
  obtain ⟨k49, h⟩ := gd_i h
  obtain ⟨a50, e51, h⟩ := bd1_i h
  refine g_getR (pc := 122) X FcX1 k49 0 e51 (by decide) rfl q_156 dX1_placesForKind_122 ?_
  refine g_iload_n (pc := 125) X 2 rfl dX1_placesForKind_125 ?_
  refine g_iconst (pc := 126) X (v := 0) dX1_placesForKind_126 rfl ?_
  obtain ⟨k52, h⟩ := gd_i h
  obtain ⟨r53, w54, h55, h⟩ := bd2_i h
  refine g_callV (pc := 127) X FcX0 k52 mk_X0_withBehind q_442 q_443 q_450 (c_X0_withBehind h55) rfl rfl (by rw [Y.2.1]; decide)  rfl (rest := [.int r46, .int v4, .int v6]) rfl (Nat.le_of_ble_eq_true rfl) (by rw [Y.2.1]; exact ⟨Nat.le_of_ble_eq_true rfl, Nat.le_of_ble_eq_true rfl⟩) dX1_placesForKind_127 (st' := [.int r53, .int r46, .int v4, .int v6]) rfl ?_
  refine g_ior (pc := 130) X dX1_placesForKind_130 ?_
  refine g_iand (pc := 131) X dX1_placesForKind_131 ?_
  refine g_ior (pc := 132) X dX1_placesForKind_132 ?_
  obtain ⟨x56, e57, h⟩ := lb_i h
  refine g_top e57 ?_
  refine g_istore (pc := 133) X (lv' := [(6, .int x56), (0, rf V v0), (1, .int v1), (3, .int v3), (4, .int v4), (5, .int v5)]) dX1_placesForKind_133 (by decide) rfl ?_
  refine g_sub (lv' := [(1, .int v1), (4, .int v4), (5, .int v5), (6, .int x56)]) [2, 4, 5, 0] rfl ?_
  exact bj_X1_placesForKind_135 Y  h

def f_X1_placesForKind (v0 : Nat) (v1 : Int32) (v2 : Int32) (v3 : Int32) (w : Wd) : Option (Int32 × Wd) := (if v1 = 1 then
 j_X1_placesForKind_10 v0 v1 v2 w
 else
 (if v1 = 3 then
 j_X1_placesForKind_10 v0 v1 v2 w
 else
 (if wK w v0 = 1 then
 (bd1 (wR w v0 0) fun a9 =>
 (if wK w a9 = 0 then
 (lb_ ((wI w a9 3) &&& (v2 ^^^ (-1))) fun x12 =>
 (bd1 (wR w v0 0) fun a14 =>
 (bd1 (wR w v0 0) fun a16 =>
 (if wK w a16 = 0 then
 (if wK w a14 = 0 then
 (bd2 (f_X0_withAhead a14 v2 (wI w a16 2) w) fun r20 w21 =>
 (if wK w21 v0 = 1 then
 (bd1 (wR w21 v0 0) fun a24 =>
 (bd1 (wR w21 v0 0) fun a26 =>
 (if wK w21 a26 = 0 then
 (if wK w21 a24 = 0 then
 (bd2 (f_X0_withBehind a24 v2 (wI w21 a26 2) w21) fun r30 w31 =>
 (lb_ (r20 ||| r30) fun x33 =>
 (if v1 = 5 then
 some (x12 &&& (x33 ^^^ (-1)), w31)
 else
 (if wK w31 v0 = 1 then
 (bd1 (wR w31 v0 0) fun a36 =>
 (if wK w31 a36 = 0 then
 (bd2 (f_X0_ordinary a36 v2 w31) fun r39 w40 =>
 (if v1 = 2 then
 j_X1_placesForKind_108 v0 v1 v3 x12 x33 r39 w40
 else
 (if v1 = 4 then
 j_X1_placesForKind_108 v0 v1 v3 x12 x33 r39 w40
 else
 j_X1_placesForKind_135 v1 x12 x33 r39 w40)))
 else none))
 else none))))
 else none)
 else none)))
 else none))
 else none)
 else none))))
 else none))
 else none)))
theorem c_X1_placesForKind {l : Launch} {V : Vt} {v0 : Nat} {v1 : Int32} {v2 : Int32} {v3 : Int32} {w w' : Wd} {r : Int32} (h : f_X1_placesForKind v0 v1 v2 v3 w = some (r, w')) : MetW l V yX1_placesForKind cX1_placesForKind 7 (some .int) { frames := 2, cells := 0, slots := 0, locals := 48 } w [rf V v0, .int v1, .int v2, .int v3] (some (.int r)) w' 0 0 := by
  refine g_start (by decide) (Nat.le_of_ble_eq_true rfl) ?_
  intro t _ hrm X hret hnm
  have Y : Hd_ t V cX1_placesForKind 7 RX1 { frames := 2, cells := 0, slots := 0, locals := 48 } (some .int) "placesForKind" := ⟨X, hrm, hret, hnm⟩
  refine g_as (lv' := [(0, rf V v0), (1, .int v1), (2, .int v2), (3, .int v3)]) (st' := []) rfl rfl ?_
  unfold f_X1_placesForKind at h
  refine g_iload_n (pc := 0) X 1 rfl dX1_placesForKind_0 ?_
  refine g_iconst (pc := 1) X (v := 1) dX1_placesForKind_1 rfl ?_
  refine g_icmp_eq (pc := 2) X (tgt := 10) dX1_placesForKind_2 rfl (fun c => ?_) (fun c => ?_)
  · have h := br_y c h
    refine g_sub (lv' := [(0, rf V v0), (1, .int v1), (2, .int v2)]) [0, 1, 2] rfl ?_
    exact bj_X1_placesForKind_10 Y  h
  · have h := br_n c h
    refine g_iload_n (pc := 5) X 1 rfl dX1_placesForKind_5 ?_
    refine g_iconst (pc := 6) X (v := 3) dX1_placesForKind_6 rfl ?_
    refine g_icmp_ne (pc := 7) X (tgt := 29) dX1_placesForKind_7 rfl (fun c => ?_) (fun c => ?_)
    · have h := br_n c h
      refine g_aload_n (pc := 29) X 0 rfl dX1_placesForKind_29 ?_
      obtain ⟨k8, h⟩ := gd_i h
      obtain ⟨a9, e10, h⟩ := bd1_i h
      refine g_getR (pc := 30) X FcX1 k8 0 e10 (by decide) rfl q_156 dX1_placesForKind_30 ?_
      obtain ⟨k11, h⟩ := gd_i h
      refine g_getI (pc := 33) X FcX0 k11 3 (by decide) rfl q_113 dX1_placesForKind_33 ?_
      refine g_iload_n (pc := 36) X 2 rfl dX1_placesForKind_36 ?_
      refine g_iconst (pc := 37) X (v := (-1)) dX1_placesForKind_37 rfl ?_
      refine g_ixor (pc := 38) X dX1_placesForKind_38 ?_
      refine g_iand (pc := 39) X dX1_placesForKind_39 ?_
      obtain ⟨x12, e13, h⟩ := lb_i h
      refine g_top e13 ?_
      refine g_istore (pc := 40) X (lv' := [(4, .int x12), (0, rf V v0), (1, .int v1), (2, .int v2), (3, .int v3)]) dX1_placesForKind_40 (by decide) rfl ?_
      refine g_aload_n (pc := 42) X 1 rfl dX1_placesForKind_42 ?_
      obtain ⟨a14, e15, h⟩ := bd1_i h
      refine g_getR (pc := 43) X FcX1 k8 0 e15 (by decide) rfl q_156 dX1_placesForKind_43 ?_
      refine g_iload_n (pc := 46) X 3 rfl dX1_placesForKind_46 ?_
      refine g_aload_n (pc := 47) X 1 rfl dX1_placesForKind_47 ?_
      obtain ⟨a16, e17, h⟩ := bd1_i h
      refine g_getR (pc := 48) X FcX1 k8 0 e17 (by decide) rfl q_156 dX1_placesForKind_48 ?_
      obtain ⟨k18, h⟩ := gd_i h
      refine g_getI (pc := 51) X FcX0 k18 2 (by decide) rfl q_109 dX1_placesForKind_51 ?_
      obtain ⟨k19, h⟩ := gd_i h
      obtain ⟨r20, w21, h22, h⟩ := bd2_i h
      refine g_callV (pc := 54) X FcX0 k19 mk_X0_withAhead q_446 q_447 q_449 (c_X0_withAhead h22) rfl rfl (by rw [Y.2.1]; decide)  rfl (rest := []) rfl (Nat.le_of_ble_eq_true rfl) (by rw [Y.2.1]; exact ⟨Nat.le_of_ble_eq_true rfl, Nat.le_of_ble_eq_true rfl⟩) dX1_placesForKind_54 (st' := [.int r20]) rfl ?_
      refine g_aload_n (pc := 57) X 1 rfl dX1_placesForKind_57 ?_
      obtain ⟨k23, h⟩ := gd_i h
      obtain ⟨a24, e25, h⟩ := bd1_i h
      refine g_getR (pc := 58) X FcX1 k23 0 e25 (by decide) rfl q_156 dX1_placesForKind_58 ?_
      refine g_iload_n (pc := 61) X 3 rfl dX1_placesForKind_61 ?_
      refine g_aload_n (pc := 62) X 1 rfl dX1_placesForKind_62 ?_
      obtain ⟨a26, e27, h⟩ := bd1_i h
      refine g_getR (pc := 63) X FcX1 k23 0 e27 (by decide) rfl q_156 dX1_placesForKind_63 ?_
      obtain ⟨k28, h⟩ := gd_i h
      refine g_getI (pc := 66) X FcX0 k28 2 (by decide) rfl q_109 dX1_placesForKind_66 ?_
      obtain ⟨k29, h⟩ := gd_i h
      obtain ⟨r30, w31, h32, h⟩ := bd2_i h
      refine g_callV (pc := 69) X FcX0 k29 mk_X0_withBehind q_442 q_443 q_450 (c_X0_withBehind h32) rfl rfl (by rw [Y.2.1]; decide)  rfl (rest := [.int r20]) rfl (Nat.le_of_ble_eq_true rfl) (by rw [Y.2.1]; exact ⟨Nat.le_of_ble_eq_true rfl, Nat.le_of_ble_eq_true rfl⟩) dX1_placesForKind_69 (st' := [.int r30, .int r20]) rfl ?_
      refine g_ior (pc := 72) X dX1_placesForKind_72 ?_
      obtain ⟨x33, e34, h⟩ := lb_i h
      refine g_top e34 ?_
      refine g_istore (pc := 73) X (lv' := [(5, .int x33), (4, .int x12), (0, rf V v0), (1, .int v1), (2, .int v2), (3, .int v3)]) dX1_placesForKind_73 (by decide) rfl ?_
      refine g_iload_n (pc := 75) X 3 rfl dX1_placesForKind_75 ?_
      refine g_iconst (pc := 76) X (v := 5) dX1_placesForKind_76 rfl ?_
      refine g_icmp_ne (pc := 77) X (tgt := 88) dX1_placesForKind_77 rfl (fun c => ?_) (fun c => ?_)
      · have h := br_n c h
        refine g_aload_n (pc := 88) X 2 rfl dX1_placesForKind_88 ?_
        obtain ⟨k35, h⟩ := gd_i h
        obtain ⟨a36, e37, h⟩ := bd1_i h
        refine g_getR (pc := 89) X FcX1 k35 0 e37 (by decide) rfl q_156 dX1_placesForKind_89 ?_
        refine g_iload_n (pc := 92) X 4 rfl dX1_placesForKind_92 ?_
        obtain ⟨k38, h⟩ := gd_i h
        obtain ⟨r39, w40, h41, h⟩ := bd2_i h
        refine g_callV (pc := 93) X FcX0 k38 mk_X0_ordinary q_452 q_453 q_451 (c_X0_ordinary h41) rfl rfl (by rw [Y.2.1]; decide)  rfl (rest := []) rfl (Nat.le_of_ble_eq_true rfl) (by rw [Y.2.1]; exact ⟨Nat.le_of_ble_eq_true rfl, Nat.le_of_ble_eq_true rfl⟩) dX1_placesForKind_93 (st' := [.int r39]) rfl ?_
        refine g_istore (pc := 96) X (lv' := [(6, .int r39), (5, .int x33), (4, .int x12), (0, rf V v0), (1, .int v1), (2, .int v2), (3, .int v3)]) dX1_placesForKind_96 (by decide) rfl ?_
        refine g_iload_n (pc := 98) X 4 rfl dX1_placesForKind_98 ?_
        refine g_iconst (pc := 99) X (v := 2) dX1_placesForKind_99 rfl ?_
        refine g_icmp_eq (pc := 100) X (tgt := 108) dX1_placesForKind_100 rfl (fun c => ?_) (fun c => ?_)
        · have h := br_y c h
          refine g_sub (lv' := [(0, rf V v0), (1, .int v1), (3, .int v3), (4, .int x12), (5, .int x33), (6, .int r39)]) [3, 4, 6, 2, 1, 0] rfl ?_
          exact bj_X1_placesForKind_108 Y  h
        · have h := br_n c h
          refine g_iload_n (pc := 103) X 4 rfl dX1_placesForKind_103 ?_
          refine g_iconst (pc := 104) X (v := 4) dX1_placesForKind_104 rfl ?_
          refine g_icmp_ne (pc := 105) X (tgt := 135) dX1_placesForKind_105 rfl (fun c => ?_) (fun c => ?_)
          · have h := br_n c h
            refine g_sub (lv' := [(1, .int v1), (4, .int x12), (5, .int x33), (6, .int r39)]) [4, 2, 1, 0] rfl ?_
            exact bj_X1_placesForKind_135 Y  h
          · have h := br_y c h
            refine g_sub (lv' := [(0, rf V v0), (1, .int v1), (3, .int v3), (4, .int x12), (5, .int x33), (6, .int r39)]) [3, 4, 6, 2, 1, 0] rfl ?_
            exact bj_X1_placesForKind_108 Y  h
      · have h := br_y c h
        refine g_iload (pc := 80) X 1 rfl dX1_placesForKind_80 ?_
        refine g_iload (pc := 82) X 0 rfl dX1_placesForKind_82 ?_
        refine g_iconst (pc := 84) X (v := (-1)) dX1_placesForKind_84 rfl ?_
        refine g_ixor (pc := 85) X dX1_placesForKind_85 ?_
        refine g_iand (pc := 86) X dX1_placesForKind_86 ?_
        obtain ⟨e1, e2⟩ := rt_i h
        exact g_iret (pc := 87) X Y.2.2.1 (Nat.le_of_ble_eq_true rfl) (Nat.le_of_ble_eq_true rfl) e1 e2 dX1_placesForKind_87
    · have h := br_y c h
      refine g_sub (lv' := [(0, rf V v0), (1, .int v1), (2, .int v2)]) [0, 1, 2] rfl ?_
      exact bj_X1_placesForKind_10 Y  h

def j_X1_placesFor_34  (s0 : Int32) (s1 : Int32) (s2 : Int32) (s3 : Nat) (w : Wd) : Option (Int32 × Wd) := (if wK w s3 = 1 then
 (bd2 (f_X1_placesForKind s3 s2 s1 s0 w) fun r15 w16 =>
 some (r15, w16))
 else none)
theorem bj_X1_placesFor_34 {t : Ct} {V : Vt} {r : Int32} {w' : Wd} (Y : Hd_ t V cX1_placesFor 2 RX1 { frames := 3, cells := 0, slots := 0, locals := 74 } (some .int) "placesFor") {s0 : Int32} {s1 : Int32} {s2 : Int32} {s3 : Nat} {w : Wd} (h : j_X1_placesFor_34  s0 s1 s2 s3 w = some (r, w')) : Gd t V 2 0 0 (Qe t V (some (.int r)) w' 0 0) 34 [] [.int s0, .int s1, .int s2, rf V s3] w := by
  have X := Y.1
  unfold j_X1_placesFor_34 at h
  obtain ⟨k14, h⟩ := gd_i h
  obtain ⟨r15, w16, h17, h⟩ := bd2_i h
  refine g_callV (pc := 34) X FcX1 k14 mk_X1_placesForKind q_434 q_435 q_433 (c_X1_placesForKind h17) rfl rfl (by rw [Y.2.1]; decide)  rfl (rest := []) rfl (Nat.le_of_ble_eq_true rfl) (by rw [Y.2.1]; exact ⟨Nat.le_of_ble_eq_true rfl, Nat.le_of_ble_eq_true rfl⟩) dX1_placesFor_34 (st' := [.int r15]) rfl ?_
  obtain ⟨e1, e2⟩ := rt_i h
  exact g_iret (pc := 37) X Y.2.2.1 (Nat.le_of_ble_eq_true rfl) (Nat.le_of_ble_eq_true rfl) e1 e2 dX1_placesFor_37

def f_X1_placesFor (v0 : Nat) (v1 : Nat) (w : Wd) : Option (Int32 × Wd) := (if wK w v1 = 4 then
 (bd2 (f_X4_sitsNow v1 w) fun r2 w3 =>
 (if r2 = 0 then
 (if wK w3 v1 = 4 then
 (if wK w3 v0 = 1 then
 (bd2 (f_X1_taken v0 w3) fun r7 w8 =>
 (if wK w8 v1 = 4 then
 (bd2 (f_X4_isOf v1 2 w8) fun r11 w12 =>
 (if r11 = 0 then
 j_X1_placesFor_34 0 r7 (wI w3 v1 0) v0 w12
 else
 (if wK w12 v0 = 1 then
 (bd2 (f_X1_takenByFriends v0 w12) fun r19 w20 =>
 j_X1_placesFor_34 r19 r7 (wI w3 v1 0) v0 w20)
 else none)))
 else none))
 else none)
 else none)
 else
 some (0, w3)))
 else none)
theorem c_X1_placesFor {l : Launch} {V : Vt} {v0 : Nat} {v1 : Nat} {w w' : Wd} {r : Int32} (h : f_X1_placesFor v0 v1 w = some (r, w')) : MetW l V yX1_placesFor cX1_placesFor 2 (some .int) { frames := 3, cells := 0, slots := 0, locals := 74 } w [rf V v0, rf V v1] (some (.int r)) w' 0 0 := by
  refine g_start (by decide) (Nat.le_of_ble_eq_true rfl) ?_
  intro t _ hrm X hret hnm
  have Y : Hd_ t V cX1_placesFor 2 RX1 { frames := 3, cells := 0, slots := 0, locals := 74 } (some .int) "placesFor" := ⟨X, hrm, hret, hnm⟩
  refine g_as (lv' := [(0, rf V v0), (1, rf V v1)]) (st' := []) rfl rfl ?_
  unfold f_X1_placesFor at h
  refine g_aload_n (pc := 0) X 1 rfl dX1_placesFor_0 ?_
  obtain ⟨k1, h⟩ := gd_i h
  obtain ⟨r2, w3, h4, h⟩ := bd2_i h
  refine g_callV (pc := 1) X FcX4 k1 mk_X4_sitsNow q_373 q_374 q_372 (c_X4_sitsNow h4) rfl rfl (by rw [Y.2.1]; decide)  rfl (rest := []) rfl (Nat.le_of_ble_eq_true rfl) (by rw [Y.2.1]; exact ⟨Nat.le_of_ble_eq_true rfl, Nat.le_of_ble_eq_true rfl⟩) dX1_placesFor_1 (st' := [.int r2]) rfl ?_
  refine g_if_eq (pc := 4) X (tgt := 9) dX1_placesFor_4 rfl (fun c => ?_) (fun c => ?_)
  · have h := br_y c h
    refine g_aload_n (pc := 9) X 0 rfl dX1_placesFor_9 ?_
    refine g_aload_n (pc := 10) X 1 rfl dX1_placesFor_10 ?_
    obtain ⟨k5, h⟩ := gd_i h
    refine g_getI (pc := 11) X FcX4 k5 0 (by decide) rfl q_136 dX1_placesFor_11 ?_
    refine g_aload_n (pc := 14) X 0 rfl dX1_placesFor_14 ?_
    obtain ⟨k6, h⟩ := gd_i h
    obtain ⟨r7, w8, h9, h⟩ := bd2_i h
    refine g_callV (pc := 15) X FcX1 k6 mk_X1_taken q_425 q_426 q_424 (c_X1_taken h9) rfl rfl (by rw [Y.2.1]; decide)  rfl (rest := [.int (wI w3 v1 0), rf V v0]) rfl (Nat.le_of_ble_eq_true rfl) (by rw [Y.2.1]; exact ⟨Nat.le_of_ble_eq_true rfl, Nat.le_of_ble_eq_true rfl⟩) dX1_placesFor_15 (st' := [.int r7, .int (wI w3 v1 0), rf V v0]) rfl ?_
    refine g_aload_n (pc := 18) X 1 rfl dX1_placesFor_18 ?_
    refine g_iconst (pc := 19) X (v := 2) dX1_placesFor_19 rfl ?_
    obtain ⟨k10, h⟩ := gd_i h
    obtain ⟨r11, w12, h13, h⟩ := bd2_i h
    refine g_callV (pc := 20) X FcX4 k10 mk_X4_isOf q_415 q_416 q_414 (c_X4_isOf h13) rfl rfl (by rw [Y.2.1]; decide)  rfl (rest := [.int r7, .int (wI w3 v1 0), rf V v0]) rfl (Nat.le_of_ble_eq_true rfl) (by rw [Y.2.1]; exact ⟨Nat.le_of_ble_eq_true rfl, Nat.le_of_ble_eq_true rfl⟩) dX1_placesFor_20 (st' := [.int r11, .int r7, .int (wI w3 v1 0), rf V v0]) rfl ?_
    refine g_if_eq (pc := 23) X (tgt := 33) dX1_placesFor_23 rfl (fun c => ?_) (fun c => ?_)
    · have h := br_y c h
      refine g_iconst (pc := 33) X (v := 0) dX1_placesFor_33 rfl ?_
      refine g_sub (lv' := []) [] rfl ?_
      exact bj_X1_placesFor_34 Y  h
    · have h := br_n c h
      refine g_aload_n (pc := 26) X 0 rfl dX1_placesFor_26 ?_
      obtain ⟨k18, h⟩ := gd_i h
      obtain ⟨r19, w20, h21, h⟩ := bd2_i h
      refine g_callV (pc := 27) X FcX1 k18 mk_X1_takenByFriends q_430 q_431 q_429 (c_X1_takenByFriends h21) rfl rfl (by rw [Y.2.1]; decide)  rfl (rest := [.int r7, .int (wI w3 v1 0), rf V v0]) rfl (Nat.le_of_ble_eq_true rfl) (by rw [Y.2.1]; exact ⟨Nat.le_of_ble_eq_true rfl, Nat.le_of_ble_eq_true rfl⟩) dX1_placesFor_27 (st' := [.int r19, .int r7, .int (wI w3 v1 0), rf V v0]) rfl ?_
      refine g_goto (pc := 30) X (tgt := 34) dX1_placesFor_30 rfl ?_
      refine g_sub (lv' := []) [] rfl ?_
      exact bj_X1_placesFor_34 Y  h
  · have h := br_n c h
    refine g_iconst (pc := 7) X (v := 0) dX1_placesFor_7 rfl ?_
    obtain ⟨e1, e2⟩ := rt_i h
    exact g_iret (pc := 8) X Y.2.2.1 (Nat.le_of_ble_eq_true rfl) (Nat.le_of_ble_eq_true rfl) e1 e2 dX1_placesFor_8

def L_X1_isShut_12  (n : Nat) (v0 : Nat) (v1 : Int32) (v2 : Int32) (v3 : Int32) (w : Wd) : Option (Int32 × Wd) := match n with
  | 0 => none
  | n + 1 => (if wK w v0 = 1 then
 (if (wI w v0 2) ≤ v3 then
 some (1, w)
 else
 (bd1 (wR w v0 1) fun a10 =>
 (if aK 14 w a10 v3 = true then
 (bd1 (wR w a10 (nx v3)) fun a13 =>
 (if wK w a13 = 4 then
 (bd2 (f_X4_sitsNow a13 w) fun r16 w17 =>
 (if r16 = 0 then
 (if wK w17 v0 = 1 then
 (bd1 (wR w17 v0 1) fun a22 =>
 (if aK 14 w17 a22 v3 = true then
 (bd1 (wR w17 a22 (nx v3)) fun a25 =>
 (if wK w17 a25 = 4 then
 (bd2 (f_X1_placesForKind v0 (wI w17 a25 0) v1 v2 w17) fun r28 w29 =>
 (if r28 = 0 then
 (lb_ (v3 + 1) fun x31 =>
 L_X1_isShut_12 n v0 v1 v2 x31 w29)
 else
 some (0, w29)))
 else none))
 else none))
 else none)
 else
 (lb_ (v3 + 1) fun x19 =>
 L_X1_isShut_12 n v0 v1 v2 x19 w17)))
 else none))
 else none)))
 else none)
theorem bL_X1_isShut_12 {t : Ct} {V : Vt} {r : Int32} {w' : Wd} (Y : Hd_ t V cX1_isShut 4 RX1 { frames := 3, cells := 0, slots := 0, locals := 74 } (some .boolean) "isShut") : ∀ {n : Nat} {v0 : Nat} {v1 : Int32} {v2 : Int32} {v3 : Int32} {w : Wd}, L_X1_isShut_12  n v0 v1 v2 v3 w = some (r, w') → Gd t V 4 0 0 (Qe t V (some (.int r)) w' 0 0) 12 [(0, rf V v0), (1, .int v1), (2, .int v2), (3, .int v3)] [] w := by
  have X := Y.1
  intro n
  induction n with
  | zero => intro v0 v1 v2 v3 w h; cases h
  | succ n ih0 =>
    have ih : ∀ (v0 : Nat) (v1 : Int32) (v2 : Int32) (v3 : Int32) (w : Wd), L_X1_isShut_12  n v0 v1 v2 v3 w = some (r, w') → Gd t V 4 0 0 (Qe t V (some (.int r)) w' 0 0) 12 [(0, rf V v0), (1, .int v1), (2, .int v2), (3, .int v3)] [] w := fun v0 v1 v2 v3 w h => ih0 h
    clear ih0
    intro v0 v1 v2 v3 w h
    unfold L_X1_isShut_12 at h
    refine g_iload_n (pc := 12) X 3 rfl dX1_isShut_12 ?_
    refine g_aload_n (pc := 13) X 0 rfl dX1_isShut_13 ?_
    obtain ⟨k9, h⟩ := gd_i h
    refine g_getI (pc := 14) X FcX1 k9 2 (by decide) rfl q_161 dX1_isShut_14 ?_
    refine g_icmp_ge (pc := 17) X (tgt := 58) dX1_isShut_17 rfl (fun c => ?_) (fun c => ?_)
    · have h := br_y c h
      refine g_iconst (pc := 58) X (v := 1) dX1_isShut_58 rfl ?_
      obtain ⟨e1, e2⟩ := rt_i h
      exact g_zret (pc := 59) X Y.2.2.1 (Or.inr rfl) (Nat.le_of_ble_eq_true rfl) (Nat.le_of_ble_eq_true rfl) e1 e2 dX1_isShut_59
    · have h := br_n c h
      refine g_aload_n (pc := 20) X 0 rfl dX1_isShut_20 ?_
      obtain ⟨a10, e11, h⟩ := bd1_i h
      refine g_getR (pc := 21) X FcX1 k9 1 e11 (by decide) rfl q_159 dX1_isShut_21 ?_
      refine g_iload_n (pc := 24) X 3 rfl dX1_isShut_24 ?_
      obtain ⟨k12, h⟩ := gd_i h
      obtain ⟨a13, e14, h⟩ := bd1_i h
      refine g_aald (pc := 25) X (C := RX4) k12 (by decide) (by decide) rfl e14 dX1_isShut_25 ?_
      obtain ⟨k15, h⟩ := gd_i h
      obtain ⟨r16, w17, h18, h⟩ := bd2_i h
      refine g_callV (pc := 26) X FcX4 k15 mk_X4_sitsNow q_373 q_374 q_372 (c_X4_sitsNow h18) rfl rfl (by rw [Y.2.1]; decide)  rfl (rest := []) rfl (Nat.le_of_ble_eq_true rfl) (by rw [Y.2.1]; exact ⟨Nat.le_of_ble_eq_true rfl, Nat.le_of_ble_eq_true rfl⟩) dX1_isShut_26 (st' := [.int r16]) rfl ?_
      refine g_if_ne (pc := 29) X (tgt := 52) dX1_isShut_29 rfl (fun c => ?_) (fun c => ?_)
      · have h := br_n c h
        obtain ⟨x19, e20, h⟩ := lb_i h
        refine g_iinc (pc := 52) X 3 rfl dX1_isShut_52 (v := x19) e20.symm (by decide) (lv' := [(3, .int x19), (0, rf V v0), (1, .int v1), (2, .int v2)]) rfl ?_
        refine g_goto (pc := 55) X (tgt := 12) dX1_isShut_55 rfl ?_
        refine g_sub (lv' := [(0, rf V v0), (1, .int v1), (2, .int v2), (3, .int x19)]) [1, 2, 3, 0] rfl ?_
        exact ih _ _ _ _ _ h
      · have h := br_y c h
        refine g_aload_n (pc := 32) X 0 rfl dX1_isShut_32 ?_
        refine g_aload_n (pc := 33) X 0 rfl dX1_isShut_33 ?_
        obtain ⟨k21, h⟩ := gd_i h
        obtain ⟨a22, e23, h⟩ := bd1_i h
        refine g_getR (pc := 34) X FcX1 k21 1 e23 (by decide) rfl q_159 dX1_isShut_34 ?_
        refine g_iload_n (pc := 37) X 3 rfl dX1_isShut_37 ?_
        obtain ⟨k24, h⟩ := gd_i h
        obtain ⟨a25, e26, h⟩ := bd1_i h
        refine g_aald (pc := 38) X (C := RX4) k24 (by decide) (by decide) rfl e26 dX1_isShut_38 ?_
        obtain ⟨k27, h⟩ := gd_i h
        refine g_getI (pc := 39) X FcX4 k27 0 (by decide) rfl q_136 dX1_isShut_39 ?_
        refine g_iload_n (pc := 42) X 1 rfl dX1_isShut_42 ?_
        refine g_iload_n (pc := 43) X 2 rfl dX1_isShut_43 ?_
        obtain ⟨r28, w29, h30, h⟩ := bd2_i h
        refine g_callV (pc := 44) X FcX1 k21 mk_X1_placesForKind q_434 q_435 q_433 (c_X1_placesForKind h30) rfl rfl (by rw [Y.2.1]; decide)  rfl (rest := []) rfl (Nat.le_of_ble_eq_true rfl) (by rw [Y.2.1]; exact ⟨Nat.le_of_ble_eq_true rfl, Nat.le_of_ble_eq_true rfl⟩) dX1_isShut_44 (st' := [.int r28]) rfl ?_
        refine g_if_eq (pc := 47) X (tgt := 52) dX1_isShut_47 rfl (fun c => ?_) (fun c => ?_)
        · have h := br_y c h
          obtain ⟨x31, e32, h⟩ := lb_i h
          refine g_iinc (pc := 52) X 3 rfl dX1_isShut_52 (v := x31) e32.symm (by decide) (lv' := [(3, .int x31), (0, rf V v0), (1, .int v1), (2, .int v2)]) rfl ?_
          refine g_goto (pc := 55) X (tgt := 12) dX1_isShut_55 rfl ?_
          refine g_sub (lv' := [(0, rf V v0), (1, .int v1), (2, .int v2), (3, .int x31)]) [1, 2, 3, 0] rfl ?_
          exact ih _ _ _ _ _ h
        · have h := br_n c h
          refine g_iconst (pc := 50) X (v := 0) dX1_isShut_50 rfl ?_
          obtain ⟨e1, e2⟩ := rt_i h
          exact g_zret (pc := 51) X Y.2.2.1 (Or.inl rfl) (Nat.le_of_ble_eq_true rfl) (Nat.le_of_ble_eq_true rfl) e1 e2 dX1_isShut_51

def f_X1_isShut (v0 : Nat) (w : Wd) : Option (Int32 × Wd) := (if wK w v0 = 1 then
 (bd2 (f_X1_taken v0 w) fun r2 w3 =>
 (if wK w3 v0 = 1 then
 (bd2 (f_X1_takenByFriends v0 w3) fun r6 w7 =>
 L_X1_isShut_12 FU v0 r2 r6 0 w7)
 else none))
 else none)
theorem c_X1_isShut {l : Launch} {V : Vt} {v0 : Nat} {w w' : Wd} {r : Int32} (h : f_X1_isShut v0 w = some (r, w')) : MetW l V yX1_isShut cX1_isShut 4 (some .boolean) { frames := 3, cells := 0, slots := 0, locals := 74 } w [rf V v0] (some (.int r)) w' 0 0 := by
  refine g_start (by decide) (Nat.le_of_ble_eq_true rfl) ?_
  intro t _ hrm X hret hnm
  have Y : Hd_ t V cX1_isShut 4 RX1 { frames := 3, cells := 0, slots := 0, locals := 74 } (some .boolean) "isShut" := ⟨X, hrm, hret, hnm⟩
  refine g_as (lv' := [(0, rf V v0)]) (st' := []) rfl rfl ?_
  unfold f_X1_isShut at h
  refine g_aload_n (pc := 0) X 0 rfl dX1_isShut_0 ?_
  obtain ⟨k1, h⟩ := gd_i h
  obtain ⟨r2, w3, h4, h⟩ := bd2_i h
  refine g_callV (pc := 1) X FcX1 k1 mk_X1_taken q_425 q_426 q_424 (c_X1_taken h4) rfl rfl (by rw [Y.2.1]; decide)  rfl (rest := []) rfl (Nat.le_of_ble_eq_true rfl) (by rw [Y.2.1]; exact ⟨Nat.le_of_ble_eq_true rfl, Nat.le_of_ble_eq_true rfl⟩) dX1_isShut_1 (st' := [.int r2]) rfl ?_
  refine g_istore_n (pc := 4) X (lv' := [(1, .int r2), (0, rf V v0)]) dX1_isShut_4 (by decide) rfl ?_
  refine g_aload_n (pc := 5) X 1 rfl dX1_isShut_5 ?_
  obtain ⟨k5, h⟩ := gd_i h
  obtain ⟨r6, w7, h8, h⟩ := bd2_i h
  refine g_callV (pc := 6) X FcX1 k5 mk_X1_takenByFriends q_430 q_431 q_429 (c_X1_takenByFriends h8) rfl rfl (by rw [Y.2.1]; decide)  rfl (rest := []) rfl (Nat.le_of_ble_eq_true rfl) (by rw [Y.2.1]; exact ⟨Nat.le_of_ble_eq_true rfl, Nat.le_of_ble_eq_true rfl⟩) dX1_isShut_6 (st' := [.int r6]) rfl ?_
  refine g_istore_n (pc := 9) X (lv' := [(2, .int r6), (1, .int r2), (0, rf V v0)]) dX1_isShut_9 (by decide) rfl ?_
  refine g_iconst (pc := 10) X (v := 0) dX1_isShut_10 rfl ?_
  refine g_istore_n (pc := 11) X (lv' := [(3, .int 0), (2, .int r6), (1, .int r2), (0, rf V v0)]) dX1_isShut_11 (by decide) rfl ?_
  refine g_sub (lv' := [(0, rf V v0), (1, .int r2), (2, .int r6), (3, .int 0)]) [3, 2, 1, 0] rfl ?_
  exact bL_X1_isShut_12 Y  h

def f_X1_lawOf (v0 : Nat) (v1 : Int32) (w : Wd) : Option (Option Nat × Wd) := (if wK w v0 = 1 then
 (bd1 (wR w v0 10) fun a2 =>
 (if aK 11 w a2 v1 = true then
 (lb_ (wI w a2 (nx v1)) fun x5 =>
 (if x5 < 0 then
 some (none, w)
 else
 (if (wI w v0 9) ≤ x5 then
 some (none, w)
 else
 (bd1 (wR w v0 8) fun a7 =>
 (if aK 16 w a7 x5 = true then
 (bd1 (wR w a7 (nx x5)) fun a10 =>
 some (some a10, w))
 else none)))))
 else none))
 else none)
theorem c_X1_lawOf {l : Launch} {V : Vt} {v0 : Nat} {v1 : Int32} {w w' : Wd} {r : Option Nat} (h : f_X1_lawOf v0 v1 w = some (r, w')) : MetW l V yX1_lawOf cX1_lawOf 3 (some (.object "BenchSeats$Text")) { frames := 0, cells := 0, slots := 0, locals := 0 } w [rf V v0, .int v1] (some (rq V r)) w' 0 0 := by
  refine g_start (by decide) (Nat.le_of_ble_eq_true rfl) ?_
  intro t _ hrm X hret hnm
  have Y : Hd_ t V cX1_lawOf 3 RX1 { frames := 0, cells := 0, slots := 0, locals := 0 } (some (.object "BenchSeats$Text")) "lawOf" := ⟨X, hrm, hret, hnm⟩
  refine g_as (lv' := [(0, rf V v0), (1, .int v1)]) (st' := []) rfl rfl ?_
  unfold f_X1_lawOf at h
  refine g_aload_n (pc := 0) X 0 rfl dX1_lawOf_0 ?_
  obtain ⟨k1, h⟩ := gd_i h
  obtain ⟨a2, e3, h⟩ := bd1_i h
  refine g_getR (pc := 1) X FcX1 k1 10 e3 (by decide) rfl q_179 dX1_lawOf_1 ?_
  refine g_iload_n (pc := 4) X 1 rfl dX1_lawOf_4 ?_
  obtain ⟨k4, h⟩ := gd_i h
  refine g_iald (pc := 5) X k4 dX1_lawOf_5 ?_
  obtain ⟨x5, e6, h⟩ := lb_i h
  refine g_top e6 ?_
  refine g_istore_n (pc := 6) X (lv' := [(2, .int x5), (0, rf V v0), (1, .int v1)]) dX1_lawOf_6 (by decide) rfl ?_
  refine g_iload_n (pc := 7) X 0 rfl dX1_lawOf_7 ?_
  refine g_if_lt (pc := 8) X (tgt := 28) dX1_lawOf_8 rfl (fun c => ?_) (fun c => ?_)
  · have h := br_y c h
    refine g_null (pc := 28) X dX1_lawOf_28 ?_
    obtain ⟨e1, e2⟩ := rt_i h
    exact g_aret (pc := 29) X Y.2.2.1 (Or.inl ⟨_, rfl⟩) (Nat.le_of_ble_eq_true rfl) (Nat.le_of_ble_eq_true rfl) e1 e2 dX1_lawOf_29
  · have h := br_n c h
    refine g_iload_n (pc := 11) X 0 rfl dX1_lawOf_11 ?_
    refine g_aload_n (pc := 12) X 1 rfl dX1_lawOf_12 ?_
    refine g_getI (pc := 13) X FcX1 k1 9 (by decide) rfl q_177 dX1_lawOf_13 ?_
    refine g_icmp_ge (pc := 16) X (tgt := 28) dX1_lawOf_16 rfl (fun c => ?_) (fun c => ?_)
    · have h := br_y c h
      refine g_null (pc := 28) X dX1_lawOf_28 ?_
      obtain ⟨e1, e2⟩ := rt_i h
      exact g_aret (pc := 29) X Y.2.2.1 (Or.inl ⟨_, rfl⟩) (Nat.le_of_ble_eq_true rfl) (Nat.le_of_ble_eq_true rfl) e1 e2 dX1_lawOf_29
    · have h := br_n c h
      refine g_aload_n (pc := 19) X 1 rfl dX1_lawOf_19 ?_
      obtain ⟨a7, e8, h⟩ := bd1_i h
      refine g_getR (pc := 20) X FcX1 k1 8 e8 (by decide) rfl q_175 dX1_lawOf_20 ?_
      refine g_iload_n (pc := 23) X 0 rfl dX1_lawOf_23 ?_
      obtain ⟨k9, h⟩ := gd_i h
      obtain ⟨a10, e11, h⟩ := bd1_i h
      refine g_aald (pc := 24) X (C := RX7) k9 (by decide) (by decide) rfl e11 dX1_lawOf_24 ?_
      refine g_goto (pc := 25) X (tgt := 29) dX1_lawOf_25 rfl ?_
      obtain ⟨e1, e2⟩ := rt_i h
      exact g_aret (pc := 29) X Y.2.2.1 (Or.inl ⟨_, rfl⟩) (Nat.le_of_ble_eq_true rfl) (Nat.le_of_ble_eq_true rfl) e1 e2 dX1_lawOf_29

def f_X7_join (v0 : Int32) (v1 : Int32) (v2 : Int32) (w : Wd) : Option (Int32 × Wd) := (if v0 = 38 then
 some ((if v1 = 0 then 0 else (if v2 = 0 then 0 else 1 : Int32) : Int32), w)
 else
 (if v0 = 42 then
 some (v1 * v2, w)
 else
 (if v0 = 43 then
 some (v1 + v2, w)
 else
 (if v0 = 45 then
 some (v1 - v2, w)
 else
 (if v0 = 47 then
 (if v2 = 0 then
 some (0, w)
 else
 (if ¬ v2 = 0 then
 some (v1 / v2, w)
 else none))
 else
 (if v0 = 60 then
 some ((if v2 ≤ v1 then 0 else 1 : Int32), w)
 else
 (if v0 = 61 then
 some ((if v1 = v2 then 1 else 0 : Int32), w)
 else
 (if v0 = 62 then
 some ((if v1 ≤ v2 then 0 else 1 : Int32), w)
 else
 (if v0 = 124 then
 some ((if v1 = 0 then (if v2 = 0 then 0 else 1 : Int32) else 1 : Int32), w)
 else
 some (0, w))))))))))
theorem c_X7_join {l : Launch} {V : Vt} {v0 : Int32} {v1 : Int32} {v2 : Int32} {w w' : Wd} {r : Int32} (h : f_X7_join v0 v1 v2 w = some (r, w')) : MetW l V yX7_join cX7_join 3 (some .int) { frames := 0, cells := 0, slots := 0, locals := 0 } w [.int v0, .int v1, .int v2] (some (.int r)) w' 0 0 := by
  refine g_start (by decide) (Nat.le_of_ble_eq_true rfl) ?_
  intro t _ hrm X hret hnm
  have Y : Hd_ t V cX7_join 3 RX7 { frames := 0, cells := 0, slots := 0, locals := 0 } (some .int) "join" := ⟨X, hrm, hret, hnm⟩
  refine g_as (lv' := [(0, .int v0), (1, .int v1), (2, .int v2)]) (st' := []) rfl rfl ?_
  unfold f_X7_join at h
  refine g_iload_n (pc := 0) X 0 rfl dX7_join_0 ?_
  by_cases c1 : v0 = 38
  · have h := br_y c1 h
    refine g_lsw (pc := 1) X (tgt := 98) (off := 97) dX7_join_1 (by decide) (by rw [c1]; rfl) rfl ?_
    refine g_iload_n (pc := 98) X 1 rfl dX7_join_98 ?_
    have kJ : Gd t V 3 0 0 (Qe t V (some (.int r)) w' 0 0) 111 [(0, .int v0), (1, .int v1), (2, .int v2)] [.int (if v1 = 0 then 0 else (if v2 = 0 then 0 else 1 : Int32) : Int32)] w := by
      obtain ⟨e1, e2⟩ := rt_i h
      exact g_iret (pc := 111) X Y.2.2.1 (Nat.le_of_ble_eq_true rfl) (Nat.le_of_ble_eq_true rfl) e1 e2 dX7_join_111
    refine g_if_eq (pc := 99) X (tgt := 110) dX7_join_99 rfl (fun c0 => ?_) (fun c0 => ?_)
    · refine g_iconst (pc := 110) X (v := 0) dX7_join_110 rfl ?_
      exact g_top (by rw [if_pos c0]) kJ
    · refine g_iload_n (pc := 102) X 2 rfl dX7_join_102 ?_
      refine g_if_eq (pc := 103) X (tgt := 110) dX7_join_103 rfl (fun c1 => ?_) (fun c1 => ?_)
      · refine g_iconst (pc := 110) X (v := 0) dX7_join_110 rfl ?_
        exact g_top (by rw [if_neg c0, if_pos c1]) kJ
      · refine g_iconst (pc := 106) X (v := 1) dX7_join_106 rfl ?_
        refine g_goto (pc := 107) X (tgt := 111) dX7_join_107 rfl ?_
        exact g_top (by rw [if_neg c0, if_neg c1]) kJ
  · have h := br_n c1 h
    by_cases c2 : v0 = 42
    · have h := br_y c2 h
      refine g_lsw (pc := 1) X (tgt := 153) (off := 152) dX7_join_1 (by decide) (by rw [c2]; rfl) rfl ?_
      refine g_iload_n (pc := 153) X 1 rfl dX7_join_153 ?_
      refine g_iload_n (pc := 154) X 2 rfl dX7_join_154 ?_
      refine g_imul (pc := 155) X dX7_join_155 ?_
      obtain ⟨e1, e2⟩ := rt_i h
      exact g_iret (pc := 156) X Y.2.2.1 (Nat.le_of_ble_eq_true rfl) (Nat.le_of_ble_eq_true rfl) e1 e2 dX7_join_156
    · have h := br_n c2 h
      by_cases c3 : v0 = 43
      · have h := br_y c3 h
        refine g_lsw (pc := 1) X (tgt := 145) (off := 144) dX7_join_1 (by decide) (by rw [c3]; rfl) rfl ?_
        refine g_iload_n (pc := 145) X 1 rfl dX7_join_145 ?_
        refine g_iload_n (pc := 146) X 2 rfl dX7_join_146 ?_
        refine g_iadd (pc := 147) X dX7_join_147 ?_
        obtain ⟨e1, e2⟩ := rt_i h
        exact g_iret (pc := 148) X Y.2.2.1 (Nat.le_of_ble_eq_true rfl) (Nat.le_of_ble_eq_true rfl) e1 e2 dX7_join_148
      · have h := br_n c3 h
        by_cases c4 : v0 = 45
        · have h := br_y c4 h
          refine g_lsw (pc := 1) X (tgt := 149) (off := 148) dX7_join_1 (by decide) (by rw [c4]; rfl) rfl ?_
          refine g_iload_n (pc := 149) X 1 rfl dX7_join_149 ?_
          refine g_iload_n (pc := 150) X 2 rfl dX7_join_150 ?_
          refine g_isub (pc := 151) X dX7_join_151 ?_
          obtain ⟨e1, e2⟩ := rt_i h
          exact g_iret (pc := 152) X Y.2.2.1 (Nat.le_of_ble_eq_true rfl) (Nat.le_of_ble_eq_true rfl) e1 e2 dX7_join_152
        · have h := br_n c4 h
          by_cases c5 : v0 = 47
          · have h := br_y c5 h
            refine g_lsw (pc := 1) X (tgt := 157) (off := 156) dX7_join_1 (by decide) (by rw [c5]; rfl) rfl ?_
            refine g_iload_n (pc := 157) X 2 rfl dX7_join_157 ?_
            refine g_if_ne (pc := 158) X (tgt := 165) dX7_join_158 rfl (fun c => ?_) (fun c => ?_)
            · have h := br_n c h
              refine g_iload_n (pc := 165) X 1 rfl dX7_join_165 ?_
              refine g_iload_n (pc := 166) X 2 rfl dX7_join_166 ?_
              obtain ⟨k6, h⟩ := gd_i h
              refine g_idiv (pc := 167) X k6 dX7_join_167 ?_
              obtain ⟨e1, e2⟩ := rt_i h
              exact g_iret (pc := 168) X Y.2.2.1 (Nat.le_of_ble_eq_true rfl) (Nat.le_of_ble_eq_true rfl) e1 e2 dX7_join_168
            · have h := br_y c h
              refine g_iconst (pc := 161) X (v := 0) dX7_join_161 rfl ?_
              refine g_goto (pc := 162) X (tgt := 168) dX7_join_162 rfl ?_
              obtain ⟨e1, e2⟩ := rt_i h
              exact g_iret (pc := 168) X Y.2.2.1 (Nat.le_of_ble_eq_true rfl) (Nat.le_of_ble_eq_true rfl) e1 e2 dX7_join_168
          · have h := br_n c5 h
            by_cases c7 : v0 = 60
            · have h := br_y c7 h
              refine g_lsw (pc := 1) X (tgt := 112) (off := 111) dX7_join_1 (by decide) (by rw [c7]; rfl) rfl ?_
              refine g_iload_n (pc := 112) X 1 rfl dX7_join_112 ?_
              refine g_iload_n (pc := 113) X 2 rfl dX7_join_113 ?_
              have kJ : Gd t V 3 0 0 (Qe t V (some (.int r)) w' 0 0) 122 [(0, .int v0), (1, .int v1), (2, .int v2)] [.int (if v2 ≤ v1 then 0 else 1 : Int32)] w := by
                obtain ⟨e1, e2⟩ := rt_i h
                exact g_iret (pc := 122) X Y.2.2.1 (Nat.le_of_ble_eq_true rfl) (Nat.le_of_ble_eq_true rfl) e1 e2 dX7_join_122
              refine g_icmp_ge (pc := 114) X (tgt := 121) dX7_join_114 rfl (fun c0 => ?_) (fun c0 => ?_)
              · refine g_iconst (pc := 121) X (v := 0) dX7_join_121 rfl ?_
                exact g_top (by rw [if_pos c0]) kJ
              · refine g_iconst (pc := 117) X (v := 1) dX7_join_117 rfl ?_
                refine g_goto (pc := 118) X (tgt := 122) dX7_join_118 rfl ?_
                exact g_top (by rw [if_neg c0]) kJ
            · have h := br_n c7 h
              by_cases c8 : v0 = 61
              · have h := br_y c8 h
                refine g_lsw (pc := 1) X (tgt := 123) (off := 122) dX7_join_1 (by decide) (by rw [c8]; rfl) rfl ?_
                refine g_iload_n (pc := 123) X 1 rfl dX7_join_123 ?_
                refine g_iload_n (pc := 124) X 2 rfl dX7_join_124 ?_
                have kJ : Gd t V 3 0 0 (Qe t V (some (.int r)) w' 0 0) 133 [(0, .int v0), (1, .int v1), (2, .int v2)] [.int (if v1 = v2 then 1 else 0 : Int32)] w := by
                  obtain ⟨e1, e2⟩ := rt_i h
                  exact g_iret (pc := 133) X Y.2.2.1 (Nat.le_of_ble_eq_true rfl) (Nat.le_of_ble_eq_true rfl) e1 e2 dX7_join_133
                refine g_icmp_ne (pc := 125) X (tgt := 132) dX7_join_125 rfl (fun c0 => ?_) (fun c0 => ?_)
                · refine g_iconst (pc := 132) X (v := 0) dX7_join_132 rfl ?_
                  exact g_top (by rw [if_neg c0]) kJ
                · refine g_iconst (pc := 128) X (v := 1) dX7_join_128 rfl ?_
                  refine g_goto (pc := 129) X (tgt := 133) dX7_join_129 rfl ?_
                  exact g_top (by rw [if_pos c0]) kJ
              · have h := br_n c8 h
                by_cases c9 : v0 = 62
                · have h := br_y c9 h
                  refine g_lsw (pc := 1) X (tgt := 134) (off := 133) dX7_join_1 (by decide) (by rw [c9]; rfl) rfl ?_
                  refine g_iload_n (pc := 134) X 1 rfl dX7_join_134 ?_
                  refine g_iload_n (pc := 135) X 2 rfl dX7_join_135 ?_
                  have kJ : Gd t V 3 0 0 (Qe t V (some (.int r)) w' 0 0) 144 [(0, .int v0), (1, .int v1), (2, .int v2)] [.int (if v1 ≤ v2 then 0 else 1 : Int32)] w := by
                    obtain ⟨e1, e2⟩ := rt_i h
                    exact g_iret (pc := 144) X Y.2.2.1 (Nat.le_of_ble_eq_true rfl) (Nat.le_of_ble_eq_true rfl) e1 e2 dX7_join_144
                  refine g_icmp_le (pc := 136) X (tgt := 143) dX7_join_136 rfl (fun c0 => ?_) (fun c0 => ?_)
                  · refine g_iconst (pc := 143) X (v := 0) dX7_join_143 rfl ?_
                    exact g_top (by rw [if_pos c0]) kJ
                  · refine g_iconst (pc := 139) X (v := 1) dX7_join_139 rfl ?_
                    refine g_goto (pc := 140) X (tgt := 144) dX7_join_140 rfl ?_
                    exact g_top (by rw [if_neg c0]) kJ
                · have h := br_n c9 h
                  by_cases c10 : v0 = 124
                  · have h := br_y c10 h
                    refine g_lsw (pc := 1) X (tgt := 84) (off := 83) dX7_join_1 (by decide) (by rw [c10]; rfl) rfl ?_
                    refine g_iload_n (pc := 84) X 1 rfl dX7_join_84 ?_
                    have kJ : Gd t V 3 0 0 (Qe t V (some (.int r)) w' 0 0) 97 [(0, .int v0), (1, .int v1), (2, .int v2)] [.int (if v1 = 0 then (if v2 = 0 then 0 else 1 : Int32) else 1 : Int32)] w := by
                      obtain ⟨e1, e2⟩ := rt_i h
                      exact g_iret (pc := 97) X Y.2.2.1 (Nat.le_of_ble_eq_true rfl) (Nat.le_of_ble_eq_true rfl) e1 e2 dX7_join_97
                    refine g_if_ne (pc := 85) X (tgt := 92) dX7_join_85 rfl (fun c0 => ?_) (fun c0 => ?_)
                    · refine g_iconst (pc := 92) X (v := 1) dX7_join_92 rfl ?_
                      refine g_goto (pc := 93) X (tgt := 97) dX7_join_93 rfl ?_
                      exact g_top (by rw [if_neg c0]) kJ
                    · refine g_iload_n (pc := 88) X 2 rfl dX7_join_88 ?_
                      refine g_if_eq (pc := 89) X (tgt := 96) dX7_join_89 rfl (fun c1 => ?_) (fun c1 => ?_)
                      · refine g_iconst (pc := 96) X (v := 0) dX7_join_96 rfl ?_
                        exact g_top (by rw [if_pos c0, if_pos c1]) kJ
                      · refine g_iconst (pc := 92) X (v := 1) dX7_join_92 rfl ?_
                        refine g_goto (pc := 93) X (tgt := 97) dX7_join_93 rfl ?_
                        exact g_top (by rw [if_pos c0, if_neg c1]) kJ
                  · have h := br_n c10 h
                    refine g_lsw (pc := 1) X (tgt := 169) (off := 168) dX7_join_1 (by decide) (by have n0 : Int32.toInt v0 ≠ 38 := nt_ c1; have n1 : Int32.toInt v0 ≠ 42 := nt_ c2; have n2 : Int32.toInt v0 ≠ 43 := nt_ c3; have n3 : Int32.toInt v0 ≠ 45 := nt_ c4; have n4 : Int32.toInt v0 ≠ 47 := nt_ c5; have n5 : Int32.toInt v0 ≠ 60 := nt_ c7; have n6 : Int32.toInt v0 ≠ 61 := nt_ c8; have n7 : Int32.toInt v0 ≠ 62 := nt_ c9; have n8 : Int32.toInt v0 ≠ 124 := nt_ c10; simp [Op.lookupswitch.offset, n0, Ne.symm n0, n1, Ne.symm n1, n2, Ne.symm n2, n3, Ne.symm n3, n4, Ne.symm n4, n5, Ne.symm n5, n6, Ne.symm n6, n7, Ne.symm n7, n8, Ne.symm n8]) rfl ?_
                    refine g_iconst (pc := 169) X (v := 0) dX7_join_169 rfl ?_
                    obtain ⟨e1, e2⟩ := rt_i h
                    exact g_iret (pc := 170) X Y.2.2.1 (Nat.le_of_ble_eq_true rfl) (Nat.le_of_ble_eq_true rfl) e1 e2 dX7_join_170

def L_X7_value_6  (n : Nat) (v0 : Nat) (v1 : Int32) (v2 : Int32) (v3 : Int32) (v4 : Int32) (v5 : Int32) (w : Wd) : Option (Int32 × Wd) := match n with
  | 0 => none
  | n + 1 => (if wK w v0 = 7 then
 (bd1 (wR w v0 2) fun a2 =>
 (if wK w a2 = 11 then
 (if (nI (wL w a2)) ≤ v5 then
 (bd1 (wR w v0 3) fun a5 =>
 (if aK 11 w a5 v4 = true then
 some (wI w a5 (nx v4), w)
 else none))
 else
 (bd1 (wR w v0 2) fun a8 =>
 (if aK 11 w a8 v5 = true then
 (lb_ (wI w a8 (nx v5)) fun x11 =>
 (if x11 < (-3) then
 (if x11 = (-33) then
 (bd1 (wR w v0 3) fun a33 =>
 (bd1 (wR w v0 3) fun a35 =>
 (if aK 11 w a35 v4 = true then
 (if aK 11 w a33 v4 = true then
 (lb_ (sI w a33 (nx v4) (if (wI w a35 (nx v4)) = 0 then 1 else 0 : Int32)) fun w39 =>
 (lb_ (v5 + 1) fun x41 =>
 L_X7_value_6 n v0 v1 v2 v3 v4 x41 w39))
 else none)
 else none)))
 else
 (if v4 ≤ 0 then
 (lb_ (v5 + 1) fun x13 =>
 L_X7_value_6 n v0 v1 v2 v3 v4 x13 w)
 else
 (lb_ (v4 + (-1)) fun x15 =>
 (bd1 (wR w v0 3) fun a17 =>
 (bd1 (wR w v0 3) fun a19 =>
 (if aK 11 w a19 x15 = true then
 (bd1 (wR w v0 3) fun a22 =>
 (if aK 11 w a22 (x15 + 1) = true then
 (bd2 (f_X7_join (-x11) (wI w a19 (nx x15)) (wI w a22 (nx (x15 + 1))) w) fun r25 w26 =>
 (if aK 11 w26 a17 x15 = true then
 (lb_ (sI w26 a17 (nx x15) r25) fun w29 =>
 (lb_ (v5 + 1) fun x31 =>
 L_X7_value_6 n v0 v1 v2 v3 x15 x31 w29))
 else none))
 else none))
 else none))))))
 else
 (lb_ (v4 + 1) fun x43 =>
 (bd1 (wR w v0 3) fun a45 =>
 (if aK 11 w a45 x43 = true then
 (lb_ (sI w a45 (nx x43) (if x11 < 0 then (if x11 = (-1) then v1 else (if x11 = (-3) then v3 else v2 : Int32) : Int32) else x11 : Int32)) fun w48 =>
 (lb_ (v5 + 1) fun x50 =>
 L_X7_value_6 n v0 v1 v2 v3 x43 x50 w48))
 else none)))))
 else none)))
 else none))
 else none)
theorem bL_X7_value_6 {t : Ct} {V : Vt} {r : Int32} {w' : Wd} (Y : Hd_ t V cX7_value 7 RX7 { frames := 1, cells := 0, slots := 0, locals := 22 } (some .int) "value") : ∀ {n : Nat} {v0 : Nat} {v1 : Int32} {v2 : Int32} {v3 : Int32} {v4 : Int32} {v5 : Int32} {w : Wd}, L_X7_value_6  n v0 v1 v2 v3 v4 v5 w = some (r, w') → Gd t V 7 0 0 (Qe t V (some (.int r)) w' 0 0) 6 [(0, rf V v0), (1, .int v1), (2, .int v2), (3, .int v3), (4, .int v4), (5, .int v5)] [] w := by
  have X := Y.1
  intro n
  induction n with
  | zero => intro v0 v1 v2 v3 v4 v5 w h; cases h
  | succ n ih0 =>
    have ih : ∀ (v0 : Nat) (v1 : Int32) (v2 : Int32) (v3 : Int32) (v4 : Int32) (v5 : Int32) (w : Wd), L_X7_value_6  n v0 v1 v2 v3 v4 v5 w = some (r, w') → Gd t V 7 0 0 (Qe t V (some (.int r)) w' 0 0) 6 [(0, rf V v0), (1, .int v1), (2, .int v2), (3, .int v3), (4, .int v4), (5, .int v5)] [] w := fun v0 v1 v2 v3 v4 v5 w h => ih0 h
    clear ih0
    intro v0 v1 v2 v3 v4 v5 w h
    unfold L_X7_value_6 at h
    refine g_iload (pc := 6) X 5 rfl dX7_value_6 ?_
    refine g_aload_n (pc := 8) X 0 rfl dX7_value_8 ?_
    obtain ⟨k1, h⟩ := gd_i h
    obtain ⟨a2, e3, h⟩ := bd1_i h
    refine g_getR (pc := 9) X FcX7 k1 2 e3 (by decide) rfl q_902 dX7_value_9 ?_
    obtain ⟨k4, h⟩ := gd_i h
    refine g_alen (pc := 12) X k4 dX7_value_12 ?_
    refine g_icmp_ge (pc := 13) X (tgt := 152) dX7_value_13 rfl (fun c => ?_) (fun c => ?_)
    · have h := br_y c h
      refine g_aload_n (pc := 152) X 0 rfl dX7_value_152 ?_
      obtain ⟨a5, e6, h⟩ := bd1_i h
      refine g_getR (pc := 153) X FcX7 k1 3 e6 (by decide) rfl q_903 dX7_value_153 ?_
      refine g_iload (pc := 156) X 4 rfl dX7_value_156 ?_
      obtain ⟨k7, h⟩ := gd_i h
      refine g_iald (pc := 158) X k7 dX7_value_158 ?_
      obtain ⟨e1, e2⟩ := rt_i h
      exact g_iret (pc := 159) X Y.2.2.1 (Nat.le_of_ble_eq_true rfl) (Nat.le_of_ble_eq_true rfl) e1 e2 dX7_value_159
    · have h := br_n c h
      refine g_aload_n (pc := 16) X 0 rfl dX7_value_16 ?_
      obtain ⟨a8, e9, h⟩ := bd1_i h
      refine g_getR (pc := 17) X FcX7 k1 2 e9 (by decide) rfl q_902 dX7_value_17 ?_
      refine g_iload (pc := 20) X 5 rfl dX7_value_20 ?_
      obtain ⟨k10, h⟩ := gd_i h
      refine g_iald (pc := 22) X k10 dX7_value_22 ?_
      obtain ⟨x11, e12, h⟩ := lb_i h
      refine g_top e12 ?_
      refine g_istore (pc := 23) X (lv' := [(6, .int x11), (0, rf V v0), (1, .int v1), (2, .int v2), (3, .int v3), (4, .int v4), (5, .int v5)]) dX7_value_23 (by decide) rfl ?_
      refine g_iload (pc := 25) X 0 rfl dX7_value_25 ?_
      refine g_bipush (pc := 27) X (v := (-3)) dX7_value_27 rfl ?_
      refine g_icmp_lt (pc := 29) X (tgt := 77) dX7_value_29 rfl (fun c => ?_) (fun c => ?_)
      · have h := br_y c h
        refine g_iload (pc := 77) X 0 rfl dX7_value_77 ?_
        refine g_bipush (pc := 79) X (v := (-33)) dX7_value_79 rfl ?_
        refine g_icmp_ne (pc := 81) X (tgt := 109) dX7_value_81 rfl (fun c => ?_) (fun c => ?_)
        · have h := br_n c h
          refine g_iload (pc := 109) X 5 rfl dX7_value_109 ?_
          refine g_if_le (pc := 111) X (tgt := 146) dX7_value_111 rfl (fun c => ?_) (fun c => ?_)
          · have h := br_y c h
            obtain ⟨x13, e14, h⟩ := lb_i h
            refine g_iinc (pc := 146) X 6 rfl dX7_value_146 (v := x13) e14.symm (by decide) (lv' := [(5, .int x13), (6, .int x11), (0, rf V v0), (1, .int v1), (2, .int v2), (3, .int v3), (4, .int v4)]) rfl ?_
            refine g_goto (pc := 149) X (tgt := 6) dX7_value_149 rfl ?_
            refine g_sub (lv' := [(0, rf V v0), (1, .int v1), (2, .int v2), (3, .int v3), (4, .int v4), (5, .int x13)]) [2, 3, 4, 5, 6, 0] rfl ?_
            exact ih _ _ _ _ _ _ _ h
          · have h := br_n c h
            obtain ⟨x15, e16, h⟩ := lb_i h
            refine g_iinc (pc := 114) X 5 rfl dX7_value_114 (v := x15) e16.symm (by decide) (lv' := [(4, .int x15), (6, .int x11), (0, rf V v0), (1, .int v1), (2, .int v2), (3, .int v3), (5, .int v5)]) rfl ?_
            refine g_aload_n (pc := 117) X 2 rfl dX7_value_117 ?_
            obtain ⟨a17, e18, h⟩ := bd1_i h
            refine g_getR (pc := 118) X FcX7 k1 3 e18 (by decide) rfl q_903 dX7_value_118 ?_
            refine g_iload (pc := 121) X 0 rfl dX7_value_121 ?_
            refine g_iload (pc := 123) X 1 rfl dX7_value_123 ?_
            refine g_ineg (pc := 125) X dX7_value_125 ?_
            refine g_aload_n (pc := 126) X 2 rfl dX7_value_126 ?_
            obtain ⟨a19, e20, h⟩ := bd1_i h
            refine g_getR (pc := 127) X FcX7 k1 3 e20 (by decide) rfl q_903 dX7_value_127 ?_
            refine g_iload (pc := 130) X 0 rfl dX7_value_130 ?_
            obtain ⟨k21, h⟩ := gd_i h
            refine g_iald (pc := 132) X k21 dX7_value_132 ?_
            refine g_aload_n (pc := 133) X 2 rfl dX7_value_133 ?_
            obtain ⟨a22, e23, h⟩ := bd1_i h
            refine g_getR (pc := 134) X FcX7 k1 3 e23 (by decide) rfl q_903 dX7_value_134 ?_
            refine g_iload (pc := 137) X 0 rfl dX7_value_137 ?_
            refine g_iconst (pc := 139) X (v := 1) dX7_value_139 rfl ?_
            refine g_iadd (pc := 140) X dX7_value_140 ?_
            obtain ⟨k24, h⟩ := gd_i h
            refine g_iald (pc := 141) X k24 dX7_value_141 ?_
            obtain ⟨r25, w26, h27, h⟩ := bd2_i h
            refine g_callS (pc := 142) X mk_X7_join q_499 q_498 (c_X7_join h27) rfl rfl (by rw [Y.2.1]; decide)  rfl (rest := [.int x15, rf V a17]) rfl (Nat.le_of_ble_eq_true rfl) (by rw [Y.2.1]; exact ⟨Nat.le_of_ble_eq_true rfl, Nat.le_of_ble_eq_true rfl⟩) dX7_value_142 (st' := [.int r25, .int x15, rf V a17]) rfl ?_
            obtain ⟨k28, h⟩ := gd_i h
            refine g_iast (pc := 145) X k28 dX7_value_145 ?_
            obtain ⟨w29, e30, h⟩ := lb_i h
            refine g_w e30 ?_
            obtain ⟨x31, e32, h⟩ := lb_i h
            refine g_iinc (pc := 146) X 6 rfl dX7_value_146 (v := x31) e32.symm (by decide) (lv' := [(5, .int x31), (4, .int x15), (6, .int x11), (0, rf V v0), (1, .int v1), (2, .int v2), (3, .int v3)]) rfl ?_
            refine g_goto (pc := 149) X (tgt := 6) dX7_value_149 rfl ?_
            refine g_sub (lv' := [(0, rf V v0), (1, .int v1), (2, .int v2), (3, .int v3), (4, .int x15), (5, .int x31)]) [3, 4, 5, 6, 1, 0] rfl ?_
            exact ih _ _ _ _ _ _ _ h
        · have h := br_y c h
          refine g_aload_n (pc := 84) X 1 rfl dX7_value_84 ?_
          obtain ⟨a33, e34, h⟩ := bd1_i h
          refine g_getR (pc := 85) X FcX7 k1 3 e34 (by decide) rfl q_903 dX7_value_85 ?_
          refine g_iload (pc := 88) X 5 rfl dX7_value_88 ?_
          refine g_aload_n (pc := 90) X 1 rfl dX7_value_90 ?_
          obtain ⟨a35, e36, h⟩ := bd1_i h
          refine g_getR (pc := 91) X FcX7 k1 3 e36 (by decide) rfl q_903 dX7_value_91 ?_
          refine g_iload (pc := 94) X 5 rfl dX7_value_94 ?_
          obtain ⟨k37, h⟩ := gd_i h
          refine g_iald (pc := 96) X k37 dX7_value_96 ?_
          have kJ : Gd t V 7 0 0 (Qe t V (some (.int r)) w' 0 0) 105 [(6, .int x11), (0, rf V v0), (1, .int v1), (2, .int v2), (3, .int v3), (4, .int v4), (5, .int v5)] [.int (if (wI w a35 (nx v4)) = 0 then 1 else 0 : Int32), .int v4, rf V a33] w := by
            obtain ⟨k38, h⟩ := gd_i h
            refine g_iast (pc := 105) X k38 dX7_value_105 ?_
            obtain ⟨w39, e40, h⟩ := lb_i h
            refine g_w e40 ?_
            refine g_goto (pc := 106) X (tgt := 146) dX7_value_106 rfl ?_
            obtain ⟨x41, e42, h⟩ := lb_i h
            refine g_iinc (pc := 146) X 6 rfl dX7_value_146 (v := x41) e42.symm (by decide) (lv' := [(5, .int x41), (6, .int x11), (0, rf V v0), (1, .int v1), (2, .int v2), (3, .int v3), (4, .int v4)]) rfl ?_
            refine g_goto (pc := 149) X (tgt := 6) dX7_value_149 rfl ?_
            refine g_sub (lv' := [(0, rf V v0), (1, .int v1), (2, .int v2), (3, .int v3), (4, .int v4), (5, .int x41)]) [2, 3, 4, 5, 6, 0] rfl ?_
            exact ih _ _ _ _ _ _ _ h
          refine g_if_ne (pc := 97) X (tgt := 104) dX7_value_97 rfl (fun c0 => ?_) (fun c0 => ?_)
          · refine g_iconst (pc := 104) X (v := 0) dX7_value_104 rfl ?_
            exact g_top (by rw [if_neg c0]) kJ
          · refine g_iconst (pc := 100) X (v := 1) dX7_value_100 rfl ?_
            refine g_goto (pc := 101) X (tgt := 105) dX7_value_101 rfl ?_
            exact g_top (by rw [if_pos c0]) kJ
      · have h := br_n c h
        obtain ⟨x43, e44, h⟩ := lb_i h
        refine g_iinc (pc := 32) X 5 rfl dX7_value_32 (v := x43) e44.symm (by decide) (lv' := [(4, .int x43), (6, .int x11), (0, rf V v0), (1, .int v1), (2, .int v2), (3, .int v3), (5, .int v5)]) rfl ?_
        refine g_aload_n (pc := 35) X 2 rfl dX7_value_35 ?_
        obtain ⟨a45, e46, h⟩ := bd1_i h
        refine g_getR (pc := 36) X FcX7 k1 3 e46 (by decide) rfl q_903 dX7_value_36 ?_
        refine g_iload (pc := 39) X 0 rfl dX7_value_39 ?_
        refine g_iload (pc := 41) X 1 rfl dX7_value_41 ?_
        have kJ : Gd t V 7 0 0 (Qe t V (some (.int r)) w' 0 0) 73 [(4, .int x43), (6, .int x11), (0, rf V v0), (1, .int v1), (2, .int v2), (3, .int v3), (5, .int v5)] [.int (if x11 < 0 then (if x11 = (-1) then v1 else (if x11 = (-3) then v3 else v2 : Int32) : Int32) else x11 : Int32), .int x43, rf V a45] w := by
          obtain ⟨k47, h⟩ := gd_i h
          refine g_iast (pc := 73) X k47 dX7_value_73 ?_
          obtain ⟨w48, e49, h⟩ := lb_i h
          refine g_w e49 ?_
          refine g_goto (pc := 74) X (tgt := 146) dX7_value_74 rfl ?_
          obtain ⟨x50, e51, h⟩ := lb_i h
          refine g_iinc (pc := 146) X 6 rfl dX7_value_146 (v := x50) e51.symm (by decide) (lv' := [(5, .int x50), (4, .int x43), (6, .int x11), (0, rf V v0), (1, .int v1), (2, .int v2), (3, .int v3)]) rfl ?_
          refine g_goto (pc := 149) X (tgt := 6) dX7_value_149 rfl ?_
          refine g_sub (lv' := [(0, rf V v0), (1, .int v1), (2, .int v2), (3, .int v3), (4, .int x43), (5, .int x50)]) [3, 4, 5, 6, 1, 0] rfl ?_
          exact ih _ _ _ _ _ _ _ h
        refine g_if_lt (pc := 43) X (tgt := 51) dX7_value_43 rfl (fun c0 => ?_) (fun c0 => ?_)
        · refine g_iload (pc := 51) X 1 rfl dX7_value_51 ?_
          refine g_iconst (pc := 53) X (v := (-1)) dX7_value_53 rfl ?_
          refine g_icmp_ne (pc := 54) X (tgt := 61) dX7_value_54 rfl (fun c1 => ?_) (fun c1 => ?_)
          · refine g_iload (pc := 61) X 1 rfl dX7_value_61 ?_
            refine g_bipush (pc := 63) X (v := (-3)) dX7_value_63 rfl ?_
            refine g_icmp_ne (pc := 65) X (tgt := 72) dX7_value_65 rfl (fun c2 => ?_) (fun c2 => ?_)
            · refine g_iload_n (pc := 72) X 4 rfl dX7_value_72 ?_
              exact g_top (by rw [if_pos c0, if_neg c1, if_neg c2]) kJ
            · refine g_iload_n (pc := 68) X 5 rfl dX7_value_68 ?_
              refine g_goto (pc := 69) X (tgt := 73) dX7_value_69 rfl ?_
              exact g_top (by rw [if_pos c0, if_neg c1, if_pos c2]) kJ
          · refine g_iload_n (pc := 57) X 3 rfl dX7_value_57 ?_
            refine g_goto (pc := 58) X (tgt := 73) dX7_value_58 rfl ?_
            exact g_top (by rw [if_pos c0, if_pos c1]) kJ
        · refine g_iload (pc := 46) X 1 rfl dX7_value_46 ?_
          refine g_goto (pc := 48) X (tgt := 73) dX7_value_48 rfl ?_
          exact g_top (by rw [if_neg c0]) kJ

def f_X7_value (v0 : Nat) (v1 : Int32) (v2 : Int32) (v3 : Int32) (w : Wd) : Option (Int32 × Wd) := L_X7_value_6 FU v0 v1 v2 v3 0 0 w
theorem c_X7_value {l : Launch} {V : Vt} {v0 : Nat} {v1 : Int32} {v2 : Int32} {v3 : Int32} {w w' : Wd} {r : Int32} (h : f_X7_value v0 v1 v2 v3 w = some (r, w')) : MetW l V yX7_value cX7_value 7 (some .int) { frames := 1, cells := 0, slots := 0, locals := 22 } w [rf V v0, .int v1, .int v2, .int v3] (some (.int r)) w' 0 0 := by
  refine g_start (by decide) (Nat.le_of_ble_eq_true rfl) ?_
  intro t _ hrm X hret hnm
  have Y : Hd_ t V cX7_value 7 RX7 { frames := 1, cells := 0, slots := 0, locals := 22 } (some .int) "value" := ⟨X, hrm, hret, hnm⟩
  refine g_as (lv' := [(0, rf V v0), (1, .int v1), (2, .int v2), (3, .int v3)]) (st' := []) rfl rfl ?_
  unfold f_X7_value at h
  refine g_iconst (pc := 0) X (v := 0) dX7_value_0 rfl ?_
  refine g_istore (pc := 1) X (lv' := [(4, .int 0), (0, rf V v0), (1, .int v1), (2, .int v2), (3, .int v3)]) dX7_value_1 (by decide) rfl ?_
  refine g_iconst (pc := 3) X (v := 0) dX7_value_3 rfl ?_
  refine g_istore (pc := 4) X (lv' := [(5, .int 0), (4, .int 0), (0, rf V v0), (1, .int v1), (2, .int v2), (3, .int v3)]) dX7_value_4 (by decide) rfl ?_
  refine g_sub (lv' := [(0, rf V v0), (1, .int v1), (2, .int v2), (3, .int v3), (4, .int 0), (5, .int 0)]) [2, 3, 4, 5, 1, 0] rfl ?_
  exact bL_X7_value_6 Y  h

def f_X8_held (v0 : Int32) (v1 : Int32) (v2 : Int32) (w : Wd) : Option (Int32 × Wd) := some ((if v1 ≤ v0 then (if v0 ≤ v2 then v0 else v2 : Int32) else v1 : Int32), w)
theorem c_X8_held {l : Launch} {V : Vt} {v0 : Int32} {v1 : Int32} {v2 : Int32} {w w' : Wd} {r : Int32} (h : f_X8_held v0 v1 v2 w = some (r, w')) : MetW l V yX8_held cX8_held 3 (some .int) { frames := 0, cells := 0, slots := 0, locals := 0 } w [.int v0, .int v1, .int v2] (some (.int r)) w' 0 0 := by
  refine g_start (by decide) (Nat.le_of_ble_eq_true rfl) ?_
  intro t _ hrm X hret hnm
  have Y : Hd_ t V cX8_held 3 RX8 { frames := 0, cells := 0, slots := 0, locals := 0 } (some .int) "held" := ⟨X, hrm, hret, hnm⟩
  refine g_as (lv' := [(0, .int v0), (1, .int v1), (2, .int v2)]) (st' := []) rfl rfl ?_
  unfold f_X8_held at h
  refine g_iload_n (pc := 0) X 0 rfl dX8_held_0 ?_
  refine g_iload_n (pc := 1) X 1 rfl dX8_held_1 ?_
  have kJ : Gd t V 3 0 0 (Qe t V (some (.int r)) w' 0 0) 19 [(0, .int v0), (1, .int v1), (2, .int v2)] [.int (if v1 ≤ v0 then (if v0 ≤ v2 then v0 else v2 : Int32) else v1 : Int32)] w := by
    obtain ⟨e1, e2⟩ := rt_i h
    exact g_iret (pc := 19) X Y.2.2.1 (Nat.le_of_ble_eq_true rfl) (Nat.le_of_ble_eq_true rfl) e1 e2 dX8_held_19
  refine g_icmp_ge (pc := 2) X (tgt := 9) dX8_held_2 rfl (fun c0 => ?_) (fun c0 => ?_)
  · refine g_iload_n (pc := 9) X 0 rfl dX8_held_9 ?_
    refine g_iload_n (pc := 10) X 2 rfl dX8_held_10 ?_
    refine g_icmp_le (pc := 11) X (tgt := 18) dX8_held_11 rfl (fun c1 => ?_) (fun c1 => ?_)
    · refine g_iload_n (pc := 18) X 0 rfl dX8_held_18 ?_
      exact g_top (by rw [if_pos c0, if_pos c1]) kJ
    · refine g_iload_n (pc := 14) X 2 rfl dX8_held_14 ?_
      refine g_goto (pc := 15) X (tgt := 19) dX8_held_15 rfl ?_
      exact g_top (by rw [if_pos c0, if_neg c1]) kJ
  · refine g_iload_n (pc := 5) X 1 rfl dX8_held_5 ?_
    refine g_goto (pc := 6) X (tgt := 19) dX8_held_6 rfl ?_
    exact g_top (by rw [if_neg c0]) kJ

