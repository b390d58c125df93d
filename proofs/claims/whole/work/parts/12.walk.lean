/-! by program: the pure functions of the methods, and their walks -/
def L_X6_append_3  (n : Nat) (v0 : Nat) (v1 : Int32) (v2 : Int32) (w : Wd) : Option (Unit × Wd) := match n with
  | 0 => none
  | n + 1 => (if v2 < 0 then
 some ((), w)
 else
 (if wK w v0 = 6 then
 (if 96 ≤ (wI w v0 1) then
 some ((), w)
 else
 (bd1 (wR w v0 0) fun a2 =>
 (if aK 11 w a2 (wI w v0 1) = true then
 (lb_ (sI w a2 (nx (wI w v0 1)) ((v1 >>> (v2 &&& 31)) &&& 255)) fun w5 =>
 (lb_ (sI w5 v0 1 ((wI w5 v0 1) + 1)) fun w7 =>
 (lb_ (v2 + (-8)) fun x9 =>
 L_X6_append_3 n v0 v1 x9 w7)))
 else none)))
 else none))
theorem bL_X6_append_3 {t : Ct} {V : Vt} {r : Unit} {w' : Wd} (Y : Hd_ t V cX6_append 3 RX6 { frames := 0, cells := 0, slots := 0, locals := 0 } (none) "append") : ∀ {n : Nat} {v0 : Nat} {v1 : Int32} {v2 : Int32} {w : Wd}, L_X6_append_3  n v0 v1 v2 w = some (r, w') → Gd t V 3 0 0 (Qe t V none w' 0 0) 3 [(0, rf V v0), (1, .int v1), (2, .int v2)] [] w := by
  have X := Y.1
  intro n
  induction n with
  | zero => intro v0 v1 v2 w h; cases h
  | succ n ih0 =>
    have ih : ∀ (v0 : Nat) (v1 : Int32) (v2 : Int32) (w : Wd), L_X6_append_3  n v0 v1 v2 w = some (r, w') → Gd t V 3 0 0 (Qe t V none w' 0 0) 3 [(0, rf V v0), (1, .int v1), (2, .int v2)] [] w := fun v0 v1 v2 w h => ih0 h
    clear ih0
    intro v0 v1 v2 w h
    unfold L_X6_append_3 at h
    refine g_iload_n (pc := 3) X 2 rfl dX6_append_3 ?_
    refine g_if_lt (pc := 4) X (tgt := 48) dX6_append_4 rfl (fun c => ?_) (fun c => ?_)
    · have h := br_y c h
      obtain ⟨e1, e2⟩ := rt_i h
      exact g_vret (pc := 48) X Y.2.2.1 (Nat.le_of_ble_eq_true rfl) (Nat.le_of_ble_eq_true rfl) e2 dX6_append_48
    · have h := br_n c h
      refine g_aload_n (pc := 7) X 0 rfl dX6_append_7 ?_
      obtain ⟨k1, h⟩ := gd_i h
      refine g_getI (pc := 8) X FcX6 k1 1 (by decide) rfl q_232 dX6_append_8 ?_
      refine g_bipush (pc := 11) X (v := 96) dX6_append_11 rfl ?_
      refine g_icmp_ge (pc := 13) X (tgt := 48) dX6_append_13 rfl (fun c => ?_) (fun c => ?_)
      · have h := br_y c h
        obtain ⟨e1, e2⟩ := rt_i h
        exact g_vret (pc := 48) X Y.2.2.1 (Nat.le_of_ble_eq_true rfl) (Nat.le_of_ble_eq_true rfl) e2 dX6_append_48
      · have h := br_n c h
        refine g_aload_n (pc := 16) X 0 rfl dX6_append_16 ?_
        obtain ⟨a2, e3, h⟩ := bd1_i h
        refine g_getR (pc := 17) X FcX6 k1 0 e3 (by decide) rfl q_231 dX6_append_17 ?_
        refine g_aload_n (pc := 20) X 0 rfl dX6_append_20 ?_
        refine g_getI (pc := 21) X FcX6 k1 1 (by decide) rfl q_232 dX6_append_21 ?_
        refine g_iload_n (pc := 24) X 1 rfl dX6_append_24 ?_
        refine g_iload_n (pc := 25) X 2 rfl dX6_append_25 ?_
        refine g_ishr (pc := 26) X dX6_append_26 ?_
        refine g_sipush (pc := 27) X (v := 255) dX6_append_27 rfl ?_
        refine g_iand (pc := 30) X dX6_append_30 ?_
        obtain ⟨k4, h⟩ := gd_i h
        refine g_iast (pc := 31) X k4 dX6_append_31 ?_
        obtain ⟨w5, e6, h⟩ := lb_i h
        refine g_w e6 ?_
        refine g_aload_n (pc := 32) X 0 rfl dX6_append_32 ?_
        refine g_dup (pc := 33) X rfl dX6_append_33 ?_
        refine g_getI (pc := 34) X FcX6 (kd_I e6 k1) 1 (by decide) rfl q_232 dX6_append_34 ?_
        refine g_iconst (pc := 37) X (v := 1) dX6_append_37 rfl ?_
        refine g_iadd (pc := 38) X dX6_append_38 ?_
        refine g_putI (pc := 39) X FcX6 (kd_I e6 k1) 1 (by decide) rfl q_232 rfl rfl rfl dX6_append_39 ?_
        obtain ⟨w7, e8, h⟩ := lb_i h
        refine g_w e8 ?_
        obtain ⟨x9, e10, h⟩ := lb_i h
        refine g_iinc (pc := 42) X 2 rfl dX6_append_42 (v := x9) e10.symm (by decide) (lv' := [(2, .int x9), (0, rf V v0), (1, .int v1)]) rfl ?_
        refine g_goto (pc := 45) X (tgt := 3) dX6_append_45 rfl ?_
        refine g_sub (lv' := [(0, rf V v0), (1, .int v1), (2, .int x9)]) [1, 2, 0] rfl ?_
        exact ih _ _ _ _ h

def f_X6_append (v0 : Nat) (v1 : Int32) (w : Wd) : Option (Unit × Wd) := L_X6_append_3 FU v0 v1 24 w
theorem c_X6_append {l : Launch} {V : Vt} {v0 : Nat} {v1 : Int32} {w w' : Wd} {r : Unit} (h : f_X6_append v0 v1 w = some (r, w')) : MetW l V yX6_append cX6_append 3 (none) { frames := 0, cells := 0, slots := 0, locals := 0 } w [rf V v0, .int v1] none w' 0 0 := by
  refine g_start (by decide) (Nat.le_of_ble_eq_true rfl) ?_
  intro t _ hrm X hret hnm
  have Y : Hd_ t V cX6_append 3 RX6 { frames := 0, cells := 0, slots := 0, locals := 0 } (none) "append" := ⟨X, hrm, hret, hnm⟩
  refine g_as (lv' := [(0, rf V v0), (1, .int v1)]) (st' := []) rfl rfl ?_
  unfold f_X6_append at h
  refine g_bipush (pc := 0) X (v := 24) dX6_append_0 rfl ?_
  refine g_istore_n (pc := 2) X (lv' := [(2, .int 24), (0, rf V v0), (1, .int v1)]) dX6_append_2 (by decide) rfl ?_
  refine g_sub (lv' := [(0, rf V v0), (1, .int v1), (2, .int 24)]) [1, 2, 0] rfl ?_
  exact bL_X6_append_3 Y  h

def f_X7_init (v0 : Nat) (v1 : Int32) (v2 : Int32) (v3 : Nat) (w : Wd) : Option (Unit × Wd) := (if wK w v0 = 7 then
 (lb_ (sI w v0 0 v1) fun w2 =>
 (lb_ (sI w2 v0 1 v2) fun w4 =>
 (lb_ (sR w4 v0 2 (some v3)) fun w6 =>
 (if ib (v2 + 1) 100 = true then
 (lb_ (wN w6) fun a9 =>
 (lb_ (nC w6 11 (nx (v2 + 1))) fun w11 =>
 (if wK w11 v0 = 7 then
 (lb_ (sR w11 v0 3 (some a9)) fun w14 =>
 some ((), w14))
 else none)))
 else none))))
 else none)
theorem c_X7_init {l : Launch} {V : Vt} {v0 : Nat} {v1 : Int32} {v2 : Int32} {v3 : Nat} {w w' : Wd} {r : Unit} (h : f_X7_init v0 v1 v2 v3 w = some (r, w')) : MetW l V yX7_init cX7_init 4 (none) { frames := 1, cells := 1, slots := 100, locals := 20 } w [rf V v0, .int v1, .int v2, rf V v3] none w' 1 100 := by
  refine g_start (by decide) (Nat.le_of_ble_eq_true rfl) ?_
  intro t _ hrm X hret hnm
  have Y : Hd_ t V cX7_init 4 RX7 { frames := 1, cells := 1, slots := 100, locals := 20 } (none) "<init>" := ⟨X, hrm, hret, hnm⟩
  refine g_as (lv' := [(0, rf V v0), (1, .int v1), (2, .int v2), (3, rf V v3)]) (st' := []) rfl rfl ?_
  unfold f_X7_init at h
  refine g_aload_n (pc := 0) X 0 rfl dX7_init_0 ?_
  refine g_objInit (pc := 1) X q_896 q_88 q_89 (by rw [Y.2.1]; decide) (by rw [Y.2.1]; exact Nat.le_of_ble_eq_true rfl) dX7_init_1 ?_
  refine g_aload_n (pc := 4) X 0 rfl dX7_init_4 ?_
  refine g_iload_n (pc := 5) X 1 rfl dX7_init_5 ?_
  obtain ⟨k1, h⟩ := gd_i h
  refine g_putFI (pc := 6) X FcX7 k1 0 (by decide) rfl q_897 rfl Y.2.2.2 rfl rfl rfl dX7_init_6 ?_
  obtain ⟨w2, e3, h⟩ := lb_i h
  refine g_w e3 ?_
  refine g_aload_n (pc := 9) X 0 rfl dX7_init_9 ?_
  refine g_iload_n (pc := 10) X 2 rfl dX7_init_10 ?_
  refine g_putFI (pc := 11) X FcX7 (kd_I e3 k1) 1 (by decide) rfl q_900 rfl Y.2.2.2 rfl rfl rfl dX7_init_11 ?_
  obtain ⟨w4, e5, h⟩ := lb_i h
  refine g_w e5 ?_
  refine g_aload_n (pc := 14) X 0 rfl dX7_init_14 ?_
  refine g_aload_n (pc := 15) X 3 rfl dX7_init_15 ?_
  refine g_putFR (pc := 16) X FcX7 (kd_I e5 (kd_I e3 k1)) 2 (by decide) rfl q_902 rfl Y.2.2.2 rfl rfl rfl dX7_init_16 ?_
  obtain ⟨w6, e7, h⟩ := lb_i h
  refine g_w e7 ?_
  refine g_aload_n (pc := 19) X 0 rfl dX7_init_19 ?_
  refine g_iload_n (pc := 20) X 2 rfl dX7_init_20 ?_
  refine g_iconst (pc := 21) X (v := 1) dX7_init_21 rfl ?_
  refine g_iadd (pc := 22) X dX7_init_22 ?_
  obtain ⟨k8, h⟩ := gd_i h
  refine g_newarrB (pc := 23) X ra_int q_155 k8 (by rw [Y.2.1]; exact Nat.le_of_ble_eq_true rfl) (by rw [Y.2.1]; exact Nat.le_of_ble_eq_true rfl) dX7_init_23 ?_
  obtain ⟨a9, e10, h⟩ := lb_i h
  obtain ⟨w11, e12, h⟩ := lb_i h
  refine g_w e12 ?_
  refine g_topr e10 ?_
  obtain ⟨k13, h⟩ := gd_i h
  refine g_putFR (pc := 25) X FcX7 k13 3 (by decide) rfl q_903 rfl Y.2.2.2 rfl rfl rfl dX7_init_25 ?_
  obtain ⟨w14, e15, h⟩ := lb_i h
  refine g_w e15 ?_
  obtain ⟨e1, e2⟩ := rt_i h
  exact g_vret (pc := 28) X Y.2.2.1 (Nat.le_of_ble_eq_true rfl) (Nat.le_of_ble_eq_true rfl) e2 dX7_init_28

def f_X6_lawRead (v0 : Nat) (w : Wd) : Option (Option Nat × Wd) := (if wK w v0 = 6 then
 (if ib (wI w v0 8) 100 = true then
 (lb_ (wN w) fun a3 =>
 (lb_ (nC w 11 (nx (wI w v0 8))) fun w5 =>
 (if wK w5 v0 = 6 then
 (bd1 (wR w5 v0 7) fun a8 =>
 (if cp_ok w5 a8 0 a3 0 (wI w5 v0 8) = true then
 (lb_ (cp_W w5 a8 0 a3 0 (wI w5 v0 8)) fun w11 =>
 (lb_ (wN w11) fun a13 =>
 (lb_ (nC w11 7 4) fun w15 =>
 (if wK w15 v0 = 6 then
 (bd2 (f_X7_init a13 (wI w15 v0 5) (wI w15 v0 9) a3 w15) fun r18 w19 =>
 some (some a13, w19))
 else none))))
 else none))
 else none)))
 else none)
 else none)
theorem c_X6_lawRead {l : Launch} {V : Vt} {v0 : Nat} {w w' : Wd} {r : Option Nat} (h : f_X6_lawRead v0 w = some (r, w')) : MetW l V yX6_lawRead cX6_lawRead 2 (some (.object "BenchSeats$Text")) { frames := 2, cells := 3, slots := 204, locals := 64 } w [rf V v0] (some (rq V r)) w' 3 204 := by
  refine g_start (by decide) (Nat.le_of_ble_eq_true rfl) ?_
  intro t _ hrm X hret hnm
  have Y : Hd_ t V cX6_lawRead 2 RX6 { frames := 2, cells := 3, slots := 204, locals := 64 } (some (.object "BenchSeats$Text")) "lawRead" := ⟨X, hrm, hret, hnm⟩
  refine g_as (lv' := [(0, rf V v0)]) (st' := []) rfl rfl ?_
  unfold f_X6_lawRead at h
  refine g_aload_n (pc := 0) X 0 rfl dX6_lawRead_0 ?_
  obtain ⟨k1, h⟩ := gd_i h
  refine g_getI (pc := 1) X FcX6 k1 8 (by decide) rfl q_240 dX6_lawRead_1 ?_
  obtain ⟨k2, h⟩ := gd_i h
  refine g_newarrB (pc := 4) X ra_int q_155 k2 (by rw [Y.2.1]; exact Nat.le_of_ble_eq_true rfl) (by rw [Y.2.1]; exact Nat.le_of_ble_eq_true rfl) dX6_lawRead_4 ?_
  obtain ⟨a3, e4, h⟩ := lb_i h
  obtain ⟨w5, e6, h⟩ := lb_i h
  refine g_w e6 ?_
  refine g_topr e4 ?_
  refine g_astore_n (pc := 6) X (lv' := [(1, rf V a3), (0, rf V v0)]) dX6_lawRead_6 (by decide) rfl ?_
  refine g_aload_n (pc := 7) X 1 rfl dX6_lawRead_7 ?_
  obtain ⟨k7, h⟩ := gd_i h
  obtain ⟨a8, e9, h⟩ := bd1_i h
  refine g_getR (pc := 8) X FcX6 k7 7 e9 (by decide) rfl q_239 dX6_lawRead_8 ?_
  refine g_iconst (pc := 11) X (v := 0) dX6_lawRead_11 rfl ?_
  refine g_aload_n (pc := 12) X 0 rfl dX6_lawRead_12 ?_
  refine g_iconst (pc := 13) X (v := 0) dX6_lawRead_13 rfl ?_
  refine g_aload_n (pc := 14) X 1 rfl dX6_lawRead_14 ?_
  refine g_getI (pc := 15) X FcX6 k7 8 (by decide) rfl q_240 dX6_lawRead_15 ?_
  obtain ⟨k10, h⟩ := gd_i h
  refine g_copy (pc := 18) X k10 q_890 q_651 q_650 q_76 (by rw [Y.2.1]; decide) (by rw [Y.2.1]; exact Nat.le_of_ble_eq_true rfl) dX6_lawRead_18 ?_
  obtain ⟨w11, e12, h⟩ := lb_i h
  refine g_w e12 ?_
  refine g_new (pc := 21) X FcX7 dfX7 q_891 q_892 q_74 (by rw [Y.2.1]; exact Nat.le_of_ble_eq_true rfl) (by rw [Y.2.1]; exact Nat.le_of_ble_eq_true rfl) dX6_lawRead_21 ?_
  obtain ⟨a13, e14, h⟩ := lb_i h
  obtain ⟨w15, e16, h⟩ := lb_i h
  refine g_w e16 ?_
  refine g_topr e14 ?_
  refine g_dup (pc := 24) X rfl dX6_lawRead_24 ?_
  refine g_aload_n (pc := 25) X 1 rfl dX6_lawRead_25 ?_
  obtain ⟨k17, h⟩ := gd_i h
  refine g_getI (pc := 26) X FcX6 k17 5 (by decide) rfl q_237 dX6_lawRead_26 ?_
  refine g_aload_n (pc := 29) X 1 rfl dX6_lawRead_29 ?_
  refine g_getI (pc := 30) X FcX6 k17 9 (by decide) rfl q_241 dX6_lawRead_30 ?_
  refine g_aload_n (pc := 33) X 0 rfl dX6_lawRead_33 ?_
  obtain ⟨r18, w19, h20, h⟩ := bd2_i h
  refine g_callI (pc := 34) X mk_X7_init rfl q_894 q_893 (c_X7_init h20) rfl rfl (by rw [Y.2.1]; decide)  rfl (rest := [rf V a13]) rfl (Nat.le_of_ble_eq_true rfl) (by rw [Y.2.1]; exact ⟨Nat.le_of_ble_eq_true rfl, Nat.le_of_ble_eq_true rfl⟩) dX6_lawRead_34 (st' := [rf V a13]) rfl ?_
  obtain ⟨e1, e2⟩ := rt_i h
  exact g_aret (pc := 37) X Y.2.2.1 (Or.inl ⟨_, rfl⟩) (Nat.le_of_ble_eq_true rfl) (Nat.le_of_ble_eq_true rfl) e1 e2 dX6_lawRead_37

def f_X6_begin (v0 : Nat) (w : Wd) : Option (Unit × Wd) := (if wK w v0 = 6 then
 (lb_ (sI w v0 2 0) fun w2 =>
 (lb_ (sI w2 v0 3 0) fun w4 =>
 (lb_ (sI w4 v0 4 0) fun w6 =>
 (lb_ (sI w6 v0 6 1) fun w8 =>
 (lb_ (sI w8 v0 8 0) fun w10 =>
 (lb_ (sI w10 v0 9 0) fun w12 =>
 (lb_ (sI w12 v0 11 0) fun w14 =>
 (lb_ (sI w14 v0 12 0) fun w16 =>
 (lb_ (sI w16 v0 13 0) fun w18 =>
 some ((), w18))))))))))
 else none)
theorem c_X6_begin {l : Launch} {V : Vt} {v0 : Nat} {w w' : Wd} {r : Unit} (h : f_X6_begin v0 w = some (r, w')) : MetW l V yX6_begin cX6_begin 1 (none) { frames := 0, cells := 0, slots := 0, locals := 0 } w [rf V v0] none w' 0 0 := by
  refine g_start (by decide) (Nat.le_of_ble_eq_true rfl) ?_
  intro t _ hrm X hret hnm
  have Y : Hd_ t V cX6_begin 1 RX6 { frames := 0, cells := 0, slots := 0, locals := 0 } (none) "begin" := ⟨X, hrm, hret, hnm⟩
  refine g_as (lv' := [(0, rf V v0)]) (st' := []) rfl rfl ?_
  unfold f_X6_begin at h
  refine g_aload_n (pc := 0) X 0 rfl dX6_begin_0 ?_
  refine g_iconst (pc := 1) X (v := 0) dX6_begin_1 rfl ?_
  obtain ⟨k1, h⟩ := gd_i h
  refine g_putI (pc := 2) X FcX6 k1 2 (by decide) rfl q_234 rfl rfl rfl dX6_begin_2 ?_
  obtain ⟨w2, e3, h⟩ := lb_i h
  refine g_w e3 ?_
  refine g_aload_n (pc := 5) X 0 rfl dX6_begin_5 ?_
  refine g_iconst (pc := 6) X (v := 0) dX6_begin_6 rfl ?_
  refine g_putI (pc := 7) X FcX6 (kd_I e3 k1) 3 (by decide) rfl q_235 rfl rfl rfl dX6_begin_7 ?_
  obtain ⟨w4, e5, h⟩ := lb_i h
  refine g_w e5 ?_
  refine g_aload_n (pc := 10) X 0 rfl dX6_begin_10 ?_
  refine g_iconst (pc := 11) X (v := 0) dX6_begin_11 rfl ?_
  refine g_putI (pc := 12) X FcX6 (kd_I e5 (kd_I e3 k1)) 4 (by decide) rfl q_236 rfl rfl rfl dX6_begin_12 ?_
  obtain ⟨w6, e7, h⟩ := lb_i h
  refine g_w e7 ?_
  refine g_aload_n (pc := 15) X 0 rfl dX6_begin_15 ?_
  refine g_iconst (pc := 16) X (v := 1) dX6_begin_16 rfl ?_
  refine g_putI (pc := 17) X FcX6 (kd_I e7 (kd_I e5 (kd_I e3 k1))) 6 (by decide) rfl q_238 rfl (bz_n (Or.inr rfl)) rfl dX6_begin_17 ?_
  obtain ⟨w8, e9, h⟩ := lb_i h
  refine g_w e9 ?_
  refine g_aload_n (pc := 20) X 0 rfl dX6_begin_20 ?_
  refine g_iconst (pc := 21) X (v := 0) dX6_begin_21 rfl ?_
  refine g_putI (pc := 22) X FcX6 (kd_I e9 (kd_I e7 (kd_I e5 (kd_I e3 k1)))) 8 (by decide) rfl q_240 rfl rfl rfl dX6_begin_22 ?_
  obtain ⟨w10, e11, h⟩ := lb_i h
  refine g_w e11 ?_
  refine g_aload_n (pc := 25) X 0 rfl dX6_begin_25 ?_
  refine g_iconst (pc := 26) X (v := 0) dX6_begin_26 rfl ?_
  refine g_putI (pc := 27) X FcX6 (kd_I e11 (kd_I e9 (kd_I e7 (kd_I e5 (kd_I e3 k1))))) 9 (by decide) rfl q_241 rfl rfl rfl dX6_begin_27 ?_
  obtain ⟨w12, e13, h⟩ := lb_i h
  refine g_w e13 ?_
  refine g_aload_n (pc := 30) X 0 rfl dX6_begin_30 ?_
  refine g_iconst (pc := 31) X (v := 0) dX6_begin_31 rfl ?_
  refine g_putI (pc := 32) X FcX6 (kd_I e13 (kd_I e11 (kd_I e9 (kd_I e7 (kd_I e5 (kd_I e3 k1)))))) 11 (by decide) rfl q_243 rfl rfl rfl dX6_begin_32 ?_
  obtain ⟨w14, e15, h⟩ := lb_i h
  refine g_w e15 ?_
  refine g_aload_n (pc := 35) X 0 rfl dX6_begin_35 ?_
  refine g_iconst (pc := 36) X (v := 0) dX6_begin_36 rfl ?_
  refine g_putI (pc := 37) X FcX6 (kd_I e15 (kd_I e13 (kd_I e11 (kd_I e9 (kd_I e7 (kd_I e5 (kd_I e3 k1))))))) 12 (by decide) rfl q_244 rfl rfl rfl dX6_begin_37 ?_
  obtain ⟨w16, e17, h⟩ := lb_i h
  refine g_w e17 ?_
  refine g_aload_n (pc := 40) X 0 rfl dX6_begin_40 ?_
  refine g_iconst (pc := 41) X (v := 0) dX6_begin_41 rfl ?_
  refine g_putI (pc := 42) X FcX6 (kd_I e17 (kd_I e15 (kd_I e13 (kd_I e11 (kd_I e9 (kd_I e7 (kd_I e5 (kd_I e3 k1)))))))) 13 (by decide) rfl q_245 rfl rfl rfl dX6_begin_42 ?_
  obtain ⟨w18, e19, h⟩ := lb_i h
  refine g_w e19 ?_
  obtain ⟨e1, e2⟩ := rt_i h
  exact g_vret (pc := 45) X Y.2.2.1 (Nat.le_of_ble_eq_true rfl) (Nat.le_of_ble_eq_true rfl) e2 dX6_begin_45

def j_X6_sortOf_14  (v0 : Int32) (w : Wd) : Option (Int32 × Wd) := some ((if v0 < 48 then 3 else (if 57 < v0 then 3 else 1 : Int32) : Int32), w)
theorem bj_X6_sortOf_14 {t : Ct} {V : Vt} {r : Int32} {w' : Wd} (Y : Hd_ t V cX6_sortOf 1 RX6 { frames := 0, cells := 0, slots := 0, locals := 0 } (some .int) "sortOf") {v0 : Int32} {w : Wd} (h : j_X6_sortOf_14  v0 w = some (r, w')) : Gd t V 1 0 0 (Qe t V (some (.int r)) w' 0 0) 14 [(0, .int v0)] [] w := by
  have X := Y.1
  unfold j_X6_sortOf_14 at h
  refine g_iload_n (pc := 14) X 0 rfl dX6_sortOf_14 ?_
  refine g_bipush (pc := 15) X (v := 48) dX6_sortOf_15 rfl ?_
  have kJ : Gd t V 1 0 0 (Qe t V (some (.int r)) w' 0 0) 31 [(0, .int v0)] [.int (if v0 < 48 then 3 else (if 57 < v0 then 3 else 1 : Int32) : Int32)] w := by
    obtain ⟨e1, e2⟩ := rt_i h
    exact g_iret (pc := 31) X Y.2.2.1 (Nat.le_of_ble_eq_true rfl) (Nat.le_of_ble_eq_true rfl) e1 e2 dX6_sortOf_31
  refine g_icmp_lt (pc := 17) X (tgt := 30) dX6_sortOf_17 rfl (fun c0 => ?_) (fun c0 => ?_)
  · refine g_iconst (pc := 30) X (v := 3) dX6_sortOf_30 rfl ?_
    exact g_top (by rw [if_pos c0]) kJ
  · refine g_iload_n (pc := 20) X 0 rfl dX6_sortOf_20 ?_
    refine g_bipush (pc := 21) X (v := 57) dX6_sortOf_21 rfl ?_
    refine g_icmp_gt (pc := 23) X (tgt := 30) dX6_sortOf_23 rfl (fun c1 => ?_) (fun c1 => ?_)
    · refine g_iconst (pc := 30) X (v := 3) dX6_sortOf_30 rfl ?_
      exact g_top (by rw [if_neg c0, if_pos c1]) kJ
    · refine g_iconst (pc := 26) X (v := 1) dX6_sortOf_26 rfl ?_
      refine g_goto (pc := 27) X (tgt := 31) dX6_sortOf_27 rfl ?_
      exact g_top (by rw [if_neg c0, if_neg c1]) kJ

def f_X6_sortOf (v0 : Int32) (w : Wd) : Option (Int32 × Wd) := (if v0 < 97 then
 j_X6_sortOf_14 v0 w
 else
 (if 122 < v0 then
 j_X6_sortOf_14 v0 w
 else
 some (2, w)))
theorem c_X6_sortOf {l : Launch} {V : Vt} {v0 : Int32} {w w' : Wd} {r : Int32} (h : f_X6_sortOf v0 w = some (r, w')) : MetW l V yX6_sortOf cX6_sortOf 1 (some .int) { frames := 0, cells := 0, slots := 0, locals := 0 } w [.int v0] (some (.int r)) w' 0 0 := by
  refine g_start (by decide) (Nat.le_of_ble_eq_true rfl) ?_
  intro t _ hrm X hret hnm
  have Y : Hd_ t V cX6_sortOf 1 RX6 { frames := 0, cells := 0, slots := 0, locals := 0 } (some .int) "sortOf" := ⟨X, hrm, hret, hnm⟩
  refine g_as (lv' := [(0, .int v0)]) (st' := []) rfl rfl ?_
  unfold f_X6_sortOf at h
  refine g_iload_n (pc := 0) X 0 rfl dX6_sortOf_0 ?_
  refine g_bipush (pc := 1) X (v := 97) dX6_sortOf_1 rfl ?_
  refine g_icmp_lt (pc := 3) X (tgt := 14) dX6_sortOf_3 rfl (fun c => ?_) (fun c => ?_)
  · have h := br_y c h
    refine g_sub (lv' := [(0, .int v0)]) [0] rfl ?_
    exact bj_X6_sortOf_14 Y  h
  · have h := br_n c h
    refine g_iload_n (pc := 6) X 0 rfl dX6_sortOf_6 ?_
    refine g_bipush (pc := 7) X (v := 122) dX6_sortOf_7 rfl ?_
    refine g_icmp_gt (pc := 9) X (tgt := 14) dX6_sortOf_9 rfl (fun c => ?_) (fun c => ?_)
    · have h := br_y c h
      refine g_sub (lv' := [(0, .int v0)]) [0] rfl ?_
      exact bj_X6_sortOf_14 Y  h
    · have h := br_n c h
      refine g_iconst (pc := 12) X (v := 2) dX6_sortOf_12 rfl ?_
      obtain ⟨e1, e2⟩ := rt_i h
      exact g_iret (pc := 13) X Y.2.2.1 (Nat.le_of_ble_eq_true rfl) (Nat.le_of_ble_eq_true rfl) e1 e2 dX6_sortOf_13

def j_X6_advance_204  (s0 : Int32) (s1 : Nat) (w : Wd) : Option (Unit × Wd) := (if wK w s1 = 6 then
 (lb_ (sI w s1 2 s0) fun w24 =>
 some ((), w24))
 else none)
theorem bj_X6_advance_204 {t : Ct} {V : Vt} {r : Unit} {w' : Wd} (Y : Hd_ t V cX6_advance 3 RX6 { frames := 1, cells := 0, slots := 0, locals := 20 } (none) "advance") {s0 : Int32} {s1 : Nat} {w : Wd} (h : j_X6_advance_204  s0 s1 w = some (r, w')) : Gd t V 3 0 0 (Qe t V none w' 0 0) 204 [] [.int s0, rf V s1] w := by
  have X := Y.1
  unfold j_X6_advance_204 at h
  obtain ⟨k23, h⟩ := gd_i h
  refine g_putI (pc := 204) X FcX6 k23 2 (by decide) rfl q_234 rfl rfl rfl dX6_advance_204 ?_
  obtain ⟨w24, e25, h⟩ := lb_i h
  refine g_w e25 ?_
  obtain ⟨e1, e2⟩ := rt_i h
  exact g_vret (pc := 207) X Y.2.2.1 (Nat.le_of_ble_eq_true rfl) (Nat.le_of_ble_eq_true rfl) e2 dX6_advance_207

def j_X6_advance_191  (v0 : Nat) (v2 : Int32) (w : Wd) : Option (Unit × Wd) := (if v2 = 0 then
 (if wK w v0 = 6 then
 j_X6_advance_204 (wI w v0 2) v0 w
 else none)
 else
 j_X6_advance_204 4 v0 w)
theorem bj_X6_advance_191 {t : Ct} {V : Vt} {r : Unit} {w' : Wd} (Y : Hd_ t V cX6_advance 3 RX6 { frames := 1, cells := 0, slots := 0, locals := 20 } (none) "advance") {v0 : Nat} {v2 : Int32} {w : Wd} (h : j_X6_advance_191  v0 v2 w = some (r, w')) : Gd t V 3 0 0 (Qe t V none w' 0 0) 191 [(0, rf V v0), (2, .int v2)] [] w := by
  have X := Y.1
  unfold j_X6_advance_191 at h
  refine g_aload_n (pc := 191) X 0 rfl dX6_advance_191 ?_
  refine g_iload_n (pc := 192) X 1 rfl dX6_advance_192 ?_
  refine g_if_eq (pc := 193) X (tgt := 200) dX6_advance_193 rfl (fun c => ?_) (fun c => ?_)
  · have h := br_y c h
    refine g_aload_n (pc := 200) X 0 rfl dX6_advance_200 ?_
    obtain ⟨k22, h⟩ := gd_i h
    refine g_getI (pc := 201) X FcX6 k22 2 (by decide) rfl q_234 dX6_advance_201 ?_
    refine g_sub (lv' := []) [] rfl ?_
    exact bj_X6_advance_204 Y  h
  · have h := br_n c h
    refine g_iconst (pc := 196) X (v := 4) dX6_advance_196 rfl ?_
    refine g_goto (pc := 197) X (tgt := 204) dX6_advance_197 rfl ?_
    refine g_sub (lv' := []) [] rfl ?_
    exact bj_X6_advance_204 Y  h

def L_X6_advance_148  (n : Nat) (v0 : Nat) (v2 : Int32) (w : Wd) : Option (Unit × Wd) := match n with
  | 0 => none
  | n + 1 => (if wK w v0 = 6 then
 (if (wI w v0 1) ≤ (wI w v0 4) then
 j_X6_advance_191 v0 v2 w
 else
 (bd1 (wR w v0 0) fun a26 =>
 (if aK 11 w a26 (wI w v0 4) = true then
 (bd2 (f_X6_sortOf (wI w a26 (nx (wI w v0 4))) w) fun r29 w30 =>
 (if wK w30 v0 = 6 then
 (if r29 = (wI w30 v0 2) then
 (lb_ (sI w30 v0 4 ((wI w30 v0 4) + 1)) fun w33 =>
 L_X6_advance_148 n v0 v2 w33)
 else
 j_X6_advance_191 v0 v2 w30)
 else none))
 else none)))
 else none)
theorem bL_X6_advance_148 {t : Ct} {V : Vt} {r : Unit} {w' : Wd} (Y : Hd_ t V cX6_advance 3 RX6 { frames := 1, cells := 0, slots := 0, locals := 20 } (none) "advance") : ∀ {n : Nat} {v0 : Nat} {v2 : Int32} {w : Wd}, L_X6_advance_148  n v0 v2 w = some (r, w') → Gd t V 3 0 0 (Qe t V none w' 0 0) 148 [(0, rf V v0), (2, .int v2)] [] w := by
  have X := Y.1
  intro n
  induction n with
  | zero => intro v0 v2 w h; cases h
  | succ n ih0 =>
    have ih : ∀ (v0 : Nat) (v2 : Int32) (w : Wd), L_X6_advance_148  n v0 v2 w = some (r, w') → Gd t V 3 0 0 (Qe t V none w' 0 0) 148 [(0, rf V v0), (2, .int v2)] [] w := fun v0 v2 w h => ih0 h
    clear ih0
    intro v0 v2 w h
    unfold L_X6_advance_148 at h
    refine g_aload_n (pc := 148) X 0 rfl dX6_advance_148 ?_
    obtain ⟨k21, h⟩ := gd_i h
    refine g_getI (pc := 149) X FcX6 k21 4 (by decide) rfl q_236 dX6_advance_149 ?_
    refine g_aload_n (pc := 152) X 0 rfl dX6_advance_152 ?_
    refine g_getI (pc := 153) X FcX6 k21 1 (by decide) rfl q_232 dX6_advance_153 ?_
    refine g_icmp_ge (pc := 156) X (tgt := 191) dX6_advance_156 rfl (fun c => ?_) (fun c => ?_)
    · have h := br_y c h
      refine g_sub (lv' := [(0, rf V v0), (2, .int v2)]) [0, 1] rfl ?_
      exact bj_X6_advance_191 Y  h
    · have h := br_n c h
      refine g_aload_n (pc := 159) X 0 rfl dX6_advance_159 ?_
      obtain ⟨a26, e27, h⟩ := bd1_i h
      refine g_getR (pc := 160) X FcX6 k21 0 e27 (by decide) rfl q_231 dX6_advance_160 ?_
      refine g_aload_n (pc := 163) X 0 rfl dX6_advance_163 ?_
      refine g_getI (pc := 164) X FcX6 k21 4 (by decide) rfl q_236 dX6_advance_164 ?_
      obtain ⟨k28, h⟩ := gd_i h
      refine g_iald (pc := 167) X k28 dX6_advance_167 ?_
      obtain ⟨r29, w30, h31, h⟩ := bd2_i h
      refine g_callS (pc := 168) X mk_X6_sortOf q_718 q_717 (c_X6_sortOf h31) rfl rfl (by rw [Y.2.1]; decide)  rfl (rest := []) rfl (Nat.le_of_ble_eq_true rfl) (by rw [Y.2.1]; exact ⟨Nat.le_of_ble_eq_true rfl, Nat.le_of_ble_eq_true rfl⟩) dX6_advance_168 (st' := [.int r29]) rfl ?_
      refine g_aload_n (pc := 171) X 0 rfl dX6_advance_171 ?_
      obtain ⟨k32, h⟩ := gd_i h
      refine g_getI (pc := 172) X FcX6 k32 2 (by decide) rfl q_234 dX6_advance_172 ?_
      refine g_icmp_ne (pc := 175) X (tgt := 191) dX6_advance_175 rfl (fun c => ?_) (fun c => ?_)
      · have h := br_n c h
        refine g_sub (lv' := [(0, rf V v0), (2, .int v2)]) [0, 1] rfl ?_
        exact bj_X6_advance_191 Y  h
      · have h := br_y c h
        refine g_aload_n (pc := 178) X 0 rfl dX6_advance_178 ?_
        refine g_dup (pc := 179) X rfl dX6_advance_179 ?_
        refine g_getI (pc := 180) X FcX6 k32 4 (by decide) rfl q_236 dX6_advance_180 ?_
        refine g_iconst (pc := 183) X (v := 1) dX6_advance_183 rfl ?_
        refine g_iadd (pc := 184) X dX6_advance_184 ?_
        refine g_putI (pc := 185) X FcX6 k32 4 (by decide) rfl q_236 rfl rfl rfl dX6_advance_185 ?_
        obtain ⟨w33, e34, h⟩ := lb_i h
        refine g_w e34 ?_
        refine g_goto (pc := 188) X (tgt := 148) dX6_advance_188 rfl ?_
        refine g_sub (lv' := [(0, rf V v0), (2, .int v2)]) [0, 1] rfl ?_
        exact ih _ _ _ h

def j_X6_advance_88  (v0 : Nat) (s0 : Int32) (w : Wd) : Option (Unit × Wd) := (if wK w v0 = 6 then
 (lb_ (sI w v0 4 (wI w v0 3)) fun w8 =>
 (if (wI w8 v0 3) < (wI w8 v0 1) then
 (bd1 (wR w8 v0 0) fun a10 =>
 (if aK 11 w8 a10 (wI w8 v0 3) = true then
 (bd2 (f_X6_sortOf (wI w8 a10 (nx (wI w8 v0 3))) w8) fun r13 w14 =>
 (if wK w14 v0 = 6 then
 (lb_ (sI w14 v0 2 r13) fun w17 =>
 (lb_ (sI w17 v0 4 ((wI w17 v0 4) + 1)) fun w19 =>
 (if (wI w19 v0 2) = 3 then
 some ((), w19)
 else
 L_X6_advance_148 FU v0 s0 w19)))
 else none))
 else none))
 else
 (lb_ (sI w8 v0 2 0) fun w35 =>
 some ((), w35))))
 else none)
theorem bj_X6_advance_88 {t : Ct} {V : Vt} {r : Unit} {w' : Wd} (Y : Hd_ t V cX6_advance 3 RX6 { frames := 1, cells := 0, slots := 0, locals := 20 } (none) "advance") {v0 : Nat} {s0 : Int32} {w : Wd} (h : j_X6_advance_88  v0 s0 w = some (r, w')) : Gd t V 3 0 0 (Qe t V none w' 0 0) 88 [(0, rf V v0)] [.int s0] w := by
  have X := Y.1
  unfold j_X6_advance_88 at h
  refine g_istore_n (pc := 88) X (lv' := [(2, .int s0), (0, rf V v0)]) dX6_advance_88 (by decide) rfl ?_
  refine g_aload_n (pc := 89) X 1 rfl dX6_advance_89 ?_
  refine g_aload_n (pc := 90) X 1 rfl dX6_advance_90 ?_
  obtain ⟨k7, h⟩ := gd_i h
  refine g_getI (pc := 91) X FcX6 k7 3 (by decide) rfl q_235 dX6_advance_91 ?_
  refine g_putI (pc := 94) X FcX6 k7 4 (by decide) rfl q_236 rfl rfl rfl dX6_advance_94 ?_
  obtain ⟨w8, e9, h⟩ := lb_i h
  refine g_w e9 ?_
  refine g_aload_n (pc := 97) X 1 rfl dX6_advance_97 ?_
  refine g_getI (pc := 98) X FcX6 (kd_I e9 k7) 3 (by decide) rfl q_235 dX6_advance_98 ?_
  refine g_aload_n (pc := 101) X 1 rfl dX6_advance_101 ?_
  refine g_getI (pc := 102) X FcX6 (kd_I e9 k7) 1 (by decide) rfl q_232 dX6_advance_102 ?_
  refine g_icmp_lt (pc := 105) X (tgt := 114) dX6_advance_105 rfl (fun c => ?_) (fun c => ?_)
  · have h := br_y c h
    refine g_aload_n (pc := 114) X 1 rfl dX6_advance_114 ?_
    refine g_aload_n (pc := 115) X 1 rfl dX6_advance_115 ?_
    obtain ⟨a10, e11, h⟩ := bd1_i h
    refine g_getR (pc := 116) X FcX6 (kd_I e9 k7) 0 e11 (by decide) rfl q_231 dX6_advance_116 ?_
    refine g_aload_n (pc := 119) X 1 rfl dX6_advance_119 ?_
    refine g_getI (pc := 120) X FcX6 (kd_I e9 k7) 3 (by decide) rfl q_235 dX6_advance_120 ?_
    obtain ⟨k12, h⟩ := gd_i h
    refine g_iald (pc := 123) X k12 dX6_advance_123 ?_
    obtain ⟨r13, w14, h15, h⟩ := bd2_i h
    refine g_callS (pc := 124) X mk_X6_sortOf q_718 q_717 (c_X6_sortOf h15) rfl rfl (by rw [Y.2.1]; decide)  rfl (rest := [rf V v0]) rfl (Nat.le_of_ble_eq_true rfl) (by rw [Y.2.1]; exact ⟨Nat.le_of_ble_eq_true rfl, Nat.le_of_ble_eq_true rfl⟩) dX6_advance_124 (st' := [.int r13, rf V v0]) rfl ?_
    obtain ⟨k16, h⟩ := gd_i h
    refine g_putI (pc := 127) X FcX6 k16 2 (by decide) rfl q_234 rfl rfl rfl dX6_advance_127 ?_
    obtain ⟨w17, e18, h⟩ := lb_i h
    refine g_w e18 ?_
    refine g_aload_n (pc := 130) X 1 rfl dX6_advance_130 ?_
    refine g_dup (pc := 131) X rfl dX6_advance_131 ?_
    refine g_getI (pc := 132) X FcX6 (kd_I e18 k16) 4 (by decide) rfl q_236 dX6_advance_132 ?_
    refine g_iconst (pc := 135) X (v := 1) dX6_advance_135 rfl ?_
    refine g_iadd (pc := 136) X dX6_advance_136 ?_
    refine g_putI (pc := 137) X FcX6 (kd_I e18 k16) 4 (by decide) rfl q_236 rfl rfl rfl dX6_advance_137 ?_
    obtain ⟨w19, e20, h⟩ := lb_i h
    refine g_w e20 ?_
    refine g_aload_n (pc := 140) X 1 rfl dX6_advance_140 ?_
    refine g_getI (pc := 141) X FcX6 (kd_I e20 (kd_I e18 k16)) 2 (by decide) rfl q_234 dX6_advance_141 ?_
    refine g_iconst (pc := 144) X (v := 3) dX6_advance_144 rfl ?_
    refine g_icmp_eq (pc := 145) X (tgt := 207) dX6_advance_145 rfl (fun c => ?_) (fun c => ?_)
    · have h := br_y c h
      obtain ⟨e1, e2⟩ := rt_i h
      exact g_vret (pc := 207) X Y.2.2.1 (Nat.le_of_ble_eq_true rfl) (Nat.le_of_ble_eq_true rfl) e2 dX6_advance_207
    · have h := br_n c h
      refine g_sub (lv' := [(0, rf V v0), (2, .int s0)]) [1, 0] rfl ?_
      exact bL_X6_advance_148 Y  h
  · have h := br_n c h
    refine g_aload_n (pc := 108) X 1 rfl dX6_advance_108 ?_
    refine g_iconst (pc := 109) X (v := 0) dX6_advance_109 rfl ?_
    refine g_putI (pc := 110) X FcX6 (kd_I e9 k7) 2 (by decide) rfl q_234 rfl rfl rfl dX6_advance_110 ?_
    obtain ⟨w35, e36, h⟩ := lb_i h
    refine g_w e36 ?_
    obtain ⟨e1, e2⟩ := rt_i h
    exact g_vret (pc := 113) X Y.2.2.1 (Nat.le_of_ble_eq_true rfl) (Nat.le_of_ble_eq_true rfl) e2 dX6_advance_113

def j_X6_advance_87  (v0 : Nat) (w : Wd) : Option (Unit × Wd) := j_X6_advance_88 v0 0 w
theorem bj_X6_advance_87 {t : Ct} {V : Vt} {r : Unit} {w' : Wd} (Y : Hd_ t V cX6_advance 3 RX6 { frames := 1, cells := 0, slots := 0, locals := 20 } (none) "advance") {v0 : Nat} {w : Wd} (h : j_X6_advance_87  v0 w = some (r, w')) : Gd t V 3 0 0 (Qe t V none w' 0 0) 87 [(0, rf V v0)] [] w := by
  have X := Y.1
  unfold j_X6_advance_87 at h
  refine g_iconst (pc := 87) X (v := 0) dX6_advance_87 rfl ?_
  refine g_sub (lv' := [(0, rf V v0)]) [0] rfl ?_
  exact bj_X6_advance_88 Y  h

def j_X6_advance_68  (v0 : Nat) (v1 : Int32) (w : Wd) : Option (Unit × Wd) := (if v1 = 0 then
 j_X6_advance_87 v0 w
 else
 (if wK w v0 = 6 then
 (lb_ (if (wI w v0 3) = (wI w v0 4) then 1 else 0 : Int32) fun x38 =>
 (lb_ (sI w v0 4 (wI w v0 3)) fun w40 =>
 (if (wI w40 v0 3) < (wI w40 v0 1) then
 (bd1 (wR w40 v0 0) fun a42 =>
 (if aK 11 w40 a42 (wI w40 v0 3) = true then
 (bd2 (f_X6_sortOf (wI w40 a42 (nx (wI w40 v0 3))) w40) fun r45 w46 =>
 (if wK w46 v0 = 6 then
 (lb_ (sI w46 v0 2 r45) fun w49 =>
 (lb_ (sI w49 v0 4 ((wI w49 v0 4) + 1)) fun w51 =>
 (if (wI w51 v0 2) = 3 then
 some ((), w51)
 else
 L_X6_advance_148 FU v0 x38 w51)))
 else none))
 else none))
 else
 (lb_ (sI w40 v0 2 0) fun w53 =>
 some ((), w53)))))
 else none))
theorem bj_X6_advance_68 {t : Ct} {V : Vt} {r : Unit} {w' : Wd} (Y : Hd_ t V cX6_advance 3 RX6 { frames := 1, cells := 0, slots := 0, locals := 20 } (none) "advance") {v0 : Nat} {v1 : Int32} {w : Wd} (h : j_X6_advance_68  v0 v1 w = some (r, w')) : Gd t V 3 0 0 (Qe t V none w' 0 0) 68 [(0, rf V v0), (1, .int v1)] [] w := by
  have X := Y.1
  unfold j_X6_advance_68 at h
  refine g_iload_n (pc := 68) X 1 rfl dX6_advance_68 ?_
  refine g_if_eq (pc := 69) X (tgt := 87) dX6_advance_69 rfl (fun c => ?_) (fun c => ?_)
  · have h := br_y c h
    refine g_sub (lv' := [(0, rf V v0)]) [0] rfl ?_
    exact bj_X6_advance_87 Y  h
  · have h := br_n c h
    refine g_aload_n (pc := 72) X 0 rfl dX6_advance_72 ?_
    obtain ⟨k37, h⟩ := gd_i h
    refine g_getI (pc := 73) X FcX6 k37 3 (by decide) rfl q_235 dX6_advance_73 ?_
    refine g_aload_n (pc := 76) X 0 rfl dX6_advance_76 ?_
    refine g_getI (pc := 77) X FcX6 k37 4 (by decide) rfl q_236 dX6_advance_77 ?_
    have kJ : Gd t V 3 0 0 (Qe t V none w' 0 0) 88 [(0, rf V v0), (1, .int v1)] [.int (if (wI w v0 3) = (wI w v0 4) then 1 else 0 : Int32)] w := by
      obtain ⟨x38, e39, h⟩ := lb_i h
      refine g_top e39 ?_
      refine g_istore_n (pc := 88) X (lv' := [(2, .int x38), (0, rf V v0), (1, .int v1)]) dX6_advance_88 (by decide) rfl ?_
      refine g_aload_n (pc := 89) X 1 rfl dX6_advance_89 ?_
      refine g_aload_n (pc := 90) X 1 rfl dX6_advance_90 ?_
      refine g_getI (pc := 91) X FcX6 k37 3 (by decide) rfl q_235 dX6_advance_91 ?_
      refine g_putI (pc := 94) X FcX6 k37 4 (by decide) rfl q_236 rfl rfl rfl dX6_advance_94 ?_
      obtain ⟨w40, e41, h⟩ := lb_i h
      refine g_w e41 ?_
      refine g_aload_n (pc := 97) X 1 rfl dX6_advance_97 ?_
      refine g_getI (pc := 98) X FcX6 (kd_I e41 k37) 3 (by decide) rfl q_235 dX6_advance_98 ?_
      refine g_aload_n (pc := 101) X 1 rfl dX6_advance_101 ?_
      refine g_getI (pc := 102) X FcX6 (kd_I e41 k37) 1 (by decide) rfl q_232 dX6_advance_102 ?_
      refine g_icmp_lt (pc := 105) X (tgt := 114) dX6_advance_105 rfl (fun c => ?_) (fun c => ?_)
      · have h := br_y c h
        refine g_aload_n (pc := 114) X 1 rfl dX6_advance_114 ?_
        refine g_aload_n (pc := 115) X 1 rfl dX6_advance_115 ?_
        obtain ⟨a42, e43, h⟩ := bd1_i h
        refine g_getR (pc := 116) X FcX6 (kd_I e41 k37) 0 e43 (by decide) rfl q_231 dX6_advance_116 ?_
        refine g_aload_n (pc := 119) X 1 rfl dX6_advance_119 ?_
        refine g_getI (pc := 120) X FcX6 (kd_I e41 k37) 3 (by decide) rfl q_235 dX6_advance_120 ?_
        obtain ⟨k44, h⟩ := gd_i h
        refine g_iald (pc := 123) X k44 dX6_advance_123 ?_
        obtain ⟨r45, w46, h47, h⟩ := bd2_i h
        refine g_callS (pc := 124) X mk_X6_sortOf q_718 q_717 (c_X6_sortOf h47) rfl rfl (by rw [Y.2.1]; decide)  rfl (rest := [rf V v0]) rfl (Nat.le_of_ble_eq_true rfl) (by rw [Y.2.1]; exact ⟨Nat.le_of_ble_eq_true rfl, Nat.le_of_ble_eq_true rfl⟩) dX6_advance_124 (st' := [.int r45, rf V v0]) rfl ?_
        obtain ⟨k48, h⟩ := gd_i h
        refine g_putI (pc := 127) X FcX6 k48 2 (by decide) rfl q_234 rfl rfl rfl dX6_advance_127 ?_
        obtain ⟨w49, e50, h⟩ := lb_i h
        refine g_w e50 ?_
        refine g_aload_n (pc := 130) X 1 rfl dX6_advance_130 ?_
        refine g_dup (pc := 131) X rfl dX6_advance_131 ?_
        refine g_getI (pc := 132) X FcX6 (kd_I e50 k48) 4 (by decide) rfl q_236 dX6_advance_132 ?_
        refine g_iconst (pc := 135) X (v := 1) dX6_advance_135 rfl ?_
        refine g_iadd (pc := 136) X dX6_advance_136 ?_
        refine g_putI (pc := 137) X FcX6 (kd_I e50 k48) 4 (by decide) rfl q_236 rfl rfl rfl dX6_advance_137 ?_
        obtain ⟨w51, e52, h⟩ := lb_i h
        refine g_w e52 ?_
        refine g_aload_n (pc := 140) X 1 rfl dX6_advance_140 ?_
        refine g_getI (pc := 141) X FcX6 (kd_I e52 (kd_I e50 k48)) 2 (by decide) rfl q_234 dX6_advance_141 ?_
        refine g_iconst (pc := 144) X (v := 3) dX6_advance_144 rfl ?_
        refine g_icmp_eq (pc := 145) X (tgt := 207) dX6_advance_145 rfl (fun c => ?_) (fun c => ?_)
        · have h := br_y c h
          obtain ⟨e1, e2⟩ := rt_i h
          exact g_vret (pc := 207) X Y.2.2.1 (Nat.le_of_ble_eq_true rfl) (Nat.le_of_ble_eq_true rfl) e2 dX6_advance_207
        · have h := br_n c h
          refine g_sub (lv' := [(0, rf V v0), (2, .int x38)]) [1, 0] rfl ?_
          exact bL_X6_advance_148 Y  h
      · have h := br_n c h
        refine g_aload_n (pc := 108) X 1 rfl dX6_advance_108 ?_
        refine g_iconst (pc := 109) X (v := 0) dX6_advance_109 rfl ?_
        refine g_putI (pc := 110) X FcX6 (kd_I e41 k37) 2 (by decide) rfl q_234 rfl rfl rfl dX6_advance_110 ?_
        obtain ⟨w53, e54, h⟩ := lb_i h
        refine g_w e54 ?_
        obtain ⟨e1, e2⟩ := rt_i h
        exact g_vret (pc := 113) X Y.2.2.1 (Nat.le_of_ble_eq_true rfl) (Nat.le_of_ble_eq_true rfl) e2 dX6_advance_113
    refine g_icmp_ne (pc := 80) X (tgt := 87) dX6_advance_80 rfl (fun c0 => ?_) (fun c0 => ?_)
    · refine g_iconst (pc := 87) X (v := 0) dX6_advance_87 rfl ?_
      exact g_top (by rw [if_neg c0]) kJ
    · refine g_iconst (pc := 83) X (v := 1) dX6_advance_83 rfl ?_
      refine g_goto (pc := 84) X (tgt := 88) dX6_advance_84 rfl ?_
      exact g_top (by rw [if_pos c0]) kJ

def L_X6_advance_30  (n : Nat) (v0 : Nat) (v1 : Int32) (w : Wd) : Option (Unit × Wd) := match n with
  | 0 => none
  | n + 1 => (if wK w v0 = 6 then
 (if (wI w v0 1) ≤ (wI w v0 3) then
 j_X6_advance_68 v0 v1 w
 else
 (bd1 (wR w v0 0) fun a55 =>
 (if aK 11 w a55 (wI w v0 3) = true then
 (if (wI w a55 (nx (wI w v0 3))) = 32 then
 (lb_ (sI w v0 3 ((wI w v0 3) + 1)) fun w58 =>
 L_X6_advance_30 n v0 v1 w58)
 else
 j_X6_advance_68 v0 v1 w)
 else none)))
 else none)
theorem bL_X6_advance_30 {t : Ct} {V : Vt} {r : Unit} {w' : Wd} (Y : Hd_ t V cX6_advance 3 RX6 { frames := 1, cells := 0, slots := 0, locals := 20 } (none) "advance") : ∀ {n : Nat} {v0 : Nat} {v1 : Int32} {w : Wd}, L_X6_advance_30  n v0 v1 w = some (r, w') → Gd t V 3 0 0 (Qe t V none w' 0 0) 30 [(0, rf V v0), (1, .int v1)] [] w := by
  have X := Y.1
  intro n
  induction n with
  | zero => intro v0 v1 w h; cases h
  | succ n ih0 =>
    have ih : ∀ (v0 : Nat) (v1 : Int32) (w : Wd), L_X6_advance_30  n v0 v1 w = some (r, w') → Gd t V 3 0 0 (Qe t V none w' 0 0) 30 [(0, rf V v0), (1, .int v1)] [] w := fun v0 v1 w h => ih0 h
    clear ih0
    intro v0 v1 w h
    unfold L_X6_advance_30 at h
    refine g_aload_n (pc := 30) X 0 rfl dX6_advance_30 ?_
    obtain ⟨k6, h⟩ := gd_i h
    refine g_getI (pc := 31) X FcX6 k6 3 (by decide) rfl q_235 dX6_advance_31 ?_
    refine g_aload_n (pc := 34) X 0 rfl dX6_advance_34 ?_
    refine g_getI (pc := 35) X FcX6 k6 1 (by decide) rfl q_232 dX6_advance_35 ?_
    refine g_icmp_ge (pc := 38) X (tgt := 68) dX6_advance_38 rfl (fun c => ?_) (fun c => ?_)
    · have h := br_y c h
      refine g_sub (lv' := [(0, rf V v0), (1, .int v1)]) [0, 1] rfl ?_
      exact bj_X6_advance_68 Y  h
    · have h := br_n c h
      refine g_aload_n (pc := 41) X 0 rfl dX6_advance_41 ?_
      obtain ⟨a55, e56, h⟩ := bd1_i h
      refine g_getR (pc := 42) X FcX6 k6 0 e56 (by decide) rfl q_231 dX6_advance_42 ?_
      refine g_aload_n (pc := 45) X 0 rfl dX6_advance_45 ?_
      refine g_getI (pc := 46) X FcX6 k6 3 (by decide) rfl q_235 dX6_advance_46 ?_
      obtain ⟨k57, h⟩ := gd_i h
      refine g_iald (pc := 49) X k57 dX6_advance_49 ?_
      refine g_bipush (pc := 50) X (v := 32) dX6_advance_50 rfl ?_
      refine g_icmp_ne (pc := 52) X (tgt := 68) dX6_advance_52 rfl (fun c => ?_) (fun c => ?_)
      · have h := br_n c h
        refine g_sub (lv' := [(0, rf V v0), (1, .int v1)]) [0, 1] rfl ?_
        exact bj_X6_advance_68 Y  h
      · have h := br_y c h
        refine g_aload_n (pc := 55) X 0 rfl dX6_advance_55 ?_
        refine g_dup (pc := 56) X rfl dX6_advance_56 ?_
        refine g_getI (pc := 57) X FcX6 k6 3 (by decide) rfl q_235 dX6_advance_57 ?_
        refine g_iconst (pc := 60) X (v := 1) dX6_advance_60 rfl ?_
        refine g_iadd (pc := 61) X dX6_advance_61 ?_
        refine g_putI (pc := 62) X FcX6 k6 3 (by decide) rfl q_235 rfl rfl rfl dX6_advance_62 ?_
        obtain ⟨w58, e59, h⟩ := lb_i h
        refine g_w e59 ?_
        refine g_goto (pc := 65) X (tgt := 30) dX6_advance_65 rfl ?_
        refine g_sub (lv' := [(0, rf V v0), (1, .int v1)]) [0, 1] rfl ?_
        exact ih _ _ _ h

def f_X6_advance (v0 : Nat) (w : Wd) : Option (Unit × Wd) := (if wK w v0 = 6 then
 (lb_ (if (wI w v0 2) = 1 then 1 else (if (wI w v0 2) = 2 then 1 else 0 : Int32) : Int32) fun x2 =>
 (lb_ (sI w v0 3 (wI w v0 4)) fun w4 =>
 L_X6_advance_30 FU v0 x2 w4))
 else none)
theorem c_X6_advance {l : Launch} {V : Vt} {v0 : Nat} {w w' : Wd} {r : Unit} (h : f_X6_advance v0 w = some (r, w')) : MetW l V yX6_advance cX6_advance 3 (none) { frames := 1, cells := 0, slots := 0, locals := 20 } w [rf V v0] none w' 0 0 := by
  refine g_start (by decide) (Nat.le_of_ble_eq_true rfl) ?_
  intro t _ hrm X hret hnm
  have Y : Hd_ t V cX6_advance 3 RX6 { frames := 1, cells := 0, slots := 0, locals := 20 } (none) "advance" := ⟨X, hrm, hret, hnm⟩
  refine g_as (lv' := [(0, rf V v0)]) (st' := []) rfl rfl ?_
  unfold f_X6_advance at h
  refine g_aload_n (pc := 0) X 0 rfl dX6_advance_0 ?_
  obtain ⟨k1, h⟩ := gd_i h
  refine g_getI (pc := 1) X FcX6 k1 2 (by decide) rfl q_234 dX6_advance_1 ?_
  refine g_iconst (pc := 4) X (v := 1) dX6_advance_4 rfl ?_
  have kJ : Gd t V 3 0 0 (Qe t V none w' 0 0) 21 [(0, rf V v0)] [.int (if (wI w v0 2) = 1 then 1 else (if (wI w v0 2) = 2 then 1 else 0 : Int32) : Int32)] w := by
    obtain ⟨x2, e3, h⟩ := lb_i h
    refine g_top e3 ?_
    refine g_istore_n (pc := 21) X (lv' := [(1, .int x2), (0, rf V v0)]) dX6_advance_21 (by decide) rfl ?_
    refine g_aload_n (pc := 22) X 1 rfl dX6_advance_22 ?_
    refine g_aload_n (pc := 23) X 1 rfl dX6_advance_23 ?_
    refine g_getI (pc := 24) X FcX6 k1 4 (by decide) rfl q_236 dX6_advance_24 ?_
    refine g_putI (pc := 27) X FcX6 k1 3 (by decide) rfl q_235 rfl rfl rfl dX6_advance_27 ?_
    obtain ⟨w4, e5, h⟩ := lb_i h
    refine g_w e5 ?_
    refine g_sub (lv' := [(0, rf V v0), (1, .int x2)]) [1, 0] rfl ?_
    exact bL_X6_advance_30 Y  h
  refine g_icmp_eq (pc := 5) X (tgt := 16) dX6_advance_5 rfl (fun c0 => ?_) (fun c0 => ?_)
  · refine g_iconst (pc := 16) X (v := 1) dX6_advance_16 rfl ?_
    refine g_goto (pc := 17) X (tgt := 21) dX6_advance_17 rfl ?_
    exact g_top (by rw [if_pos c0]) kJ
  · refine g_aload_n (pc := 8) X 0 rfl dX6_advance_8 ?_
    refine g_getI (pc := 9) X FcX6 k1 2 (by decide) rfl q_234 dX6_advance_9 ?_
    refine g_iconst (pc := 12) X (v := 2) dX6_advance_12 rfl ?_
    refine g_icmp_ne (pc := 13) X (tgt := 20) dX6_advance_13 rfl (fun c1 => ?_) (fun c1 => ?_)
    · refine g_iconst (pc := 20) X (v := 0) dX6_advance_20 rfl ?_
      exact g_top (by rw [if_neg c0, if_neg c1]) kJ
    · refine g_iconst (pc := 16) X (v := 1) dX6_advance_16 rfl ?_
      refine g_goto (pc := 17) X (tgt := 21) dX6_advance_17 rfl ?_
      exact g_top (by rw [if_neg c0, if_pos c1]) kJ

def f_J0_coder_7d493 (v0 : Nat) (w : Wd) : Option (Int32 × Wd) := (if v0 < 6 then
 (if narrow .byte (.int 0) = .int 0 then
 some (0, w)
 else none)
 else none)
theorem c_J0_coder_7d493 {l : Launch} {V : Vt} {v0 : Nat} {w w' : Wd} {r : Int32} (h : f_J0_coder_7d493 v0 w = some (r, w')) : MetW l V yJ0_coder_7d493 cJ0_coder_7d493 1 (some .byte) { frames := 0, cells := 0, slots := 0, locals := 0 } w [.ref (V.2.2.2 (10 + v0))] (some (.int r)) w' 0 0 := by
  refine g_start (by decide) (Nat.le_of_ble_eq_true rfl) ?_
  intro t _ hrm X hret hnm
  have Y : Hd_ t V cJ0_coder_7d493 1 RJ0 { frames := 0, cells := 0, slots := 0, locals := 0 } (some .byte) "coder" := ⟨X, hrm, hret, hnm⟩
  refine g_as (lv' := [(0, .ref (V.2.2.2 (10 + v0)))]) (st' := []) rfl rfl ?_
  unfold f_J0_coder_7d493 at h
  refine g_getsC (pc := 0) X q_737 dJ0_coder_7d493_0 ?_
  refine g_if_eq (pc := 3) X (tgt := 13) dJ0_coder_7d493_3 rfl (fun c => absurd c (by decide)) (fun _ => ?_)
  refine g_aload_nS (pc := 6) X 0 rfl dJ0_coder_7d493_6 ?_
  obtain ⟨k1, h⟩ := gd_i h
  refine g_strC (pc := 7) X k1 q_1509 dJ0_coder_7d493_7 ?_
  refine g_goto (pc := 10) X (tgt := 14) dJ0_coder_7d493_10 rfl ?_
  obtain ⟨k2, h⟩ := gd_i h
  obtain ⟨e1, e2⟩ := rt_i h
  exact g_nret (pc := 14) X Y.2.2.1 k2 (Nat.le_of_ble_eq_true rfl) (Nat.le_of_ble_eq_true rfl) e1 e2 dJ0_coder_7d493_14

def f_J0_length_8abf5 (v0 : Nat) (w : Wd) : Option (Int32 × Wd) := (if v0 < 6 then
 (if v0 < 6 then
 (if v0 < 6 then
 (bd2 (f_J0_coder_7d493 v0 w) fun r4 w5 =>
 some ((nI (stN.getD v0 0)) >>> (r4 &&& 31), w5))
 else none)
 else none)
 else none)
theorem c_J0_length_8abf5 {l : Launch} {V : Vt} {v0 : Nat} {w w' : Wd} {r : Int32} (h : f_J0_length_8abf5 v0 w = some (r, w')) : MetW l V yJ0_length_8abf5 cJ0_length_8abf5 1 (some .int) { frames := 1, cells := 0, slots := 0, locals := 20 } w [.ref (V.2.2.2 (10 + v0))] (some (.int r)) w' 0 0 := by
  refine g_start (by decide) (Nat.le_of_ble_eq_true rfl) ?_
  intro t _ hrm X hret hnm
  have Y : Hd_ t V cJ0_length_8abf5 1 RJ0 { frames := 1, cells := 0, slots := 0, locals := 20 } (some .int) "length" := ⟨X, hrm, hret, hnm⟩
  refine g_as (lv' := [(0, .ref (V.2.2.2 (10 + v0)))]) (st' := []) rfl rfl ?_
  unfold f_J0_length_8abf5 at h
  refine g_aload_nS (pc := 0) X 0 rfl dJ0_length_8abf5_0 ?_
  obtain ⟨k1, h⟩ := gd_i h
  refine g_strV (pc := 1) X k1 q_1508 dJ0_length_8abf5_1 ?_
  obtain ⟨k2, h⟩ := gd_i h
  refine g_alenS (pc := 4) X k2 dJ0_length_8abf5_4 ?_
  refine g_aload_nS (pc := 5) X 0 rfl dJ0_length_8abf5_5 ?_
  obtain ⟨k3, h⟩ := gd_i h
  obtain ⟨r4, w5, h6, h⟩ := bd2_i h
  refine g_callT (pc := 6) X k3 rfl mk_J0_coder_7d493 q_734 q_735 q_733 (c_J0_coder_7d493 h6) rfl rfl (by rw [Y.2.1]; decide)  rfl (rest := [.int (nI (stN.getD v0 0))]) rfl (Nat.le_of_ble_eq_true rfl) (by rw [Y.2.1]; exact ⟨Nat.le_of_ble_eq_true rfl, Nat.le_of_ble_eq_true rfl⟩) dJ0_length_8abf5_6 (st' := [.int r4, .int (nI (stN.getD v0 0))]) rfl ?_
  refine g_ishr (pc := 9) X dJ0_length_8abf5_9 ?_
  obtain ⟨e1, e2⟩ := rt_i h
  exact g_iret (pc := 10) X Y.2.2.1 (Nat.le_of_ble_eq_true rfl) (Nat.le_of_ble_eq_true rfl) e1 e2 dJ0_length_8abf5_10

def f_J0_isLatin1_aae02 (v0 : Nat) (w : Wd) : Option (Int32 × Wd) := (if v0 < 6 then
 some (1, w)
 else none)
theorem c_J0_isLatin1_aae02 {l : Launch} {V : Vt} {v0 : Nat} {w w' : Wd} {r : Int32} (h : f_J0_isLatin1_aae02 v0 w = some (r, w')) : MetW l V yJ0_isLatin1_aae02 cJ0_isLatin1_aae02 1 (some .boolean) { frames := 0, cells := 0, slots := 0, locals := 0 } w [.ref (V.2.2.2 (10 + v0))] (some (.int r)) w' 0 0 := by
  refine g_start (by decide) (Nat.le_of_ble_eq_true rfl) ?_
  intro t _ hrm X hret hnm
  have Y : Hd_ t V cJ0_isLatin1_aae02 1 RJ0 { frames := 0, cells := 0, slots := 0, locals := 0 } (some .boolean) "isLatin1" := ⟨X, hrm, hret, hnm⟩
  refine g_as (lv' := [(0, .ref (V.2.2.2 (10 + v0)))]) (st' := []) rfl rfl ?_
  unfold f_J0_isLatin1_aae02 at h
  refine g_getsC (pc := 0) X q_737 dJ0_isLatin1_aae02_0 ?_
  refine g_if_eq (pc := 3) X (tgt := 17) dJ0_isLatin1_aae02_3 rfl (fun c => absurd c (by decide)) (fun _ => ?_)
  refine g_aload_nS (pc := 6) X 0 rfl dJ0_isLatin1_aae02_6 ?_
  obtain ⟨k1, h⟩ := gd_i h
  refine g_strC (pc := 7) X k1 q_1509 dJ0_isLatin1_aae02_7 ?_
  refine g_if_ne (pc := 10) X (tgt := 17) dJ0_isLatin1_aae02_10 rfl (fun c => absurd c (by decide)) (fun _ => ?_)
  refine g_iconst (pc := 13) X (v := 1) dJ0_isLatin1_aae02_13 rfl ?_
  refine g_goto (pc := 14) X (tgt := 18) dJ0_isLatin1_aae02_14 rfl ?_
  obtain ⟨e1, e2⟩ := rt_i h
  exact g_zret (pc := 18) X Y.2.2.1 (Or.inr rfl) (Nat.le_of_ble_eq_true rfl) (Nat.le_of_ble_eq_true rfl) e1 e2 dJ0_isLatin1_aae02_18

def j_J3_checkIndex_8e157_9  (v0 : Int32) (v1 : Int32) (w : Wd) : Option (Int32 × Wd) := none
theorem bj_J3_checkIndex_8e157_9 {t : Ct} {V : Vt} {r : Int32} {w' : Wd} (Y : Hd_ t V cJ3_checkIndex_8e157 3 RJ3 { frames := 0, cells := 0, slots := 0, locals := 0 } (some .int) "checkIndex") {v0 : Int32} {v1 : Int32} {w : Wd} (h : j_J3_checkIndex_8e157_9  v0 v1 w = some (r, w')) : Gd t V 3 0 0 (Qe t V (some (.int r)) w' 0 0) 9 [(0, .int v0), (1, .int v1)] [] w := by
  have X := Y.1
  unfold j_J3_checkIndex_8e157_9 at h
  cases h

def f_J3_checkIndex_8e157 (v0 : Int32) (v1 : Int32) (w : Wd) : Option (Int32 × Wd) := (if v0 < 0 then
 j_J3_checkIndex_8e157_9 v0 v1 w
 else
 (if v0 < v1 then
 some (v0, w)
 else
 j_J3_checkIndex_8e157_9 v0 v1 w))
theorem c_J3_checkIndex_8e157 {l : Launch} {V : Vt} {v0 : Int32} {v1 : Int32} {v2 : Option Nat} {w w' : Wd} {r : Int32} (h : f_J3_checkIndex_8e157 v0 v1 w = some (r, w')) : MetW l V yJ3_checkIndex_8e157 cJ3_checkIndex_8e157 3 (some .int) { frames := 0, cells := 0, slots := 0, locals := 0 } w [.int v0, .int v1, va_rf v2] (some (.int r)) w' 0 0 := by
  rcases v2 with _ | v2
  all_goals
    refine g_start (by decide) (Nat.le_of_ble_eq_true rfl) ?_
    intro t _ hrm X hret hnm
    have Y : Hd_ t V cJ3_checkIndex_8e157 3 RJ3 { frames := 0, cells := 0, slots := 0, locals := 0 } (some .int) "checkIndex" := ⟨X, hrm, hret, hnm⟩
    refine g_sub (lv' := [(0, .int v0), (1, .int v1)]) [0, 1] rfl ?_
    unfold f_J3_checkIndex_8e157 at h
    refine g_iload_n (pc := 0) X 0 rfl dJ3_checkIndex_8e157_0 ?_
    refine g_if_lt (pc := 1) X (tgt := 9) dJ3_checkIndex_8e157_1 rfl (fun c => ?_) (fun c => ?_)
    · have h := br_y c h
      refine g_sub (lv' := [(0, .int v0), (1, .int v1)]) [0, 1] rfl ?_
      exact bj_J3_checkIndex_8e157_9 Y  h
    · have h := br_n c h
      refine g_iload_n (pc := 4) X 0 rfl dJ3_checkIndex_8e157_4 ?_
      refine g_iload_n (pc := 5) X 1 rfl dJ3_checkIndex_8e157_5 ?_
      refine g_icmp_lt (pc := 6) X (tgt := 16) dJ3_checkIndex_8e157_6 rfl (fun c => ?_) (fun c => ?_)
      · have h := br_y c h
        refine g_iload_n (pc := 16) X 0 rfl dJ3_checkIndex_8e157_16 ?_
        obtain ⟨e1, e2⟩ := rt_i h
        exact g_iret (pc := 17) X Y.2.2.1 (Nat.le_of_ble_eq_true rfl) (Nat.le_of_ble_eq_true rfl) e1 e2 dJ3_checkIndex_8e157_17
      · have h := br_n c h
        refine g_sub (lv' := [(0, .int v0), (1, .int v1)]) [0, 1] rfl ?_
        exact bj_J3_checkIndex_8e157_9 Y  h

def f_J0_checkIndex_df160 (v0 : Int32) (v1 : Int32) (w : Wd) : Option (Unit × Wd) := (bd2 (f_J3_checkIndex_8e157 v0 v1 w) fun r2 w3 =>
 some ((), w3))
theorem c_J0_checkIndex_df160 {l : Launch} {V : Vt} {v0 : Int32} {v1 : Int32} {w w' : Wd} {r : Unit} (h : f_J0_checkIndex_df160 v0 v1 w = some (r, w')) : MetW l V yJ0_checkIndex_df160 cJ0_checkIndex_df160 2 (none) { frames := 1, cells := 0, slots := 0, locals := 22 } w [.int v0, .int v1] none w' 0 0 := by
  refine g_start (by decide) (Nat.le_of_ble_eq_true rfl) ?_
  intro t _ hrm X hret hnm
  have Y : Hd_ t V cJ0_checkIndex_df160 2 RJ0 { frames := 1, cells := 0, slots := 0, locals := 22 } (none) "checkIndex" := ⟨X, hrm, hret, hnm⟩
  refine g_as (lv' := [(0, .int v0), (1, .int v1)]) (st' := []) rfl rfl ?_
  unfold f_J0_checkIndex_df160 at h
  refine g_iload_n (pc := 0) X 0 rfl dJ0_checkIndex_df160_0 ?_
  refine g_iload_n (pc := 1) X 1 rfl dJ0_checkIndex_df160_1 ?_
  refine g_getsQ (pc := 2) X q_753 dJ0_checkIndex_df160_2 fun z1 => ?_
  obtain ⟨r2, w3, h4, h⟩ := bd2_i h
  refine g_callS (pc := 5) X mk_J3_checkIndex_8e157 q_756 q_755 (c_J3_checkIndex_8e157 h4) rfl rfl (by rw [Y.2.1]; decide)  rfl (rest := []) rfl (Nat.le_of_ble_eq_true rfl) (by rw [Y.2.1]; exact ⟨Nat.le_of_ble_eq_true rfl, Nat.le_of_ble_eq_true rfl⟩) dJ0_checkIndex_df160_5 (st' := [.int r2]) rfl ?_
  refine g_pop (pc := 8) X rfl dJ0_checkIndex_df160_8 ?_
  obtain ⟨e1, e2⟩ := rt_i h
  exact g_vret (pc := 9) X Y.2.2.1 (Nat.le_of_ble_eq_true rfl) (Nat.le_of_ble_eq_true rfl) e2 dJ0_checkIndex_df160_9

def f_J1_charAt_3b067 (v0 : Nat) (v1 : Int32) (w : Wd) : Option (Int32 × Wd) := (if v0 < 6 then
 (bd2 (f_J0_checkIndex_df160 v1 (nI (stN.getD v0 0)) w) fun r2 w3 =>
 (if v0 < 6 then
 (if ib v1 (stN.getD v0 0) = true then
 (if narrow .char (.int (i2c_ (((stB.getD v0 []).getD (nx v1) 0) &&& 255))) = .int (i2c_ (((stB.getD v0 []).getD (nx v1) 0) &&& 255)) then
 some (i2c_ (((stB.getD v0 []).getD (nx v1) 0) &&& 255), w3)
 else none)
 else none)
 else none))
 else none)
theorem c_J1_charAt_3b067 {l : Launch} {V : Vt} {v0 : Nat} {v1 : Int32} {w w' : Wd} {r : Int32} (h : f_J1_charAt_3b067 v0 v1 w = some (r, w')) : MetW l V yJ1_charAt_3b067 cJ1_charAt_3b067 2 (some .char) { frames := 2, cells := 0, slots := 0, locals := 43 } w [.ref (V.2.2.2 (20 + v0)), .int v1] (some (.int r)) w' 0 0 := by
  refine g_start (by decide) (Nat.le_of_ble_eq_true rfl) ?_
  intro t _ hrm X hret hnm
  have Y : Hd_ t V cJ1_charAt_3b067 2 RJ1 { frames := 2, cells := 0, slots := 0, locals := 43 } (some .char) "charAt" := ⟨X, hrm, hret, hnm⟩
  refine g_as (lv' := [(0, .ref (V.2.2.2 (20 + v0))), (1, .int v1)]) (st' := []) rfl rfl ?_
  unfold f_J1_charAt_3b067 at h
  refine g_iload_n (pc := 0) X 1 rfl dJ1_charAt_3b067_0 ?_
  refine g_aload_nS (pc := 1) X 0 rfl dJ1_charAt_3b067_1 ?_
  obtain ⟨k1, h⟩ := gd_i h
  refine g_alenS (pc := 2) X k1 dJ1_charAt_3b067_2 ?_
  obtain ⟨r2, w3, h4, h⟩ := bd2_i h
  refine g_callS (pc := 3) X mk_J0_checkIndex_df160 q_751 q_750 (c_J0_checkIndex_df160 h4) rfl rfl (by rw [Y.2.1]; decide)  rfl (rest := []) rfl (Nat.le_of_ble_eq_true rfl) (by rw [Y.2.1]; exact ⟨Nat.le_of_ble_eq_true rfl, Nat.le_of_ble_eq_true rfl⟩) dJ1_charAt_3b067_3 (st' := []) rfl ?_
  refine g_aload_nS (pc := 6) X 0 rfl dJ1_charAt_3b067_6 ?_
  refine g_iload_n (pc := 7) X 1 rfl dJ1_charAt_3b067_7 ?_
  obtain ⟨k6, h⟩ := gd_i h
  obtain ⟨k5, h⟩ := gd_i h
  refine g_baloadS (pc := 8) X k6 k5 dJ1_charAt_3b067_8 ?_
  refine g_sipush (pc := 9) X (v := 255) dJ1_charAt_3b067_9 rfl ?_
  refine g_iand (pc := 12) X dJ1_charAt_3b067_12 ?_
  refine g_i2c (pc := 13) X dJ1_charAt_3b067_13 ?_
  obtain ⟨k7, h⟩ := gd_i h
  obtain ⟨e1, e2⟩ := rt_i h
  exact g_nret (pc := 14) X Y.2.2.1 k7 (Nat.le_of_ble_eq_true rfl) (Nat.le_of_ble_eq_true rfl) e1 e2 dJ1_charAt_3b067_14

def f_J0_charAt_5068e (v0 : Nat) (v1 : Int32) (w : Wd) : Option (Int32 × Wd) := (if v0 < 6 then
 (bd2 (f_J0_isLatin1_aae02 v0 w) fun r2 w3 =>
 (if r2 = 0 then
 (if v0 < 6 then
 none
 else none)
 else
 (if v0 < 6 then
 (bd2 (f_J1_charAt_3b067 v0 v1 w3) fun r7 w8 =>
 (if narrow .char (.int r7) = .int r7 then
 some (r7, w8)
 else none))
 else none)))
 else none)
theorem c_J0_charAt_5068e {l : Launch} {V : Vt} {v0 : Nat} {v1 : Int32} {w w' : Wd} {r : Int32} (h : f_J0_charAt_5068e v0 v1 w = some (r, w')) : MetW l V yJ0_charAt_5068e cJ0_charAt_5068e 2 (some .char) { frames := 3, cells := 0, slots := 0, locals := 64 } w [.ref (V.2.2.2 (10 + v0)), .int v1] (some (.int r)) w' 0 0 := by
  refine g_start (by decide) (Nat.le_of_ble_eq_true rfl) ?_
  intro t _ hrm X hret hnm
  have Y : Hd_ t V cJ0_charAt_5068e 2 RJ0 { frames := 3, cells := 0, slots := 0, locals := 64 } (some .char) "charAt" := ⟨X, hrm, hret, hnm⟩
  refine g_as (lv' := [(0, .ref (V.2.2.2 (10 + v0))), (1, .int v1)]) (st' := []) rfl rfl ?_
  unfold f_J0_charAt_5068e at h
  refine g_aload_nS (pc := 0) X 0 rfl dJ0_charAt_5068e_0 ?_
  obtain ⟨k1, h⟩ := gd_i h
  obtain ⟨r2, w3, h4, h⟩ := bd2_i h
  refine g_callT (pc := 1) X k1 rfl mk_J0_isLatin1_aae02 q_744 q_745 q_743 (c_J0_isLatin1_aae02 h4) rfl rfl (by rw [Y.2.1]; decide)  rfl (rest := []) rfl (Nat.le_of_ble_eq_true rfl) (by rw [Y.2.1]; exact ⟨Nat.le_of_ble_eq_true rfl, Nat.le_of_ble_eq_true rfl⟩) dJ0_charAt_5068e_1 (st' := [.int r2]) rfl ?_
  refine g_if_eq (pc := 4) X (tgt := 16) dJ0_charAt_5068e_4 rfl (fun c => ?_) (fun c => ?_)
  · have h := br_y c h
    refine g_aload_nS (pc := 16) X 0 rfl dJ0_charAt_5068e_16 ?_
    obtain ⟨k5, h⟩ := gd_i h
    refine g_strV (pc := 17) X k5 q_1508 dJ0_charAt_5068e_17 ?_
    refine g_iload_n (pc := 20) X 1 rfl dJ0_charAt_5068e_20 ?_
    cases h
  · have h := br_n c h
    refine g_aload_nS (pc := 7) X 0 rfl dJ0_charAt_5068e_7 ?_
    obtain ⟨k6, h⟩ := gd_i h
    refine g_strV (pc := 8) X k6 q_1508 dJ0_charAt_5068e_8 ?_
    refine g_iload_n (pc := 11) X 1 rfl dJ0_charAt_5068e_11 ?_
    obtain ⟨r7, w8, h9, h⟩ := bd2_i h
    refine g_callS (pc := 12) X mk_J1_charAt_3b067 q_748 q_747 (c_J1_charAt_3b067 h9) rfl rfl (by rw [Y.2.1]; decide)  rfl (rest := []) rfl (Nat.le_of_ble_eq_true rfl) (by rw [Y.2.1]; exact ⟨Nat.le_of_ble_eq_true rfl, Nat.le_of_ble_eq_true rfl⟩) dJ0_charAt_5068e_12 (st' := [.int r7]) rfl ?_
    obtain ⟨k10, h⟩ := gd_i h
    obtain ⟨e1, e2⟩ := rt_i h
    exact g_nret (pc := 15) X Y.2.2.1 k10 (Nat.le_of_ble_eq_true rfl) (Nat.le_of_ble_eq_true rfl) e1 e2 dJ0_charAt_5068e_15

def L_X6_isHere_20  (n : Nat) (v0 : Nat) (v1 : Nat) (v2 : Int32) (w : Wd) : Option (Int32 × Wd) := match n with
  | 0 => none
  | n + 1 => (if v1 < 6 then
 (bd2 (f_J0_length_8abf5 v1 w) fun r7 w8 =>
 (if r7 ≤ v2 then
 some (1, w8)
 else
 (if wK w8 v0 = 6 then
 (bd1 (wR w8 v0 0) fun a11 =>
 (if aK 11 w8 a11 ((wI w8 v0 3) + v2) = true then
 (if v1 < 6 then
 (bd2 (f_J0_charAt_5068e v1 v2 w8) fun r15 w16 =>
 (if (wI w8 a11 (nx ((wI w8 v0 3) + v2))) = r15 then
 (lb_ (v2 + 1) fun x18 =>
 L_X6_isHere_20 n v0 v1 x18 w16)
 else
 some (0, w16)))
 else none)
 else none))
 else none)))
 else none)
theorem bL_X6_isHere_20 {t : Ct} {V : Vt} {r : Int32} {w' : Wd} (Y : Hd_ t V cX6_isHere 3 RX6 { frames := 4, cells := 0, slots := 0, locals := 85 } (some .boolean) "isHere") : ∀ {n : Nat} {v0 : Nat} {v1 : Nat} {v2 : Int32} {w : Wd}, L_X6_isHere_20  n v0 v1 v2 w = some (r, w') → Gd t V 3 0 0 (Qe t V (some (.int r)) w' 0 0) 20 [(0, rf V v0), (1, .ref (V.2.2.2 (10 + v1))), (2, .int v2)] [] w := by
  have X := Y.1
  intro n
  induction n with
  | zero => intro v0 v1 v2 w h; cases h
  | succ n ih0 =>
    have ih : ∀ (v0 : Nat) (v1 : Nat) (v2 : Int32) (w : Wd), L_X6_isHere_20  n v0 v1 v2 w = some (r, w') → Gd t V 3 0 0 (Qe t V (some (.int r)) w' 0 0) 20 [(0, rf V v0), (1, .ref (V.2.2.2 (10 + v1))), (2, .int v2)] [] w := fun v0 v1 v2 w h => ih0 h
    clear ih0
    intro v0 v1 v2 w h
    unfold L_X6_isHere_20 at h
    refine g_iload_n (pc := 20) X 2 rfl dX6_isHere_20 ?_
    refine g_aload_nS (pc := 21) X 1 rfl dX6_isHere_21 ?_
    obtain ⟨k6, h⟩ := gd_i h
    obtain ⟨r7, w8, h9, h⟩ := bd2_i h
    refine g_callT (pc := 22) X k6 rfl mk_J0_length_8abf5 q_730 q_731 q_729 (c_J0_length_8abf5 h9) rfl rfl (by rw [Y.2.1]; decide)  rfl (rest := [.int v2]) rfl (Nat.le_of_ble_eq_true rfl) (by rw [Y.2.1]; exact ⟨Nat.le_of_ble_eq_true rfl, Nat.le_of_ble_eq_true rfl⟩) dX6_isHere_22 (st' := [.int r7, .int v2]) rfl ?_
    refine g_icmp_ge (pc := 25) X (tgt := 55) dX6_isHere_25 rfl (fun c => ?_) (fun c => ?_)
    · have h := br_y c h
      refine g_iconst (pc := 55) X (v := 1) dX6_isHere_55 rfl ?_
      obtain ⟨e1, e2⟩ := rt_i h
      exact g_zret (pc := 56) X Y.2.2.1 (Or.inr rfl) (Nat.le_of_ble_eq_true rfl) (Nat.le_of_ble_eq_true rfl) e1 e2 dX6_isHere_56
    · have h := br_n c h
      refine g_aload_n (pc := 28) X 0 rfl dX6_isHere_28 ?_
      obtain ⟨k10, h⟩ := gd_i h
      obtain ⟨a11, e12, h⟩ := bd1_i h
      refine g_getR (pc := 29) X FcX6 k10 0 e12 (by decide) rfl q_231 dX6_isHere_29 ?_
      refine g_aload_n (pc := 32) X 0 rfl dX6_isHere_32 ?_
      refine g_getI (pc := 33) X FcX6 k10 3 (by decide) rfl q_235 dX6_isHere_33 ?_
      refine g_iload_n (pc := 36) X 2 rfl dX6_isHere_36 ?_
      refine g_iadd (pc := 37) X dX6_isHere_37 ?_
      obtain ⟨k13, h⟩ := gd_i h
      refine g_iald (pc := 38) X k13 dX6_isHere_38 ?_
      refine g_aload_nS (pc := 39) X 1 rfl dX6_isHere_39 ?_
      refine g_iload_n (pc := 40) X 2 rfl dX6_isHere_40 ?_
      obtain ⟨k14, h⟩ := gd_i h
      obtain ⟨r15, w16, h17, h⟩ := bd2_i h
      refine g_callT (pc := 41) X k14 rfl mk_J0_charAt_5068e q_740 q_741 q_739 (c_J0_charAt_5068e h17) rfl rfl (by rw [Y.2.1]; decide)  rfl (rest := [.int (wI w8 a11 (nx ((wI w8 v0 3) + v2)))]) rfl (Nat.le_of_ble_eq_true rfl) (by rw [Y.2.1]; exact ⟨Nat.le_of_ble_eq_true rfl, Nat.le_of_ble_eq_true rfl⟩) dX6_isHere_41 (st' := [.int r15, .int (wI w8 a11 (nx ((wI w8 v0 3) + v2)))]) rfl ?_
      refine g_icmp_eq (pc := 44) X (tgt := 49) dX6_isHere_44 rfl (fun c => ?_) (fun c => ?_)
      · have h := br_y c h
        obtain ⟨x18, e19, h⟩ := lb_i h
        refine g_iinc (pc := 49) X 2 rfl dX6_isHere_49 (v := x18) e19.symm (by decide) (lv' := [(2, .int x18), (0, rf V v0), (1, .ref (V.2.2.2 (10 + v1)))]) rfl ?_
        refine g_goto (pc := 52) X (tgt := 20) dX6_isHere_52 rfl ?_
        refine g_sub (lv' := [(0, rf V v0), (1, .ref (V.2.2.2 (10 + v1))), (2, .int x18)]) [1, 2, 0] rfl ?_
        exact ih _ _ _ _ h
      · have h := br_n c h
        refine g_iconst (pc := 47) X (v := 0) dX6_isHere_47 rfl ?_
        obtain ⟨e1, e2⟩ := rt_i h
        exact g_zret (pc := 48) X Y.2.2.1 (Or.inl rfl) (Nat.le_of_ble_eq_true rfl) (Nat.le_of_ble_eq_true rfl) e1 e2 dX6_isHere_48

def f_X6_isHere (v0 : Nat) (v1 : Nat) (w : Wd) : Option (Int32 × Wd) := (if wK w v0 = 6 then
 (if v1 < 6 then
 (bd2 (f_J0_length_8abf5 v1 w) fun r3 w4 =>
 (if ((wI w v0 4) - (wI w v0 3)) = r3 then
 L_X6_isHere_20 FU v0 v1 0 w4
 else
 some (0, w4)))
 else none)
 else none)
theorem c_X6_isHere {l : Launch} {V : Vt} {v0 : Nat} {v1 : Nat} {w w' : Wd} {r : Int32} (h : f_X6_isHere v0 v1 w = some (r, w')) : MetW l V yX6_isHere cX6_isHere 3 (some .boolean) { frames := 4, cells := 0, slots := 0, locals := 85 } w [rf V v0, .ref (V.2.2.2 (10 + v1))] (some (.int r)) w' 0 0 := by
  refine g_start (by decide) (Nat.le_of_ble_eq_true rfl) ?_
  intro t _ hrm X hret hnm
  have Y : Hd_ t V cX6_isHere 3 RX6 { frames := 4, cells := 0, slots := 0, locals := 85 } (some .boolean) "isHere" := ⟨X, hrm, hret, hnm⟩
  refine g_as (lv' := [(0, rf V v0), (1, .ref (V.2.2.2 (10 + v1)))]) (st' := []) rfl rfl ?_
  unfold f_X6_isHere at h
  refine g_aload_n (pc := 0) X 0 rfl dX6_isHere_0 ?_
  obtain ⟨k1, h⟩ := gd_i h
  refine g_getI (pc := 1) X FcX6 k1 4 (by decide) rfl q_236 dX6_isHere_1 ?_
  refine g_aload_n (pc := 4) X 0 rfl dX6_isHere_4 ?_
  refine g_getI (pc := 5) X FcX6 k1 3 (by decide) rfl q_235 dX6_isHere_5 ?_
  refine g_isub (pc := 8) X dX6_isHere_8 ?_
  refine g_aload_nS (pc := 9) X 1 rfl dX6_isHere_9 ?_
  obtain ⟨k2, h⟩ := gd_i h
  obtain ⟨r3, w4, h5, h⟩ := bd2_i h
  refine g_callT (pc := 10) X k2 rfl mk_J0_length_8abf5 q_730 q_731 q_729 (c_J0_length_8abf5 h5) rfl rfl (by rw [Y.2.1]; decide)  rfl (rest := [.int ((wI w v0 4) - (wI w v0 3))]) rfl (Nat.le_of_ble_eq_true rfl) (by rw [Y.2.1]; exact ⟨Nat.le_of_ble_eq_true rfl, Nat.le_of_ble_eq_true rfl⟩) dX6_isHere_10 (st' := [.int r3, .int ((wI w v0 4) - (wI w v0 3))]) rfl ?_
  refine g_icmp_eq (pc := 13) X (tgt := 18) dX6_isHere_13 rfl (fun c => ?_) (fun c => ?_)
  · have h := br_y c h
    refine g_iconst (pc := 18) X (v := 0) dX6_isHere_18 rfl ?_
    refine g_istore_n (pc := 19) X (lv' := [(2, .int 0), (0, rf V v0), (1, .ref (V.2.2.2 (10 + v1)))]) dX6_isHere_19 (by decide) rfl ?_
    refine g_sub (lv' := [(0, rf V v0), (1, .ref (V.2.2.2 (10 + v1))), (2, .int 0)]) [1, 2, 0] rfl ?_
    exact bL_X6_isHere_20 Y  h
  · have h := br_n c h
    refine g_iconst (pc := 16) X (v := 0) dX6_isHere_16 rfl ?_
    obtain ⟨e1, e2⟩ := rt_i h
    exact g_zret (pc := 17) X Y.2.2.1 (Or.inl rfl) (Nat.le_of_ble_eq_true rfl) (Nat.le_of_ble_eq_true rfl) e1 e2 dX6_isHere_17

def f_X6_keyHere (v0 : Nat) (w : Wd) : Option (Int32 × Wd) := (if wK w v0 = 6 then
 (bd2 (f_X6_isHere v0 0 w) fun r2 w3 =>
 (if r2 = 0 then
 (if wK w3 v0 = 6 then
 (bd2 (f_X6_isHere v0 1 w3) fun r6 w7 =>
 (if r6 = 0 then
 (if wK w7 v0 = 6 then
 (bd2 (f_X6_isHere v0 2 w7) fun r10 w11 =>
 some ((if r10 = 0 then (-1) else 2 : Int32), w11))
 else none)
 else
 some (1, w7)))
 else none)
 else
 some (0, w3)))
 else none)
theorem c_X6_keyHere {l : Launch} {V : Vt} {v0 : Nat} {w w' : Wd} {r : Int32} (h : f_X6_keyHere v0 w = some (r, w')) : MetW l V yX6_keyHere cX6_keyHere 1 (some .int) { frames := 5, cells := 0, slots := 0, locals := 107 } w [rf V v0] (some (.int r)) w' 0 0 := by
  refine g_start (by decide) (Nat.le_of_ble_eq_true rfl) ?_
  intro t _ hrm X hret hnm
  have Y : Hd_ t V cX6_keyHere 1 RX6 { frames := 5, cells := 0, slots := 0, locals := 107 } (some .int) "keyHere" := ⟨X, hrm, hret, hnm⟩
  refine g_as (lv' := [(0, rf V v0)]) (st' := []) rfl rfl ?_
  unfold f_X6_keyHere at h
  refine g_aload_n (pc := 0) X 0 rfl dX6_keyHere_0 ?_
  refine g_ldcS (pc := 1) X 0 (by decide) dX6_keyHere_1 rfl ?_
  obtain ⟨k1, h⟩ := gd_i h
  obtain ⟨r2, w3, h4, h⟩ := bd2_i h
  refine g_callV (pc := 3) X FcX6 k1 mk_X6_isHere q_727 q_10 q_725 (c_X6_isHere h4) rfl rfl (by rw [Y.2.1]; decide)  rfl (rest := []) rfl (Nat.le_of_ble_eq_true rfl) (by rw [Y.2.1]; exact ⟨Nat.le_of_ble_eq_true rfl, Nat.le_of_ble_eq_true rfl⟩) dX6_keyHere_3 (st' := [.int r2]) rfl ?_
  refine g_if_eq (pc := 6) X (tgt := 11) dX6_keyHere_6 rfl (fun c => ?_) (fun c => ?_)
  · have h := br_y c h
    refine g_aload_n (pc := 11) X 0 rfl dX6_keyHere_11 ?_
    refine g_ldcS (pc := 12) X 1 (by decide) dX6_keyHere_12 rfl ?_
    obtain ⟨k5, h⟩ := gd_i h
    obtain ⟨r6, w7, h8, h⟩ := bd2_i h
    refine g_callV (pc := 14) X FcX6 k5 mk_X6_isHere q_727 q_10 q_725 (c_X6_isHere h8) rfl rfl (by rw [Y.2.1]; decide)  rfl (rest := []) rfl (Nat.le_of_ble_eq_true rfl) (by rw [Y.2.1]; exact ⟨Nat.le_of_ble_eq_true rfl, Nat.le_of_ble_eq_true rfl⟩) dX6_keyHere_14 (st' := [.int r6]) rfl ?_
    refine g_if_eq (pc := 17) X (tgt := 22) dX6_keyHere_17 rfl (fun c => ?_) (fun c => ?_)
    · have h := br_y c h
      refine g_aload_n (pc := 22) X 0 rfl dX6_keyHere_22 ?_
      refine g_ldcS (pc := 23) X 2 (by decide) dX6_keyHere_23 rfl ?_
      obtain ⟨k9, h⟩ := gd_i h
      obtain ⟨r10, w11, h12, h⟩ := bd2_i h
      refine g_callV (pc := 25) X FcX6 k9 mk_X6_isHere q_727 q_10 q_725 (c_X6_isHere h12) rfl rfl (by rw [Y.2.1]; decide)  rfl (rest := []) rfl (Nat.le_of_ble_eq_true rfl) (by rw [Y.2.1]; exact ⟨Nat.le_of_ble_eq_true rfl, Nat.le_of_ble_eq_true rfl⟩) dX6_keyHere_25 (st' := [.int r10]) rfl ?_
      have kJ : Gd t V 1 0 0 (Qe t V (some (.int r)) w' 0 0) 36 [(0, rf V v0)] [.int (if r10 = 0 then (-1) else 2 : Int32)] w11 := by
        obtain ⟨e1, e2⟩ := rt_i h
        exact g_iret (pc := 36) X Y.2.2.1 (Nat.le_of_ble_eq_true rfl) (Nat.le_of_ble_eq_true rfl) e1 e2 dX6_keyHere_36
      refine g_if_eq (pc := 28) X (tgt := 35) dX6_keyHere_28 rfl (fun c0 => ?_) (fun c0 => ?_)
      · refine g_iconst (pc := 35) X (v := (-1)) dX6_keyHere_35 rfl ?_
        exact g_top (by rw [if_pos c0]) kJ
      · refine g_iconst (pc := 31) X (v := 2) dX6_keyHere_31 rfl ?_
        refine g_goto (pc := 32) X (tgt := 36) dX6_keyHere_32 rfl ?_
        exact g_top (by rw [if_neg c0]) kJ
    · have h := br_n c h
      refine g_iconst (pc := 20) X (v := 1) dX6_keyHere_20 rfl ?_
      obtain ⟨e1, e2⟩ := rt_i h
      exact g_iret (pc := 21) X Y.2.2.1 (Nat.le_of_ble_eq_true rfl) (Nat.le_of_ble_eq_true rfl) e1 e2 dX6_keyHere_21
  · have h := br_n c h
    refine g_iconst (pc := 9) X (v := 0) dX6_keyHere_9 rfl ?_
    obtain ⟨e1, e2⟩ := rt_i h
    exact g_iret (pc := 10) X Y.2.2.1 (Nat.le_of_ble_eq_true rfl) (Nat.le_of_ble_eq_true rfl) e1 e2 dX6_keyHere_10

def f_X6_write (v0 : Nat) (v1 : Int32) (w : Wd) : Option (Unit × Wd) := (if wK w v0 = 6 then
 (if 96 ≤ (wI w v0 8) then
 some ((), w)
 else
 (bd1 (wR w v0 7) fun a2 =>
 (if aK 11 w a2 (wI w v0 8) = true then
 (lb_ (sI w a2 (nx (wI w v0 8)) v1) fun w5 =>
 (lb_ (sI w5 v0 8 ((wI w5 v0 8) + 1)) fun w7 =>
 some ((), w7)))
 else none)))
 else none)
theorem c_X6_write {l : Launch} {V : Vt} {v0 : Nat} {v1 : Int32} {w w' : Wd} {r : Unit} (h : f_X6_write v0 v1 w = some (r, w')) : MetW l V yX6_write cX6_write 2 (none) { frames := 0, cells := 0, slots := 0, locals := 0 } w [rf V v0, .int v1] none w' 0 0 := by
  refine g_start (by decide) (Nat.le_of_ble_eq_true rfl) ?_
  intro t _ hrm X hret hnm
  have Y : Hd_ t V cX6_write 2 RX6 { frames := 0, cells := 0, slots := 0, locals := 0 } (none) "write" := ⟨X, hrm, hret, hnm⟩
  refine g_as (lv' := [(0, rf V v0), (1, .int v1)]) (st' := []) rfl rfl ?_
  unfold f_X6_write at h
  refine g_aload_n (pc := 0) X 0 rfl dX6_write_0 ?_
  obtain ⟨k1, h⟩ := gd_i h
  refine g_getI (pc := 1) X FcX6 k1 8 (by decide) rfl q_240 dX6_write_1 ?_
  refine g_bipush (pc := 4) X (v := 96) dX6_write_4 rfl ?_
  refine g_icmp_ge (pc := 6) X (tgt := 29) dX6_write_6 rfl (fun c => ?_) (fun c => ?_)
  · have h := br_y c h
    obtain ⟨e1, e2⟩ := rt_i h
    exact g_vret (pc := 29) X Y.2.2.1 (Nat.le_of_ble_eq_true rfl) (Nat.le_of_ble_eq_true rfl) e2 dX6_write_29
  · have h := br_n c h
    refine g_aload_n (pc := 9) X 0 rfl dX6_write_9 ?_
    obtain ⟨a2, e3, h⟩ := bd1_i h
    refine g_getR (pc := 10) X FcX6 k1 7 e3 (by decide) rfl q_239 dX6_write_10 ?_
    refine g_aload_n (pc := 13) X 0 rfl dX6_write_13 ?_
    refine g_getI (pc := 14) X FcX6 k1 8 (by decide) rfl q_240 dX6_write_14 ?_
    refine g_iload_n (pc := 17) X 1 rfl dX6_write_17 ?_
    obtain ⟨k4, h⟩ := gd_i h
    refine g_iast (pc := 18) X k4 dX6_write_18 ?_
    obtain ⟨w5, e6, h⟩ := lb_i h
    refine g_w e6 ?_
    refine g_aload_n (pc := 19) X 0 rfl dX6_write_19 ?_
    refine g_dup (pc := 20) X rfl dX6_write_20 ?_
    refine g_getI (pc := 21) X FcX6 (kd_I e6 k1) 8 (by decide) rfl q_240 dX6_write_21 ?_
    refine g_iconst (pc := 24) X (v := 1) dX6_write_24 rfl ?_
    refine g_iadd (pc := 25) X dX6_write_25 ?_
    refine g_putI (pc := 26) X FcX6 (kd_I e6 k1) 8 (by decide) rfl q_240 rfl rfl rfl dX6_write_26 ?_
    obtain ⟨w7, e8, h⟩ := lb_i h
    refine g_w e8 ?_
    obtain ⟨e1, e2⟩ := rt_i h
    exact g_vret (pc := 29) X Y.2.2.1 (Nat.le_of_ble_eq_true rfl) (Nat.le_of_ble_eq_true rfl) e2 dX6_write_29

def L_X6_pieceStands_5  (n : Nat) (v0 : Nat) (w : Wd) : Option (Unit × Wd) := match n with
  | 0 => none
  | n + 1 => (if wK w v0 = 6 then
 (if (wI w v0 11) ≤ 0 then
 some ((), w)
 else
 (bd1 (wR w v0 10) fun a5 =>
 (if aK 11 w a5 ((wI w v0 11) - 1) = true then
 (if (wI w a5 (nx ((wI w v0 11) - 1))) = 33 then
 (lb_ (sI w v0 11 ((wI w v0 11) - 1)) fun w8 =>
 (lb_ (sI w8 v0 13 ((wI w8 v0 13) - 1)) fun w10 =>
 (bd2 (f_X6_write v0 (-33) w10) fun r12 w13 =>
 L_X6_pieceStands_5 n v0 w13)))
 else
 some ((), w))
 else none)))
 else none)
theorem bL_X6_pieceStands_5 {t : Ct} {V : Vt} {r : Unit} {w' : Wd} (Y : Hd_ t V cX6_pieceStands 1 RX6 { frames := 1, cells := 0, slots := 0, locals := 21 } (none) "pieceStands") : ∀ {n : Nat} {v0 : Nat} {w : Wd}, L_X6_pieceStands_5  n v0 w = some (r, w') → Gd t V 1 0 0 (Qe t V none w' 0 0) 5 [(0, rf V v0)] [] w := by
  have X := Y.1
  intro n
  induction n with
  | zero => intro v0 w h; cases h
  | succ n ih0 =>
    have ih : ∀ (v0 : Nat) (w : Wd), L_X6_pieceStands_5  n v0 w = some (r, w') → Gd t V 1 0 0 (Qe t V none w' 0 0) 5 [(0, rf V v0)] [] w := fun v0 w h => ih0 h
    clear ih0
    intro v0 w h
    unfold L_X6_pieceStands_5 at h
    refine g_aload_n (pc := 5) X 0 rfl dX6_pieceStands_5 ?_
    obtain ⟨k4, h⟩ := gd_i h
    refine g_getI (pc := 6) X FcX6 k4 11 (by decide) rfl q_243 dX6_pieceStands_6 ?_
    refine g_if_le (pc := 9) X (tgt := 57) dX6_pieceStands_9 rfl (fun c => ?_) (fun c => ?_)
    · have h := br_y c h
      obtain ⟨e1, e2⟩ := rt_i h
      exact g_vret (pc := 57) X Y.2.2.1 (Nat.le_of_ble_eq_true rfl) (Nat.le_of_ble_eq_true rfl) e2 dX6_pieceStands_57
    · have h := br_n c h
      refine g_aload_n (pc := 12) X 0 rfl dX6_pieceStands_12 ?_
      obtain ⟨a5, e6, h⟩ := bd1_i h
      refine g_getR (pc := 13) X FcX6 k4 10 e6 (by decide) rfl q_242 dX6_pieceStands_13 ?_
      refine g_aload_n (pc := 16) X 0 rfl dX6_pieceStands_16 ?_
      refine g_getI (pc := 17) X FcX6 k4 11 (by decide) rfl q_243 dX6_pieceStands_17 ?_
      refine g_iconst (pc := 20) X (v := 1) dX6_pieceStands_20 rfl ?_
      refine g_isub (pc := 21) X dX6_pieceStands_21 ?_
      obtain ⟨k7, h⟩ := gd_i h
      refine g_iald (pc := 22) X k7 dX6_pieceStands_22 ?_
      refine g_bipush (pc := 23) X (v := 33) dX6_pieceStands_23 rfl ?_
      refine g_icmp_ne (pc := 25) X (tgt := 57) dX6_pieceStands_25 rfl (fun c => ?_) (fun c => ?_)
      · have h := br_n c h
        obtain ⟨e1, e2⟩ := rt_i h
        exact g_vret (pc := 57) X Y.2.2.1 (Nat.le_of_ble_eq_true rfl) (Nat.le_of_ble_eq_true rfl) e2 dX6_pieceStands_57
      · have h := br_y c h
        refine g_aload_n (pc := 28) X 0 rfl dX6_pieceStands_28 ?_
        refine g_dup (pc := 29) X rfl dX6_pieceStands_29 ?_
        refine g_getI (pc := 30) X FcX6 k4 11 (by decide) rfl q_243 dX6_pieceStands_30 ?_
        refine g_iconst (pc := 33) X (v := 1) dX6_pieceStands_33 rfl ?_
        refine g_isub (pc := 34) X dX6_pieceStands_34 ?_
        refine g_putI (pc := 35) X FcX6 k4 11 (by decide) rfl q_243 rfl rfl rfl dX6_pieceStands_35 ?_
        obtain ⟨w8, e9, h⟩ := lb_i h
        refine g_w e9 ?_
        refine g_aload_n (pc := 38) X 0 rfl dX6_pieceStands_38 ?_
        refine g_dup (pc := 39) X rfl dX6_pieceStands_39 ?_
        refine g_getI (pc := 40) X FcX6 (kd_I e9 k4) 13 (by decide) rfl q_245 dX6_pieceStands_40 ?_
        refine g_iconst (pc := 43) X (v := 1) dX6_pieceStands_43 rfl ?_
        refine g_isub (pc := 44) X dX6_pieceStands_44 ?_
        refine g_putI (pc := 45) X FcX6 (kd_I e9 k4) 13 (by decide) rfl q_245 rfl rfl rfl dX6_pieceStands_45 ?_
        obtain ⟨w10, e11, h⟩ := lb_i h
        refine g_w e11 ?_
        refine g_aload_n (pc := 48) X 0 rfl dX6_pieceStands_48 ?_
        refine g_bipush (pc := 49) X (v := (-33)) dX6_pieceStands_49 rfl ?_
        obtain ⟨r12, w13, h14, h⟩ := bd2_i h
        refine g_callV (pc := 51) X FcX6 (kd_I e11 (kd_I e9 k4)) mk_X6_write q_793 q_14 q_791 (c_X6_write h14) rfl rfl (by rw [Y.2.1]; decide)  rfl (rest := []) rfl (Nat.le_of_ble_eq_true rfl) (by rw [Y.2.1]; exact ⟨Nat.le_of_ble_eq_true rfl, Nat.le_of_ble_eq_true rfl⟩) dX6_pieceStands_51 (st' := []) rfl ?_
        refine g_goto (pc := 54) X (tgt := 5) dX6_pieceStands_54 rfl ?_
        refine g_sub (lv' := [(0, rf V v0)]) [0] rfl ?_
        exact ih _ _ h

def f_X6_pieceStands (v0 : Nat) (w : Wd) : Option (Unit × Wd) := (if wK w v0 = 6 then
 (lb_ (sI w v0 6 0) fun w2 =>
 L_X6_pieceStands_5 FU v0 w2)
 else none)
theorem c_X6_pieceStands {l : Launch} {V : Vt} {v0 : Nat} {w w' : Wd} {r : Unit} (h : f_X6_pieceStands v0 w = some (r, w')) : MetW l V yX6_pieceStands cX6_pieceStands 1 (none) { frames := 1, cells := 0, slots := 0, locals := 21 } w [rf V v0] none w' 0 0 := by
  refine g_start (by decide) (Nat.le_of_ble_eq_true rfl) ?_
  intro t _ hrm X hret hnm
  have Y : Hd_ t V cX6_pieceStands 1 RX6 { frames := 1, cells := 0, slots := 0, locals := 21 } (none) "pieceStands" := ⟨X, hrm, hret, hnm⟩
  refine g_as (lv' := [(0, rf V v0)]) (st' := []) rfl rfl ?_
  unfold f_X6_pieceStands at h
  refine g_aload_n (pc := 0) X 0 rfl dX6_pieceStands_0 ?_
  refine g_iconst (pc := 1) X (v := 0) dX6_pieceStands_1 rfl ?_
  obtain ⟨k1, h⟩ := gd_i h
  refine g_putI (pc := 2) X FcX6 k1 6 (by decide) rfl q_238 rfl (bz_n (Or.inl rfl)) rfl dX6_pieceStands_2 ?_
  obtain ⟨w2, e3, h⟩ := lb_i h
  refine g_w e3 ?_
  refine g_sub (lv' := [(0, rf V v0)]) [0] rfl ?_
  exact bL_X6_pieceStands_5 Y  h

def f_X6_writeThing (v0 : Nat) (v1 : Int32) (w : Wd) : Option (Unit × Wd) := (if wK w v0 = 6 then
 (lb_ (sI w v0 9 ((wI w v0 9) + 1)) fun w2 =>
 (bd2 (f_X6_write v0 v1 w2) fun r4 w5 =>
 (if wK w5 v0 = 6 then
 (bd2 (f_X6_pieceStands v0 w5) fun r8 w9 =>
 some ((), w9))
 else none)))
 else none)
theorem c_X6_writeThing {l : Launch} {V : Vt} {v0 : Nat} {v1 : Int32} {w w' : Wd} {r : Unit} (h : f_X6_writeThing v0 v1 w = some (r, w')) : MetW l V yX6_writeThing cX6_writeThing 2 (none) { frames := 2, cells := 0, slots := 0, locals := 41 } w [rf V v0, .int v1] none w' 0 0 := by
  refine g_start (by decide) (Nat.le_of_ble_eq_true rfl) ?_
  intro t _ hrm X hret hnm
  have Y : Hd_ t V cX6_writeThing 2 RX6 { frames := 2, cells := 0, slots := 0, locals := 41 } (none) "writeThing" := ⟨X, hrm, hret, hnm⟩
  refine g_as (lv' := [(0, rf V v0), (1, .int v1)]) (st' := []) rfl rfl ?_
  unfold f_X6_writeThing at h
  refine g_aload_n (pc := 0) X 0 rfl dX6_writeThing_0 ?_
  refine g_dup (pc := 1) X rfl dX6_writeThing_1 ?_
  obtain ⟨k1, h⟩ := gd_i h
  refine g_getI (pc := 2) X FcX6 k1 9 (by decide) rfl q_241 dX6_writeThing_2 ?_
  refine g_iconst (pc := 5) X (v := 1) dX6_writeThing_5 rfl ?_
  refine g_iadd (pc := 6) X dX6_writeThing_6 ?_
  refine g_putI (pc := 7) X FcX6 k1 9 (by decide) rfl q_241 rfl rfl rfl dX6_writeThing_7 ?_
  obtain ⟨w2, e3, h⟩ := lb_i h
  refine g_w e3 ?_
  refine g_aload_n (pc := 10) X 0 rfl dX6_writeThing_10 ?_
  refine g_iload_n (pc := 11) X 1 rfl dX6_writeThing_11 ?_
  obtain ⟨r4, w5, h6, h⟩ := bd2_i h
  refine g_callV (pc := 12) X FcX6 (kd_I e3 k1) mk_X6_write q_793 q_14 q_791 (c_X6_write h6) rfl rfl (by rw [Y.2.1]; decide)  rfl (rest := []) rfl (Nat.le_of_ble_eq_true rfl) (by rw [Y.2.1]; exact ⟨Nat.le_of_ble_eq_true rfl, Nat.le_of_ble_eq_true rfl⟩) dX6_writeThing_12 (st' := []) rfl ?_
  refine g_aload_n (pc := 15) X 0 rfl dX6_writeThing_15 ?_
  obtain ⟨k7, h⟩ := gd_i h
  obtain ⟨r8, w9, h10, h⟩ := bd2_i h
  refine g_callV (pc := 16) X FcX6 k7 mk_X6_pieceStands q_797 q_15 q_795 (c_X6_pieceStands h10) rfl rfl (by rw [Y.2.1]; decide)  rfl (rest := []) rfl (Nat.le_of_ble_eq_true rfl) (by rw [Y.2.1]; exact ⟨Nat.le_of_ble_eq_true rfl, Nat.le_of_ble_eq_true rfl⟩) dX6_writeThing_16 (st' := []) rfl ?_
  obtain ⟨e1, e2⟩ := rt_i h
  exact g_vret (pc := 19) X Y.2.2.1 (Nat.le_of_ble_eq_true rfl) (Nat.le_of_ble_eq_true rfl) e2 dX6_writeThing_19

def L_X6_takesNumber_22  (n : Nat) (v0 : Nat) (v1 : Int32) (v2 : Int32) (w : Wd) : Option (Int32 × Wd) := match n with
  | 0 => none
  | n + 1 => (if wK w v0 = 6 then
 (if (wI w v0 4) ≤ v2 then
 (bd2 (f_X6_writeThing v0 v1 w) fun r5 w6 =>
 some (1, w6))
 else
 (bd1 (wR w v0 0) fun a8 =>
 (if aK 11 w a8 v2 = true then
 (lb_ (((v1 * 10) + (wI w a8 (nx v2))) - 48) fun x11 =>
 (lb_ (v2 + 1) fun x13 =>
 L_X6_takesNumber_22 n v0 x11 x13 w))
 else none)))
 else none)
theorem bL_X6_takesNumber_22 {t : Ct} {V : Vt} {r : Int32} {w' : Wd} (Y : Hd_ t V cX6_takesNumber 3 RX6 { frames := 3, cells := 0, slots := 0, locals := 62 } (some .boolean) "takesNumber") : ∀ {n : Nat} {v0 : Nat} {v1 : Int32} {v2 : Int32} {w : Wd}, L_X6_takesNumber_22  n v0 v1 v2 w = some (r, w') → Gd t V 3 0 0 (Qe t V (some (.int r)) w' 0 0) 22 [(0, rf V v0), (1, .int v1), (2, .int v2)] [] w := by
  have X := Y.1
  intro n
  induction n with
  | zero => intro v0 v1 v2 w h; cases h
  | succ n ih0 =>
    have ih : ∀ (v0 : Nat) (v1 : Int32) (v2 : Int32) (w : Wd), L_X6_takesNumber_22  n v0 v1 v2 w = some (r, w') → Gd t V 3 0 0 (Qe t V (some (.int r)) w' 0 0) 22 [(0, rf V v0), (1, .int v1), (2, .int v2)] [] w := fun v0 v1 v2 w h => ih0 h
    clear ih0
    intro v0 v1 v2 w h
    unfold L_X6_takesNumber_22 at h
    refine g_iload_n (pc := 22) X 2 rfl dX6_takesNumber_22 ?_
    refine g_aload_n (pc := 23) X 0 rfl dX6_takesNumber_23 ?_
    obtain ⟨k4, h⟩ := gd_i h
    refine g_getI (pc := 24) X FcX6 k4 4 (by decide) rfl q_236 dX6_takesNumber_24 ?_
    refine g_icmp_ge (pc := 27) X (tgt := 51) dX6_takesNumber_27 rfl (fun c => ?_) (fun c => ?_)
    · have h := br_y c h
      refine g_aload_n (pc := 51) X 0 rfl dX6_takesNumber_51 ?_
      refine g_iload_n (pc := 52) X 1 rfl dX6_takesNumber_52 ?_
      obtain ⟨r5, w6, h7, h⟩ := bd2_i h
      refine g_callV (pc := 53) X FcX6 k4 mk_X6_writeThing q_789 q_13 q_787 (c_X6_writeThing h7) rfl rfl (by rw [Y.2.1]; decide)  rfl (rest := []) rfl (Nat.le_of_ble_eq_true rfl) (by rw [Y.2.1]; exact ⟨Nat.le_of_ble_eq_true rfl, Nat.le_of_ble_eq_true rfl⟩) dX6_takesNumber_53 (st' := []) rfl ?_
      refine g_iconst (pc := 56) X (v := 1) dX6_takesNumber_56 rfl ?_
      obtain ⟨e1, e2⟩ := rt_i h
      exact g_zret (pc := 57) X Y.2.2.1 (Or.inr rfl) (Nat.le_of_ble_eq_true rfl) (Nat.le_of_ble_eq_true rfl) e1 e2 dX6_takesNumber_57
    · have h := br_n c h
      refine g_iload_n (pc := 30) X 1 rfl dX6_takesNumber_30 ?_
      refine g_bipush (pc := 31) X (v := 10) dX6_takesNumber_31 rfl ?_
      refine g_imul (pc := 33) X dX6_takesNumber_33 ?_
      refine g_aload_n (pc := 34) X 0 rfl dX6_takesNumber_34 ?_
      obtain ⟨a8, e9, h⟩ := bd1_i h
      refine g_getR (pc := 35) X FcX6 k4 0 e9 (by decide) rfl q_231 dX6_takesNumber_35 ?_
      refine g_iload_n (pc := 38) X 2 rfl dX6_takesNumber_38 ?_
      obtain ⟨k10, h⟩ := gd_i h
      refine g_iald (pc := 39) X k10 dX6_takesNumber_39 ?_
      refine g_iadd (pc := 40) X dX6_takesNumber_40 ?_
      refine g_bipush (pc := 41) X (v := 48) dX6_takesNumber_41 rfl ?_
      refine g_isub (pc := 43) X dX6_takesNumber_43 ?_
      obtain ⟨x11, e12, h⟩ := lb_i h
      refine g_top e12 ?_
      refine g_istore_n (pc := 44) X (lv' := [(1, .int x11), (0, rf V v0), (2, .int v2)]) dX6_takesNumber_44 (by decide) rfl ?_
      obtain ⟨x13, e14, h⟩ := lb_i h
      refine g_iinc (pc := 45) X 2 rfl dX6_takesNumber_45 (v := x13) e14.symm (by decide) (lv' := [(2, .int x13), (1, .int x11), (0, rf V v0)]) rfl ?_
      refine g_goto (pc := 48) X (tgt := 22) dX6_takesNumber_48 rfl ?_
      refine g_sub (lv' := [(0, rf V v0), (1, .int x11), (2, .int x13)]) [2, 1, 0] rfl ?_
      exact ih _ _ _ _ h

def f_X6_takesNumber (v0 : Nat) (w : Wd) : Option (Int32 × Wd) := (if wK w v0 = 6 then
 (if ((wI w v0 4) - (wI w v0 3)) ≤ 4 then
 (lb_ (wI w v0 3) fun x2 =>
 L_X6_takesNumber_22 FU v0 0 x2 w)
 else
 some (0, w))
 else none)
theorem c_X6_takesNumber {l : Launch} {V : Vt} {v0 : Nat} {w w' : Wd} {r : Int32} (h : f_X6_takesNumber v0 w = some (r, w')) : MetW l V yX6_takesNumber cX6_takesNumber 3 (some .boolean) { frames := 3, cells := 0, slots := 0, locals := 62 } w [rf V v0] (some (.int r)) w' 0 0 := by
  refine g_start (by decide) (Nat.le_of_ble_eq_true rfl) ?_
  intro t _ hrm X hret hnm
  have Y : Hd_ t V cX6_takesNumber 3 RX6 { frames := 3, cells := 0, slots := 0, locals := 62 } (some .boolean) "takesNumber" := ⟨X, hrm, hret, hnm⟩
  refine g_as (lv' := [(0, rf V v0)]) (st' := []) rfl rfl ?_
  unfold f_X6_takesNumber at h
  refine g_aload_n (pc := 0) X 0 rfl dX6_takesNumber_0 ?_
  obtain ⟨k1, h⟩ := gd_i h
  refine g_getI (pc := 1) X FcX6 k1 4 (by decide) rfl q_236 dX6_takesNumber_1 ?_
  refine g_aload_n (pc := 4) X 0 rfl dX6_takesNumber_4 ?_
  refine g_getI (pc := 5) X FcX6 k1 3 (by decide) rfl q_235 dX6_takesNumber_5 ?_
  refine g_isub (pc := 8) X dX6_takesNumber_8 ?_
  refine g_iconst (pc := 9) X (v := 4) dX6_takesNumber_9 rfl ?_
  refine g_icmp_le (pc := 10) X (tgt := 15) dX6_takesNumber_10 rfl (fun c => ?_) (fun c => ?_)
  · have h := br_y c h
    refine g_iconst (pc := 15) X (v := 0) dX6_takesNumber_15 rfl ?_
    refine g_istore_n (pc := 16) X (lv' := [(1, .int 0), (0, rf V v0)]) dX6_takesNumber_16 (by decide) rfl ?_
    refine g_aload_n (pc := 17) X 1 rfl dX6_takesNumber_17 ?_
    refine g_getI (pc := 18) X FcX6 k1 3 (by decide) rfl q_235 dX6_takesNumber_18 ?_
    obtain ⟨x2, e3, h⟩ := lb_i h
    refine g_top e3 ?_
    refine g_istore_n (pc := 21) X (lv' := [(2, .int x2), (1, .int 0), (0, rf V v0)]) dX6_takesNumber_21 (by decide) rfl ?_
    refine g_sub (lv' := [(0, rf V v0), (1, .int 0), (2, .int x2)]) [2, 1, 0] rfl ?_
    exact bL_X6_takesNumber_22 Y  h
  · have h := br_n c h
    refine g_iconst (pc := 13) X (v := 0) dX6_takesNumber_13 rfl ?_
    obtain ⟨e1, e2⟩ := rt_i h
    exact g_zret (pc := 14) X Y.2.2.1 (Or.inl rfl) (Nat.le_of_ble_eq_true rfl) (Nat.le_of_ble_eq_true rfl) e1 e2 dX6_takesNumber_14

def f_J1_canEncode_9a6ad (v0 : Int32) (w : Wd) : Option (Int32 × Wd) := some ((if v0 < 0 then 0 else (if 255 < v0 then 0 else 1 : Int32) : Int32), w)
theorem c_J1_canEncode_9a6ad {l : Launch} {V : Vt} {v0 : Int32} {w w' : Wd} {r : Int32} (h : f_J1_canEncode_9a6ad v0 w = some (r, w')) : MetW l V yJ1_canEncode_9a6ad cJ1_canEncode_9a6ad 1 (some .boolean) { frames := 0, cells := 0, slots := 0, locals := 0 } w [.int v0] (some (.int r)) w' 0 0 := by
  refine g_start (by decide) (Nat.le_of_ble_eq_true rfl) ?_
  intro t _ hrm X hret hnm
  have Y : Hd_ t V cJ1_canEncode_9a6ad 1 RJ1 { frames := 0, cells := 0, slots := 0, locals := 0 } (some .boolean) "canEncode" := ⟨X, hrm, hret, hnm⟩
  refine g_as (lv' := [(0, .int v0)]) (st' := []) rfl rfl ?_
  unfold f_J1_canEncode_9a6ad at h
  refine g_iload_n (pc := 0) X 0 rfl dJ1_canEncode_9a6ad_0 ?_
  have kJ : Gd t V 1 0 0 (Qe t V (some (.int r)) w' 0 0) 16 [(0, .int v0)] [.int (if v0 < 0 then 0 else (if 255 < v0 then 0 else 1 : Int32) : Int32)] w := by
    obtain ⟨e1, e2⟩ := rt_i h
    exact g_zret (pc := 16) X Y.2.2.1 (bz_ite (Or.inl rfl) (bz_ite (Or.inl rfl) (Or.inr rfl))) (Nat.le_of_ble_eq_true rfl) (Nat.le_of_ble_eq_true rfl) e1 e2 dJ1_canEncode_9a6ad_16
  refine g_if_lt (pc := 1) X (tgt := 15) dJ1_canEncode_9a6ad_1 rfl (fun c0 => ?_) (fun c0 => ?_)
  · refine g_iconst (pc := 15) X (v := 0) dJ1_canEncode_9a6ad_15 rfl ?_
    exact g_top (by rw [if_pos c0]) kJ
  · refine g_iload_n (pc := 4) X 0 rfl dJ1_canEncode_9a6ad_4 ?_
    refine g_sipush (pc := 5) X (v := 255) dJ1_canEncode_9a6ad_5 rfl ?_
    refine g_icmp_gt (pc := 8) X (tgt := 15) dJ1_canEncode_9a6ad_8 rfl (fun c1 => ?_) (fun c1 => ?_)
    · refine g_iconst (pc := 15) X (v := 0) dJ1_canEncode_9a6ad_15 rfl ?_
      exact g_top (by rw [if_neg c0, if_pos c1]) kJ
    · refine g_iconst (pc := 11) X (v := 1) dJ1_canEncode_9a6ad_11 rfl ?_
      refine g_goto (pc := 12) X (tgt := 16) dJ1_canEncode_9a6ad_12 rfl ?_
      exact g_top (by rw [if_neg c0, if_neg c1]) kJ

def L_J1_indexOfChar_4cfef_7  (n : Nat) (v0 : Nat) (v3 : Int32) (v4 : Int32) (v5 : Int32) (w : Wd) : Option (Int32 × Wd) := match n with
  | 0 => none
  | n + 1 => (if v3 ≤ v5 then
 some ((-1), w)
 else
 (if v0 < 6 then
 (if ib v5 (stN.getD v0 0) = true then
 (if ((stB.getD v0 []).getD (nx v5) 0) = v4 then
 some (v5, w)
 else
 (lb_ (v5 + 1) fun x5 =>
 L_J1_indexOfChar_4cfef_7 n v0 v3 v4 x5 w))
 else none)
 else none))
theorem bL_J1_indexOfChar_4cfef_7 {t : Ct} {V : Vt} {r : Int32} {w' : Wd} (Y : Hd_ t V cJ1_indexOfChar_4cfef 6 RJ1 { frames := 0, cells := 0, slots := 0, locals := 0 } (some .int) "indexOfChar") : ∀ {n : Nat} {v0 : Nat} {v3 : Int32} {v4 : Int32} {v5 : Int32} {w : Wd}, L_J1_indexOfChar_4cfef_7  n v0 v3 v4 v5 w = some (r, w') → Gd t V 6 0 0 (Qe t V (some (.int r)) w' 0 0) 7 [(0, .ref (V.2.2.2 (20 + v0))), (3, .int v3), (4, .int v4), (5, .int v5)] [] w := by
  have X := Y.1
  intro n
  induction n with
  | zero => intro v0 v3 v4 v5 w h; cases h
  | succ n ih0 =>
    have ih : ∀ (v0 : Nat) (v3 : Int32) (v4 : Int32) (v5 : Int32) (w : Wd), L_J1_indexOfChar_4cfef_7  n v0 v3 v4 v5 w = some (r, w') → Gd t V 6 0 0 (Qe t V (some (.int r)) w' 0 0) 7 [(0, .ref (V.2.2.2 (20 + v0))), (3, .int v3), (4, .int v4), (5, .int v5)] [] w := fun v0 v3 v4 v5 w h => ih0 h
    clear ih0
    intro v0 v3 v4 v5 w h
    unfold L_J1_indexOfChar_4cfef_7 at h
    refine g_iload (pc := 7) X 3 rfl dJ1_indexOfChar_4cfef_7 ?_
    refine g_iload_n (pc := 9) X 1 rfl dJ1_indexOfChar_4cfef_9 ?_
    refine g_icmp_ge (pc := 10) X (tgt := 31) dJ1_indexOfChar_4cfef_10 rfl (fun c => ?_) (fun c => ?_)
    · have h := br_y c h
      refine g_iconst (pc := 31) X (v := (-1)) dJ1_indexOfChar_4cfef_31 rfl ?_
      obtain ⟨e1, e2⟩ := rt_i h
      exact g_iret (pc := 32) X Y.2.2.1 (Nat.le_of_ble_eq_true rfl) (Nat.le_of_ble_eq_true rfl) e1 e2 dJ1_indexOfChar_4cfef_32
    · have h := br_n c h
      refine g_aload_nS (pc := 13) X 0 rfl dJ1_indexOfChar_4cfef_13 ?_
      refine g_iload (pc := 14) X 3 rfl dJ1_indexOfChar_4cfef_14 ?_
      obtain ⟨k4, h⟩ := gd_i h
      obtain ⟨k3, h⟩ := gd_i h
      refine g_baloadS (pc := 16) X k4 k3 dJ1_indexOfChar_4cfef_16 ?_
      refine g_iload (pc := 17) X 2 rfl dJ1_indexOfChar_4cfef_17 ?_
      refine g_icmp_ne (pc := 19) X (tgt := 25) dJ1_indexOfChar_4cfef_19 rfl (fun c => ?_) (fun c => ?_)
      · have h := br_n c h
        obtain ⟨x5, e6, h⟩ := lb_i h
        refine g_iinc (pc := 25) X 3 rfl dJ1_indexOfChar_4cfef_25 (v := x5) e6.symm (by decide) (lv' := [(5, .int x5), (0, .ref (V.2.2.2 (20 + v0))), (3, .int v3), (4, .int v4)]) rfl ?_
        refine g_goto (pc := 28) X (tgt := 7) dJ1_indexOfChar_4cfef_28 rfl ?_
        refine g_sub (lv' := [(0, .ref (V.2.2.2 (20 + v0))), (3, .int v3), (4, .int v4), (5, .int x5)]) [1, 2, 3, 0] rfl ?_
        exact ih _ _ _ _ _ h
      · have h := br_y c h
        refine g_iload (pc := 22) X 3 rfl dJ1_indexOfChar_4cfef_22 ?_
        obtain ⟨e1, e2⟩ := rt_i h
        exact g_iret (pc := 24) X Y.2.2.1 (Nat.le_of_ble_eq_true rfl) (Nat.le_of_ble_eq_true rfl) e1 e2 dJ1_indexOfChar_4cfef_24

def f_J1_indexOfChar_4cfef (v0 : Nat) (v1 : Int32) (v2 : Int32) (v3 : Int32) (w : Wd) : Option (Int32 × Wd) := (lb_ (Int8.toInt32 (Int32.toInt8 v1)) fun x1 =>
 L_J1_indexOfChar_4cfef_7 FU v0 v3 x1 v2 w)
theorem c_J1_indexOfChar_4cfef {l : Launch} {V : Vt} {v0 : Nat} {v1 : Int32} {v2 : Int32} {v3 : Int32} {w w' : Wd} {r : Int32} (h : f_J1_indexOfChar_4cfef v0 v1 v2 v3 w = some (r, w')) : MetW l V yJ1_indexOfChar_4cfef cJ1_indexOfChar_4cfef 6 (some .int) { frames := 0, cells := 0, slots := 0, locals := 0 } w [.ref (V.2.2.2 (20 + v0)), .int v1, .int v2, .int v3] (some (.int r)) w' 0 0 := by
  refine g_start (by decide) (Nat.le_of_ble_eq_true rfl) ?_
  intro t _ hrm X hret hnm
  have Y : Hd_ t V cJ1_indexOfChar_4cfef 6 RJ1 { frames := 0, cells := 0, slots := 0, locals := 0 } (some .int) "indexOfChar" := ⟨X, hrm, hret, hnm⟩
  refine g_as (lv' := [(0, .ref (V.2.2.2 (20 + v0))), (1, .int v1), (2, .int v2), (3, .int v3)]) (st' := []) rfl rfl ?_
  unfold f_J1_indexOfChar_4cfef at h
  refine g_iload_n (pc := 0) X 1 rfl dJ1_indexOfChar_4cfef_0 ?_
  refine g_i2b (pc := 1) X dJ1_indexOfChar_4cfef_1 ?_
  obtain ⟨x1, e2, h⟩ := lb_i h
  refine g_top e2 ?_
  refine g_istore (pc := 2) X (lv' := [(4, .int x1), (0, .ref (V.2.2.2 (20 + v0))), (1, .int v1), (2, .int v2), (3, .int v3)]) dJ1_indexOfChar_4cfef_2 (by decide) rfl ?_
  refine g_iload_n (pc := 4) X 3 rfl dJ1_indexOfChar_4cfef_4 ?_
  refine g_istore (pc := 5) X (lv' := [(5, .int v2), (4, .int x1), (0, .ref (V.2.2.2 (20 + v0))), (1, .int v1), (2, .int v2), (3, .int v3)]) dJ1_indexOfChar_4cfef_5 (by decide) rfl ?_
  refine g_sub (lv' := [(0, .ref (V.2.2.2 (20 + v0))), (3, .int v3), (4, .int x1), (5, .int v2)]) [2, 5, 1, 0] rfl ?_
  exact bL_J1_indexOfChar_4cfef_7 Y  h

def f_J1_indexOf_4cfef (v0 : Nat) (v1 : Int32) (v2 : Int32) (v3 : Int32) (w : Wd) : Option (Int32 × Wd) := (bd2 (f_J1_canEncode_9a6ad v1 w) fun r1 w2 =>
 (if r1 = 0 then
 some ((-1), w2)
 else
 (lb_ (if v2 < 0 then 0 else v2) fun x4 =>
 (if v0 < 6 then
 (lb_ (if nI (stN.getD v0 0) < v3 then nI (stN.getD v0 0) else v3) fun x7 =>
 (if x4 < x7 then
 (bd2 (f_J1_indexOfChar_4cfef v0 v1 x4 x7 w2) fun r9 w10 =>
 some (r9, w10))
 else
 some ((-1), w2)))
 else none))))
theorem c_J1_indexOf_4cfef {l : Launch} {V : Vt} {v0 : Nat} {v1 : Int32} {v2 : Int32} {v3 : Int32} {w w' : Wd} {r : Int32} (h : f_J1_indexOf_4cfef v0 v1 v2 v3 w = some (r, w')) : MetW l V yJ1_indexOf_4cfef cJ1_indexOf_4cfef 4 (some .int) { frames := 1, cells := 0, slots := 0, locals := 25 } w [.ref (V.2.2.2 (20 + v0)), .int v1, .int v2, .int v3] (some (.int r)) w' 0 0 := by
  refine g_start (by decide) (Nat.le_of_ble_eq_true rfl) ?_
  intro t _ hrm X hret hnm
  have Y : Hd_ t V cJ1_indexOf_4cfef 4 RJ1 { frames := 1, cells := 0, slots := 0, locals := 25 } (some .int) "indexOf" := ⟨X, hrm, hret, hnm⟩
  refine g_as (lv' := [(0, .ref (V.2.2.2 (20 + v0))), (1, .int v1), (2, .int v2), (3, .int v3)]) (st' := []) rfl rfl ?_
  unfold f_J1_indexOf_4cfef at h
  refine g_iload_n (pc := 0) X 1 rfl dJ1_indexOf_4cfef_0 ?_
  obtain ⟨r1, w2, h3, h⟩ := bd2_i h
  refine g_callS (pc := 1) X mk_J1_canEncode_9a6ad q_819 q_818 (c_J1_canEncode_9a6ad h3) rfl rfl (by rw [Y.2.1]; decide)  rfl (rest := []) rfl (Nat.le_of_ble_eq_true rfl) (by rw [Y.2.1]; exact ⟨Nat.le_of_ble_eq_true rfl, Nat.le_of_ble_eq_true rfl⟩) dJ1_indexOf_4cfef_1 (st' := [.int r1]) rfl ?_
  refine g_if_ne (pc := 4) X (tgt := 9) dJ1_indexOf_4cfef_4 rfl (fun c => ?_) (fun c => ?_)
  · have h := br_n c h
    refine g_iload_n (pc := 9) X 2 rfl dJ1_indexOf_4cfef_9 ?_
    refine g_iconst (pc := 10) X (v := 0) dJ1_indexOf_4cfef_10 rfl ?_
    refine g_mmax (pc := 11) X q_821 q_822 q_75 q_823 (by rw [Y.2.1]; decide) (by rw [Y.2.1]; exact Nat.le_of_ble_eq_true rfl) (by rw [Y.2.1]; exact ⟨Nat.le_of_ble_eq_true rfl, Nat.le_of_ble_eq_true rfl⟩) dJ1_indexOf_4cfef_11 ?_
    obtain ⟨x4, e5, h⟩ := lb_i h
    refine g_top e5 ?_
    refine g_istore_n (pc := 14) X (lv' := [(2, .int x4), (0, .ref (V.2.2.2 (20 + v0))), (1, .int v1), (3, .int v3)]) dJ1_indexOf_4cfef_14 (by decide) rfl ?_
    refine g_iload_n (pc := 15) X 3 rfl dJ1_indexOf_4cfef_15 ?_
    refine g_aload_nS (pc := 16) X 1 rfl dJ1_indexOf_4cfef_16 ?_
    obtain ⟨k6, h⟩ := gd_i h
    refine g_alenS (pc := 17) X k6 dJ1_indexOf_4cfef_17 ?_
    refine g_mmin (pc := 18) X q_824 q_532 q_75 q_533 (by rw [Y.2.1]; decide) (by rw [Y.2.1]; exact Nat.le_of_ble_eq_true rfl) (by rw [Y.2.1]; exact ⟨Nat.le_of_ble_eq_true rfl, Nat.le_of_ble_eq_true rfl⟩) dJ1_indexOf_4cfef_18 ?_
    obtain ⟨x7, e8, h⟩ := lb_i h
    refine g_top e8 ?_
    refine g_istore_n (pc := 21) X (lv' := [(3, .int x7), (2, .int x4), (0, .ref (V.2.2.2 (20 + v0))), (1, .int v1)]) dJ1_indexOf_4cfef_21 (by decide) rfl ?_
    refine g_iload_n (pc := 22) X 1 rfl dJ1_indexOf_4cfef_22 ?_
    refine g_iload_n (pc := 23) X 0 rfl dJ1_indexOf_4cfef_23 ?_
    refine g_icmp_lt (pc := 24) X (tgt := 29) dJ1_indexOf_4cfef_24 rfl (fun c => ?_) (fun c => ?_)
    · have h := br_y c h
      refine g_aload_nS (pc := 29) X 2 rfl dJ1_indexOf_4cfef_29 ?_
      refine g_iload_n (pc := 30) X 3 rfl dJ1_indexOf_4cfef_30 ?_
      refine g_iload_n (pc := 31) X 1 rfl dJ1_indexOf_4cfef_31 ?_
      refine g_iload_n (pc := 32) X 0 rfl dJ1_indexOf_4cfef_32 ?_
      obtain ⟨r9, w10, h11, h⟩ := bd2_i h
      refine g_callS (pc := 33) X mk_J1_indexOfChar_4cfef q_826 q_825 (c_J1_indexOfChar_4cfef h11) rfl rfl (by rw [Y.2.1]; decide)  rfl (rest := []) rfl (Nat.le_of_ble_eq_true rfl) (by rw [Y.2.1]; exact ⟨Nat.le_of_ble_eq_true rfl, Nat.le_of_ble_eq_true rfl⟩) dJ1_indexOf_4cfef_33 (st' := [.int r9]) rfl ?_
      obtain ⟨e1, e2⟩ := rt_i h
      exact g_iret (pc := 36) X Y.2.2.1 (Nat.le_of_ble_eq_true rfl) (Nat.le_of_ble_eq_true rfl) e1 e2 dJ1_indexOf_4cfef_36
    · have h := br_n c h
      refine g_iconst (pc := 27) X (v := (-1)) dJ1_indexOf_4cfef_27 rfl ?_
      obtain ⟨e1, e2⟩ := rt_i h
      exact g_iret (pc := 28) X Y.2.2.1 (Nat.le_of_ble_eq_true rfl) (Nat.le_of_ble_eq_true rfl) e1 e2 dJ1_indexOf_4cfef_28
  · have h := br_y c h
    refine g_iconst (pc := 7) X (v := (-1)) dJ1_indexOf_4cfef_7 rfl ?_
    obtain ⟨e1, e2⟩ := rt_i h
    exact g_iret (pc := 8) X Y.2.2.1 (Nat.le_of_ble_eq_true rfl) (Nat.le_of_ble_eq_true rfl) e1 e2 dJ1_indexOf_4cfef_8

def f_J0_indexOf_7cf53 (v0 : Nat) (v1 : Int32) (v2 : Int32) (w : Wd) : Option (Int32 × Wd) := (if v0 < 6 then
 (bd2 (f_J0_isLatin1_aae02 v0 w) fun r2 w3 =>
 (if r2 = 0 then
 (if v0 < 6 then
 (if v0 < 6 then
 (bd2 (f_J0_length_8abf5 v0 w3) fun r7 w8 =>
 none)
 else none)
 else none)
 else
 (if v0 < 6 then
 (if v0 < 6 then
 (bd2 (f_J0_length_8abf5 v0 w3) fun r12 w13 =>
 (bd2 (f_J1_indexOf_4cfef v0 v1 v2 r12 w13) fun r15 w16 =>
 some (r15, w16)))
 else none)
 else none)))
 else none)
theorem c_J0_indexOf_7cf53 {l : Launch} {V : Vt} {v0 : Nat} {v1 : Int32} {v2 : Int32} {w w' : Wd} {r : Int32} (h : f_J0_indexOf_7cf53 v0 v1 v2 w = some (r, w')) : MetW l V yJ0_indexOf_7cf53 cJ0_indexOf_7cf53 3 (some .int) { frames := 2, cells := 0, slots := 0, locals := 48 } w [.ref (V.2.2.2 (10 + v0)), .int v1, .int v2] (some (.int r)) w' 0 0 := by
  refine g_start (by decide) (Nat.le_of_ble_eq_true rfl) ?_
  intro t _ hrm X hret hnm
  have Y : Hd_ t V cJ0_indexOf_7cf53 3 RJ0 { frames := 2, cells := 0, slots := 0, locals := 48 } (some .int) "indexOf" := ⟨X, hrm, hret, hnm⟩
  refine g_as (lv' := [(0, .ref (V.2.2.2 (10 + v0))), (1, .int v1), (2, .int v2)]) (st' := []) rfl rfl ?_
  unfold f_J0_indexOf_7cf53 at h
  refine g_aload_nS (pc := 0) X 0 rfl dJ0_indexOf_7cf53_0 ?_
  obtain ⟨k1, h⟩ := gd_i h
  obtain ⟨r2, w3, h4, h⟩ := bd2_i h
  refine g_callT (pc := 1) X k1 rfl mk_J0_isLatin1_aae02 q_744 q_745 q_743 (c_J0_isLatin1_aae02 h4) rfl rfl (by rw [Y.2.1]; decide)  rfl (rest := []) rfl (Nat.le_of_ble_eq_true rfl) (by rw [Y.2.1]; exact ⟨Nat.le_of_ble_eq_true rfl, Nat.le_of_ble_eq_true rfl⟩) dJ0_indexOf_7cf53_1 (st' := [.int r2]) rfl ?_
  refine g_if_eq (pc := 4) X (tgt := 23) dJ0_indexOf_7cf53_4 rfl (fun c => ?_) (fun c => ?_)
  · have h := br_y c h
    refine g_aload_nS (pc := 23) X 0 rfl dJ0_indexOf_7cf53_23 ?_
    obtain ⟨k5, h⟩ := gd_i h
    refine g_strV (pc := 24) X k5 q_1508 dJ0_indexOf_7cf53_24 ?_
    refine g_iload_n (pc := 27) X 1 rfl dJ0_indexOf_7cf53_27 ?_
    refine g_iload_n (pc := 28) X 2 rfl dJ0_indexOf_7cf53_28 ?_
    refine g_aload_nS (pc := 29) X 0 rfl dJ0_indexOf_7cf53_29 ?_
    obtain ⟨k6, h⟩ := gd_i h
    obtain ⟨r7, w8, h9, h⟩ := bd2_i h
    refine g_callT (pc := 30) X k6 rfl mk_J0_length_8abf5 q_730 q_731 q_814 (c_J0_length_8abf5 h9) rfl rfl (by rw [Y.2.1]; decide)  rfl (rest := [.int v2, .int v1, .ref (V.2.2.2 (20 + v0))]) rfl (Nat.le_of_ble_eq_true rfl) (by rw [Y.2.1]; exact ⟨Nat.le_of_ble_eq_true rfl, Nat.le_of_ble_eq_true rfl⟩) dJ0_indexOf_7cf53_30 (st' := [.int r7, .int v2, .int v1, .ref (V.2.2.2 (20 + v0))]) rfl ?_
    cases h
  · have h := br_n c h
    refine g_aload_nS (pc := 7) X 0 rfl dJ0_indexOf_7cf53_7 ?_
    obtain ⟨k10, h⟩ := gd_i h
    refine g_strV (pc := 8) X k10 q_1508 dJ0_indexOf_7cf53_8 ?_
    refine g_iload_n (pc := 11) X 1 rfl dJ0_indexOf_7cf53_11 ?_
    refine g_iload_n (pc := 12) X 2 rfl dJ0_indexOf_7cf53_12 ?_
    refine g_aload_nS (pc := 13) X 0 rfl dJ0_indexOf_7cf53_13 ?_
    obtain ⟨k11, h⟩ := gd_i h
    obtain ⟨r12, w13, h14, h⟩ := bd2_i h
    refine g_callT (pc := 14) X k11 rfl mk_J0_length_8abf5 q_730 q_731 q_814 (c_J0_length_8abf5 h14) rfl rfl (by rw [Y.2.1]; decide)  rfl (rest := [.int v2, .int v1, .ref (V.2.2.2 (20 + v0))]) rfl (Nat.le_of_ble_eq_true rfl) (by rw [Y.2.1]; exact ⟨Nat.le_of_ble_eq_true rfl, Nat.le_of_ble_eq_true rfl⟩) dJ0_indexOf_7cf53_14 (st' := [.int r12, .int v2, .int v1, .ref (V.2.2.2 (20 + v0))]) rfl ?_
    obtain ⟨r15, w16, h17, h⟩ := bd2_i h
    refine g_callS (pc := 17) X mk_J1_indexOf_4cfef q_816 q_815 (c_J1_indexOf_4cfef h17) rfl rfl (by rw [Y.2.1]; decide)  rfl (rest := []) rfl (Nat.le_of_ble_eq_true rfl) (by rw [Y.2.1]; exact ⟨Nat.le_of_ble_eq_true rfl, Nat.le_of_ble_eq_true rfl⟩) dJ0_indexOf_7cf53_17 (st' := [.int r15]) rfl ?_
    refine g_goto (pc := 20) X (tgt := 36) dJ0_indexOf_7cf53_20 rfl ?_
    obtain ⟨e1, e2⟩ := rt_i h
    exact g_iret (pc := 36) X Y.2.2.1 (Nat.le_of_ble_eq_true rfl) (Nat.le_of_ble_eq_true rfl) e1 e2 dJ0_indexOf_7cf53_36

def f_J0_indexOf_0f7a4 (v0 : Nat) (v1 : Int32) (w : Wd) : Option (Int32 × Wd) := (if v0 < 6 then
 (bd2 (f_J0_indexOf_7cf53 v0 v1 0 w) fun r2 w3 =>
 some (r2, w3))
 else none)
theorem c_J0_indexOf_0f7a4 {l : Launch} {V : Vt} {v0 : Nat} {v1 : Int32} {w w' : Wd} {r : Int32} (h : f_J0_indexOf_0f7a4 v0 v1 w = some (r, w')) : MetW l V yJ0_indexOf_0f7a4 cJ0_indexOf_0f7a4 2 (some .int) { frames := 3, cells := 0, slots := 0, locals := 70 } w [.ref (V.2.2.2 (10 + v0)), .int v1] (some (.int r)) w' 0 0 := by
  refine g_start (by decide) (Nat.le_of_ble_eq_true rfl) ?_
  intro t _ hrm X hret hnm
  have Y : Hd_ t V cJ0_indexOf_0f7a4 2 RJ0 { frames := 3, cells := 0, slots := 0, locals := 70 } (some .int) "indexOf" := ⟨X, hrm, hret, hnm⟩
  refine g_as (lv' := [(0, .ref (V.2.2.2 (10 + v0))), (1, .int v1)]) (st' := []) rfl rfl ?_
  unfold f_J0_indexOf_0f7a4 at h
  refine g_aload_nS (pc := 0) X 0 rfl dJ0_indexOf_0f7a4_0 ?_
  refine g_iload_n (pc := 1) X 1 rfl dJ0_indexOf_0f7a4_1 ?_
  refine g_iconst (pc := 2) X (v := 0) dJ0_indexOf_0f7a4_2 rfl ?_
  obtain ⟨k1, h⟩ := gd_i h
  obtain ⟨r2, w3, h4, h⟩ := bd2_i h
  refine g_callT (pc := 3) X k1 rfl mk_J0_indexOf_7cf53 q_811 q_812 q_810 (c_J0_indexOf_7cf53 h4) rfl rfl (by rw [Y.2.1]; decide)  rfl (rest := []) rfl (Nat.le_of_ble_eq_true rfl) (by rw [Y.2.1]; exact ⟨Nat.le_of_ble_eq_true rfl, Nat.le_of_ble_eq_true rfl⟩) dJ0_indexOf_0f7a4_3 (st' := [.int r2]) rfl ?_
  obtain ⟨e1, e2⟩ := rt_i h
  exact g_iret (pc := 6) X Y.2.2.1 (Nat.le_of_ble_eq_true rfl) (Nat.le_of_ble_eq_true rfl) e1 e2 dJ0_indexOf_0f7a4_6

def j_X6_takesName_59  (v0 : Nat) (s0 : Int32) (w : Wd) : Option (Int32 × Wd) := (if 0 ≤ s0 then
 (if wK w v0 = 6 then
 (bd2 (f_X6_writeThing v0 ((-1) - s0) w) fun r4 w5 =>
 some (1, w5))
 else none)
 else
 some (0, w))
theorem bj_X6_takesName_59 {t : Ct} {V : Vt} {r : Int32} {w' : Wd} (Y : Hd_ t V cX6_takesName 3 RX6 { frames := 4, cells := 0, slots := 0, locals := 91 } (some .boolean) "takesName") {v0 : Nat} {s0 : Int32} {w : Wd} (h : j_X6_takesName_59  v0 s0 w = some (r, w')) : Gd t V 3 0 0 (Qe t V (some (.int r)) w' 0 0) 59 [(0, rf V v0)] [.int s0] w := by
  have X := Y.1
  unfold j_X6_takesName_59 at h
  refine g_istore_n (pc := 59) X (lv' := [(2, .int s0), (0, rf V v0)]) dX6_takesName_59 (by decide) rfl ?_
  refine g_iload_n (pc := 60) X 0 rfl dX6_takesName_60 ?_
  refine g_if_ge (pc := 61) X (tgt := 66) dX6_takesName_61 rfl (fun c => ?_) (fun c => ?_)
  · have h := br_y c h
    refine g_aload_n (pc := 66) X 1 rfl dX6_takesName_66 ?_
    refine g_iconst (pc := 67) X (v := (-1)) dX6_takesName_67 rfl ?_
    refine g_iload_n (pc := 68) X 0 rfl dX6_takesName_68 ?_
    refine g_isub (pc := 69) X dX6_takesName_69 ?_
    obtain ⟨k3, h⟩ := gd_i h
    obtain ⟨r4, w5, h6, h⟩ := bd2_i h
    refine g_callV (pc := 70) X FcX6 k3 mk_X6_writeThing q_789 q_13 q_787 (c_X6_writeThing h6) rfl rfl (by rw [Y.2.1]; decide)  rfl (rest := []) rfl (Nat.le_of_ble_eq_true rfl) (by rw [Y.2.1]; exact ⟨Nat.le_of_ble_eq_true rfl, Nat.le_of_ble_eq_true rfl⟩) dX6_takesName_70 (st' := []) rfl ?_
    refine g_iconst (pc := 73) X (v := 1) dX6_takesName_73 rfl ?_
    obtain ⟨e1, e2⟩ := rt_i h
    exact g_zret (pc := 74) X Y.2.2.1 (Or.inr rfl) (Nat.le_of_ble_eq_true rfl) (Nat.le_of_ble_eq_true rfl) e1 e2 dX6_takesName_74
  · have h := br_n c h
    refine g_iconst (pc := 64) X (v := 0) dX6_takesName_64 rfl ?_
    obtain ⟨e1, e2⟩ := rt_i h
    exact g_zret (pc := 65) X Y.2.2.1 (Or.inl rfl) (Nat.le_of_ble_eq_true rfl) (Nat.le_of_ble_eq_true rfl) e1 e2 dX6_takesName_65

def j_X6_takesName_27  (v0 : Nat) (s0 : Nat) (w : Wd) : Option (Int32 × Wd) := (if wK w v0 = 6 then
 (if ((wI w v0 4) - (wI w v0 3)) = 1 then
 (bd1 (wR w v0 0) fun a7 =>
 (if aK 11 w a7 (wI w v0 3) = true then
 (if s0 < 6 then
 (bd2 (f_J0_indexOf_0f7a4 s0 (i2c_ (wI w a7 (nx (wI w v0 3)))) w) fun r11 w12 =>
 j_X6_takesName_59 v0 r11 w12)
 else none)
 else none))
 else
 j_X6_takesName_59 v0 (-1) w)
 else none)
theorem bj_X6_takesName_27 {t : Ct} {V : Vt} {r : Int32} {w' : Wd} (Y : Hd_ t V cX6_takesName 3 RX6 { frames := 4, cells := 0, slots := 0, locals := 91 } (some .boolean) "takesName") {v0 : Nat} {s0 : Nat} {w : Wd} (h : j_X6_takesName_27  v0 s0 w = some (r, w')) : Gd t V 3 0 0 (Qe t V (some (.int r)) w' 0 0) 27 [(0, rf V v0)] [.ref (V.2.2.2 (10 + s0))] w := by
  have X := Y.1
  unfold j_X6_takesName_27 at h
  refine g_astore_nS (pc := 27) X (lv' := [(1, .ref (V.2.2.2 (10 + s0))), (0, rf V v0)]) dX6_takesName_27 (by decide) rfl ?_
  refine g_aload_n (pc := 28) X 1 rfl dX6_takesName_28 ?_
  obtain ⟨k2, h⟩ := gd_i h
  refine g_getI (pc := 29) X FcX6 k2 4 (by decide) rfl q_236 dX6_takesName_29 ?_
  refine g_aload_n (pc := 32) X 1 rfl dX6_takesName_32 ?_
  refine g_getI (pc := 33) X FcX6 k2 3 (by decide) rfl q_235 dX6_takesName_33 ?_
  refine g_isub (pc := 36) X dX6_takesName_36 ?_
  refine g_iconst (pc := 37) X (v := 1) dX6_takesName_37 rfl ?_
  refine g_icmp_ne (pc := 38) X (tgt := 58) dX6_takesName_38 rfl (fun c => ?_) (fun c => ?_)
  · have h := br_n c h
    refine g_iconst (pc := 58) X (v := (-1)) dX6_takesName_58 rfl ?_
    refine g_sub (lv' := [(0, rf V v0)]) [1] rfl ?_
    exact bj_X6_takesName_59 Y  h
  · have h := br_y c h
    refine g_aload_nS (pc := 41) X 0 rfl dX6_takesName_41 ?_
    refine g_aload_n (pc := 42) X 1 rfl dX6_takesName_42 ?_
    obtain ⟨a7, e8, h⟩ := bd1_i h
    refine g_getR (pc := 43) X FcX6 k2 0 e8 (by decide) rfl q_231 dX6_takesName_43 ?_
    refine g_aload_n (pc := 46) X 1 rfl dX6_takesName_46 ?_
    refine g_getI (pc := 47) X FcX6 k2 3 (by decide) rfl q_235 dX6_takesName_47 ?_
    obtain ⟨k9, h⟩ := gd_i h
    refine g_iald (pc := 50) X k9 dX6_takesName_50 ?_
    refine g_i2c (pc := 51) X dX6_takesName_51 ?_
    obtain ⟨k10, h⟩ := gd_i h
    obtain ⟨r11, w12, h13, h⟩ := bd2_i h
    refine g_callT (pc := 52) X k10 rfl mk_J0_indexOf_0f7a4 q_807 q_808 q_806 (c_J0_indexOf_0f7a4 h13) rfl rfl (by rw [Y.2.1]; decide)  rfl (rest := []) rfl (Nat.le_of_ble_eq_true rfl) (by rw [Y.2.1]; exact ⟨Nat.le_of_ble_eq_true rfl, Nat.le_of_ble_eq_true rfl⟩) dX6_takesName_52 (st' := [.int r11]) rfl ?_
    refine g_goto (pc := 55) X (tgt := 59) dX6_takesName_55 rfl ?_
    refine g_sub (lv' := [(0, rf V v0)]) [1] rfl ?_
    exact bj_X6_takesName_59 Y  h

def f_X6_takesName (v0 : Nat) (w : Wd) : Option (Int32 × Wd) := (if wK w v0 = 6 then
 (if (wI w v0 5) = 0 then
 j_X6_takesName_27 v0 3 w
 else
 (if (wI w v0 5) = 1 then
 j_X6_takesName_27 v0 4 w
 else
 j_X6_takesName_27 v0 5 w))
 else none)
theorem c_X6_takesName {l : Launch} {V : Vt} {v0 : Nat} {w w' : Wd} {r : Int32} (h : f_X6_takesName v0 w = some (r, w')) : MetW l V yX6_takesName cX6_takesName 3 (some .boolean) { frames := 4, cells := 0, slots := 0, locals := 91 } w [rf V v0] (some (.int r)) w' 0 0 := by
  refine g_start (by decide) (Nat.le_of_ble_eq_true rfl) ?_
  intro t _ hrm X hret hnm
  have Y : Hd_ t V cX6_takesName 3 RX6 { frames := 4, cells := 0, slots := 0, locals := 91 } (some .boolean) "takesName" := ⟨X, hrm, hret, hnm⟩
  refine g_as (lv' := [(0, rf V v0)]) (st' := []) rfl rfl ?_
  unfold f_X6_takesName at h
  refine g_aload_n (pc := 0) X 0 rfl dX6_takesName_0 ?_
  obtain ⟨k1, h⟩ := gd_i h
  refine g_getI (pc := 1) X FcX6 k1 5 (by decide) rfl q_237 dX6_takesName_1 ?_
  refine g_if_ne (pc := 4) X (tgt := 12) dX6_takesName_4 rfl (fun c => ?_) (fun c => ?_)
  · have h := br_n c h
    refine g_aload_n (pc := 12) X 0 rfl dX6_takesName_12 ?_
    refine g_getI (pc := 13) X FcX6 k1 5 (by decide) rfl q_237 dX6_takesName_13 ?_
    refine g_iconst (pc := 16) X (v := 1) dX6_takesName_16 rfl ?_
    refine g_icmp_ne (pc := 17) X (tgt := 25) dX6_takesName_17 rfl (fun c => ?_) (fun c => ?_)
    · have h := br_n c h
      refine g_ldcS (pc := 25) X 5 (by decide) dX6_takesName_25 rfl ?_
      refine g_sub (lv' := [(0, rf V v0)]) [0] rfl ?_
      exact bj_X6_takesName_27 Y  h
    · have h := br_y c h
      refine g_ldcS (pc := 20) X 4 (by decide) dX6_takesName_20 rfl ?_
      refine g_goto (pc := 22) X (tgt := 27) dX6_takesName_22 rfl ?_
      refine g_sub (lv' := [(0, rf V v0)]) [0] rfl ?_
      exact bj_X6_takesName_27 Y  h
  · have h := br_y c h
    refine g_ldcS (pc := 7) X 3 (by decide) dX6_takesName_7 rfl ?_
    refine g_goto (pc := 9) X (tgt := 27) dX6_takesName_9 rfl ?_
    refine g_sub (lv' := [(0, rf V v0)]) [0] rfl ?_
    exact bj_X6_takesName_27 Y  h

def f_X6_hold (v0 : Nat) (v1 : Int32) (w : Wd) : Option (Unit × Wd) := (if wK w v0 = 6 then
 (if 96 ≤ (wI w v0 11) then
 some ((), w)
 else
 (bd1 (wR w v0 10) fun a2 =>
 (if aK 11 w a2 (wI w v0 11) = true then
 (lb_ (sI w a2 (nx (wI w v0 11)) v1) fun w5 =>
 (lb_ (sI w5 v0 11 ((wI w5 v0 11) + 1)) fun w7 =>
 some ((), w7)))
 else none)))
 else none)
theorem c_X6_hold {l : Launch} {V : Vt} {v0 : Nat} {v1 : Int32} {w w' : Wd} {r : Unit} (h : f_X6_hold v0 v1 w = some (r, w')) : MetW l V yX6_hold cX6_hold 2 (none) { frames := 0, cells := 0, slots := 0, locals := 0 } w [rf V v0, .int v1] none w' 0 0 := by
  refine g_start (by decide) (Nat.le_of_ble_eq_true rfl) ?_
  intro t _ hrm X hret hnm
  have Y : Hd_ t V cX6_hold 2 RX6 { frames := 0, cells := 0, slots := 0, locals := 0 } (none) "hold" := ⟨X, hrm, hret, hnm⟩
  refine g_as (lv' := [(0, rf V v0), (1, .int v1)]) (st' := []) rfl rfl ?_
  unfold f_X6_hold at h
  refine g_aload_n (pc := 0) X 0 rfl dX6_hold_0 ?_
  obtain ⟨k1, h⟩ := gd_i h
  refine g_getI (pc := 1) X FcX6 k1 11 (by decide) rfl q_243 dX6_hold_1 ?_
  refine g_bipush (pc := 4) X (v := 96) dX6_hold_4 rfl ?_
  refine g_icmp_ge (pc := 6) X (tgt := 29) dX6_hold_6 rfl (fun c => ?_) (fun c => ?_)
  · have h := br_y c h
    obtain ⟨e1, e2⟩ := rt_i h
    exact g_vret (pc := 29) X Y.2.2.1 (Nat.le_of_ble_eq_true rfl) (Nat.le_of_ble_eq_true rfl) e2 dX6_hold_29
  · have h := br_n c h
    refine g_aload_n (pc := 9) X 0 rfl dX6_hold_9 ?_
    obtain ⟨a2, e3, h⟩ := bd1_i h
    refine g_getR (pc := 10) X FcX6 k1 10 e3 (by decide) rfl q_242 dX6_hold_10 ?_
    refine g_aload_n (pc := 13) X 0 rfl dX6_hold_13 ?_
    refine g_getI (pc := 14) X FcX6 k1 11 (by decide) rfl q_243 dX6_hold_14 ?_
    refine g_iload_n (pc := 17) X 1 rfl dX6_hold_17 ?_
    obtain ⟨k4, h⟩ := gd_i h
    refine g_iast (pc := 18) X k4 dX6_hold_18 ?_
    obtain ⟨w5, e6, h⟩ := lb_i h
    refine g_w e6 ?_
    refine g_aload_n (pc := 19) X 0 rfl dX6_hold_19 ?_
    refine g_dup (pc := 20) X rfl dX6_hold_20 ?_
    refine g_getI (pc := 21) X FcX6 (kd_I e6 k1) 11 (by decide) rfl q_243 dX6_hold_21 ?_
    refine g_iconst (pc := 24) X (v := 1) dX6_hold_24 rfl ?_
    refine g_iadd (pc := 25) X dX6_hold_25 ?_
    refine g_putI (pc := 26) X FcX6 (kd_I e6 k1) 11 (by decide) rfl q_243 rfl rfl rfl dX6_hold_26 ?_
    obtain ⟨w7, e8, h⟩ := lb_i h
    refine g_w e8 ?_
    obtain ⟨e1, e2⟩ := rt_i h
    exact g_vret (pc := 29) X Y.2.2.1 (Nat.le_of_ble_eq_true rfl) (Nat.le_of_ble_eq_true rfl) e2 dX6_hold_29

def j_X6_takesOpening_58  (v0 : Nat) (v1 : Int32) (w : Wd) : Option (Int32 × Wd) := (if wK w v0 = 6 then
 (bd2 (f_X6_hold v0 v1 w) fun r5 w6 =>
 some (1, w6))
 else none)
theorem bj_X6_takesOpening_58 {t : Ct} {V : Vt} {r : Int32} {w' : Wd} (Y : Hd_ t V cX6_takesOpening 2 RX6 { frames := 1, cells := 0, slots := 0, locals := 21 } (some .boolean) "takesOpening") {v0 : Nat} {v1 : Int32} {w : Wd} (h : j_X6_takesOpening_58  v0 v1 w = some (r, w')) : Gd t V 2 0 0 (Qe t V (some (.int r)) w' 0 0) 58 [(0, rf V v0), (1, .int v1)] [] w := by
  have X := Y.1
  unfold j_X6_takesOpening_58 at h
  refine g_aload_n (pc := 58) X 0 rfl dX6_takesOpening_58 ?_
  refine g_iload_n (pc := 59) X 1 rfl dX6_takesOpening_59 ?_
  obtain ⟨k4, h⟩ := gd_i h
  obtain ⟨r5, w6, h7, h⟩ := bd2_i h
  refine g_callV (pc := 60) X FcX6 k4 mk_X6_hold q_869 q_18 q_867 (c_X6_hold h7) rfl rfl (by rw [Y.2.1]; decide)  rfl (rest := []) rfl (Nat.le_of_ble_eq_true rfl) (by rw [Y.2.1]; exact ⟨Nat.le_of_ble_eq_true rfl, Nat.le_of_ble_eq_true rfl⟩) dX6_takesOpening_60 (st' := []) rfl ?_
  refine g_iconst (pc := 63) X (v := 1) dX6_takesOpening_63 rfl ?_
  obtain ⟨e1, e2⟩ := rt_i h
  exact g_zret (pc := 64) X Y.2.2.1 (Or.inr rfl) (Nat.le_of_ble_eq_true rfl) (Nat.le_of_ble_eq_true rfl) e1 e2 dX6_takesOpening_64

def j_X6_takesOpening_28  (v0 : Nat) (v1 : Int32) (w : Wd) : Option (Int32 × Wd) := (if v1 = 33 then
 (if wK w v0 = 6 then
 (if 8 ≤ (wI w v0 13) then
 some (0, w)
 else
 (lb_ (sI w v0 13 ((wI w v0 13) + 1)) fun w2 =>
 j_X6_takesOpening_58 v0 v1 w2))
 else none)
 else
 some (0, w))
theorem bj_X6_takesOpening_28 {t : Ct} {V : Vt} {r : Int32} {w' : Wd} (Y : Hd_ t V cX6_takesOpening 2 RX6 { frames := 1, cells := 0, slots := 0, locals := 21 } (some .boolean) "takesOpening") {v0 : Nat} {v1 : Int32} {w : Wd} (h : j_X6_takesOpening_28  v0 v1 w = some (r, w')) : Gd t V 2 0 0 (Qe t V (some (.int r)) w' 0 0) 28 [(0, rf V v0), (1, .int v1)] [] w := by
  have X := Y.1
  unfold j_X6_takesOpening_28 at h
  refine g_iload_n (pc := 28) X 1 rfl dX6_takesOpening_28 ?_
  refine g_bipush (pc := 29) X (v := 33) dX6_takesOpening_29 rfl ?_
  refine g_icmp_ne (pc := 31) X (tgt := 56) dX6_takesOpening_31 rfl (fun c => ?_) (fun c => ?_)
  · have h := br_n c h
    refine g_iconst (pc := 56) X (v := 0) dX6_takesOpening_56 rfl ?_
    obtain ⟨e1, e2⟩ := rt_i h
    exact g_zret (pc := 57) X Y.2.2.1 (Or.inl rfl) (Nat.le_of_ble_eq_true rfl) (Nat.le_of_ble_eq_true rfl) e1 e2 dX6_takesOpening_57
  · have h := br_y c h
    refine g_aload_n (pc := 34) X 0 rfl dX6_takesOpening_34 ?_
    obtain ⟨k1, h⟩ := gd_i h
    refine g_getI (pc := 35) X FcX6 k1 13 (by decide) rfl q_245 dX6_takesOpening_35 ?_
    refine g_bipush (pc := 38) X (v := 8) dX6_takesOpening_38 rfl ?_
    refine g_icmp_ge (pc := 40) X (tgt := 56) dX6_takesOpening_40 rfl (fun c => ?_) (fun c => ?_)
    · have h := br_y c h
      refine g_iconst (pc := 56) X (v := 0) dX6_takesOpening_56 rfl ?_
      obtain ⟨e1, e2⟩ := rt_i h
      exact g_zret (pc := 57) X Y.2.2.1 (Or.inl rfl) (Nat.le_of_ble_eq_true rfl) (Nat.le_of_ble_eq_true rfl) e1 e2 dX6_takesOpening_57
    · have h := br_n c h
      refine g_aload_n (pc := 43) X 0 rfl dX6_takesOpening_43 ?_
      refine g_dup (pc := 44) X rfl dX6_takesOpening_44 ?_
      refine g_getI (pc := 45) X FcX6 k1 13 (by decide) rfl q_245 dX6_takesOpening_45 ?_
      refine g_iconst (pc := 48) X (v := 1) dX6_takesOpening_48 rfl ?_
      refine g_iadd (pc := 49) X dX6_takesOpening_49 ?_
      refine g_putI (pc := 50) X FcX6 k1 13 (by decide) rfl q_245 rfl rfl rfl dX6_takesOpening_50 ?_
      obtain ⟨w2, e3, h⟩ := lb_i h
      refine g_w e3 ?_
      refine g_goto (pc := 53) X (tgt := 58) dX6_takesOpening_53 rfl ?_
      refine g_sub (lv' := [(0, rf V v0), (1, .int v1)]) [0, 1] rfl ?_
      exact bj_X6_takesOpening_58 Y  h

def f_X6_takesOpening (v0 : Nat) (v1 : Int32) (w : Wd) : Option (Int32 × Wd) := (if v1 = 40 then
 (if wK w v0 = 6 then
 (if 8 ≤ (wI w v0 12) then
 j_X6_takesOpening_28 v0 v1 w
 else
 (lb_ (sI w v0 12 ((wI w v0 12) + 1)) fun w9 =>
 j_X6_takesOpening_58 v0 v1 w9))
 else none)
 else
 j_X6_takesOpening_28 v0 v1 w)
theorem c_X6_takesOpening {l : Launch} {V : Vt} {v0 : Nat} {v1 : Int32} {w w' : Wd} {r : Int32} (h : f_X6_takesOpening v0 v1 w = some (r, w')) : MetW l V yX6_takesOpening cX6_takesOpening 2 (some .boolean) { frames := 1, cells := 0, slots := 0, locals := 21 } w [rf V v0, .int v1] (some (.int r)) w' 0 0 := by
  refine g_start (by decide) (Nat.le_of_ble_eq_true rfl) ?_
  intro t _ hrm X hret hnm
  have Y : Hd_ t V cX6_takesOpening 2 RX6 { frames := 1, cells := 0, slots := 0, locals := 21 } (some .boolean) "takesOpening" := ⟨X, hrm, hret, hnm⟩
  refine g_as (lv' := [(0, rf V v0), (1, .int v1)]) (st' := []) rfl rfl ?_
  unfold f_X6_takesOpening at h
  refine g_iload_n (pc := 0) X 1 rfl dX6_takesOpening_0 ?_
  refine g_bipush (pc := 1) X (v := 40) dX6_takesOpening_1 rfl ?_
  refine g_icmp_ne (pc := 3) X (tgt := 28) dX6_takesOpening_3 rfl (fun c => ?_) (fun c => ?_)
  · have h := br_n c h
    refine g_sub (lv' := [(0, rf V v0), (1, .int v1)]) [0, 1] rfl ?_
    exact bj_X6_takesOpening_28 Y  h
  · have h := br_y c h
    refine g_aload_n (pc := 6) X 0 rfl dX6_takesOpening_6 ?_
    obtain ⟨k8, h⟩ := gd_i h
    refine g_getI (pc := 7) X FcX6 k8 12 (by decide) rfl q_244 dX6_takesOpening_7 ?_
    refine g_bipush (pc := 10) X (v := 8) dX6_takesOpening_10 rfl ?_
    refine g_icmp_ge (pc := 12) X (tgt := 28) dX6_takesOpening_12 rfl (fun c => ?_) (fun c => ?_)
    · have h := br_y c h
      refine g_sub (lv' := [(0, rf V v0), (1, .int v1)]) [0, 1] rfl ?_
      exact bj_X6_takesOpening_28 Y  h
    · have h := br_n c h
      refine g_aload_n (pc := 15) X 0 rfl dX6_takesOpening_15 ?_
      refine g_dup (pc := 16) X rfl dX6_takesOpening_16 ?_
      refine g_getI (pc := 17) X FcX6 k8 12 (by decide) rfl q_244 dX6_takesOpening_17 ?_
      refine g_iconst (pc := 20) X (v := 1) dX6_takesOpening_20 rfl ?_
      refine g_iadd (pc := 21) X dX6_takesOpening_21 ?_
      refine g_putI (pc := 22) X FcX6 k8 12 (by decide) rfl q_244 rfl rfl rfl dX6_takesOpening_22 ?_
      obtain ⟨w9, e10, h⟩ := lb_i h
      refine g_w e10 ?_
      refine g_goto (pc := 25) X (tgt := 58) dX6_takesOpening_25 rfl ?_
      refine g_sub (lv' := [(0, rf V v0), (1, .int v1)]) [0, 1] rfl ?_
      exact bj_X6_takesOpening_58 Y  h

def f_X6_takesPiece (v0 : Nat) (w : Wd) : Option (Int32 × Wd) := (if wK w v0 = 6 then
 (if (wI w v0 2) = 1 then
 (bd2 (f_X6_takesNumber v0 w) fun r3 w4 =>
 (if r3 = 0 ∨ r3 = 1 then
 some (r3, w4)
 else none))
 else
 (if (wI w v0 2) = 2 then
 (bd2 (f_X6_takesName v0 w) fun r8 w9 =>
 (if r8 = 0 ∨ r8 = 1 then
 some (r8, w9)
 else none))
 else
 (if (wI w v0 2) = 3 then
 (bd1 (wR w v0 0) fun a13 =>
 (if aK 11 w a13 (wI w v0 3) = true then
 (bd2 (f_X6_takesOpening v0 (wI w a13 (nx (wI w v0 3))) w) fun r16 w17 =>
 (if r16 = 0 ∨ r16 = 1 then
 some (r16, w17)
 else none))
 else none))
 else
 some (0, w))))
 else none)
theorem c_X6_takesPiece {l : Launch} {V : Vt} {v0 : Nat} {w w' : Wd} {r : Int32} (h : f_X6_takesPiece v0 w = some (r, w')) : MetW l V yX6_takesPiece cX6_takesPiece 1 (some .boolean) { frames := 5, cells := 0, slots := 0, locals := 113 } w [rf V v0] (some (.int r)) w' 0 0 := by
  refine g_start (by decide) (Nat.le_of_ble_eq_true rfl) ?_
  intro t _ hrm X hret hnm
  have Y : Hd_ t V cX6_takesPiece 1 RX6 { frames := 5, cells := 0, slots := 0, locals := 113 } (some .boolean) "takesPiece" := ⟨X, hrm, hret, hnm⟩
  refine g_as (lv' := [(0, rf V v0)]) (st' := []) rfl rfl ?_
  unfold f_X6_takesPiece at h
  refine g_aload_n (pc := 0) X 0 rfl dX6_takesPiece_0 ?_
  obtain ⟨k1, h⟩ := gd_i h
  refine g_getI (pc := 1) X FcX6 k1 2 (by decide) rfl q_234 dX6_takesPiece_1 ?_
  by_cases c2 : (wI w v0 2) = 1
  · have h := br_y c2 h
    refine g_tswI (pc := 4) X 1 (tgt := 32) dX6_takesPiece_4 c2 (by decide) (by decide) rfl rfl ?_
    refine g_aload_n (pc := 32) X 0 rfl dX6_takesPiece_32 ?_
    obtain ⟨r3, w4, h5, h⟩ := bd2_i h
    refine g_callV (pc := 33) X FcX6 k1 mk_X6_takesNumber q_785 q_12 q_783 (c_X6_takesNumber h5) rfl rfl (by rw [Y.2.1]; decide)  rfl (rest := []) rfl (Nat.le_of_ble_eq_true rfl) (by rw [Y.2.1]; exact ⟨Nat.le_of_ble_eq_true rfl, Nat.le_of_ble_eq_true rfl⟩) dX6_takesPiece_33 (st' := [.int r3]) rfl ?_
    obtain ⟨k6, h⟩ := gd_i h
    obtain ⟨e1, e2⟩ := rt_i h
    exact g_zret (pc := 36) X Y.2.2.1 k6 (Nat.le_of_ble_eq_true rfl) (Nat.le_of_ble_eq_true rfl) e1 e2 dX6_takesPiece_36
  · have h := br_n c2 h
    by_cases c7 : (wI w v0 2) = 2
    · have h := br_y c7 h
      refine g_tswI (pc := 4) X 2 (tgt := 37) dX6_takesPiece_4 c7 (by decide) (by decide) rfl rfl ?_
      refine g_aload_n (pc := 37) X 0 rfl dX6_takesPiece_37 ?_
      obtain ⟨r8, w9, h10, h⟩ := bd2_i h
      refine g_callV (pc := 38) X FcX6 k1 mk_X6_takesName q_801 q_16 q_799 (c_X6_takesName h10) rfl rfl (by rw [Y.2.1]; decide)  rfl (rest := []) rfl (Nat.le_of_ble_eq_true rfl) (by rw [Y.2.1]; exact ⟨Nat.le_of_ble_eq_true rfl, Nat.le_of_ble_eq_true rfl⟩) dX6_takesPiece_38 (st' := [.int r8]) rfl ?_
      obtain ⟨k11, h⟩ := gd_i h
      obtain ⟨e1, e2⟩ := rt_i h
      exact g_zret (pc := 41) X Y.2.2.1 k11 (Nat.le_of_ble_eq_true rfl) (Nat.le_of_ble_eq_true rfl) e1 e2 dX6_takesPiece_41
    · have h := br_n c7 h
      by_cases c12 : (wI w v0 2) = 3
      · have h := br_y c12 h
        refine g_tswI (pc := 4) X 3 (tgt := 42) dX6_takesPiece_4 c12 (by decide) (by decide) rfl rfl ?_
        refine g_aload_n (pc := 42) X 0 rfl dX6_takesPiece_42 ?_
        refine g_aload_n (pc := 43) X 0 rfl dX6_takesPiece_43 ?_
        obtain ⟨a13, e14, h⟩ := bd1_i h
        refine g_getR (pc := 44) X FcX6 k1 0 e14 (by decide) rfl q_231 dX6_takesPiece_44 ?_
        refine g_aload_n (pc := 47) X 0 rfl dX6_takesPiece_47 ?_
        refine g_getI (pc := 48) X FcX6 k1 3 (by decide) rfl q_235 dX6_takesPiece_48 ?_
        obtain ⟨k15, h⟩ := gd_i h
        refine g_iald (pc := 51) X k15 dX6_takesPiece_51 ?_
        obtain ⟨r16, w17, h18, h⟩ := bd2_i h
        refine g_callV (pc := 52) X FcX6 k1 mk_X6_takesOpening q_865 q_17 q_863 (c_X6_takesOpening h18) rfl rfl (by rw [Y.2.1]; decide)  rfl (rest := []) rfl (Nat.le_of_ble_eq_true rfl) (by rw [Y.2.1]; exact ⟨Nat.le_of_ble_eq_true rfl, Nat.le_of_ble_eq_true rfl⟩) dX6_takesPiece_52 (st' := [.int r16]) rfl ?_
        obtain ⟨k19, h⟩ := gd_i h
        obtain ⟨e1, e2⟩ := rt_i h
        exact g_zret (pc := 55) X Y.2.2.1 k19 (Nat.le_of_ble_eq_true rfl) (Nat.le_of_ble_eq_true rfl) e1 e2 dX6_takesPiece_55
      · have h := br_n c12 h
        refine g_tswO (pc := 4) X (tgt := 56) dX6_takesPiece_4 (by have n0 : Int32.toInt (wI w v0 2) ≠ 1 := nt_ c2; have n1 : Int32.toInt (wI w v0 2) ≠ 2 := nt_ c7; have n2 : Int32.toInt (wI w v0 2) ≠ 3 := nt_ c12; omega) rfl ?_
        refine g_iconst (pc := 56) X (v := 0) dX6_takesPiece_56 rfl ?_
        obtain ⟨e1, e2⟩ := rt_i h
        exact g_zret (pc := 57) X Y.2.2.1 (Or.inl rfl) (Nat.le_of_ble_eq_true rfl) (Nat.le_of_ble_eq_true rfl) e1 e2 dX6_takesPiece_57

def f_X6_tightnessOf (v0 : Int32) (w : Wd) : Option (Int32 × Wd) := (if v0 = 38 then
 some (2, w)
 else
 (if v0 = 42 then
 some (5, w)
 else
 (if v0 = 43 then
 some (4, w)
 else
 (if v0 = 45 then
 some (4, w)
 else
 (if v0 = 47 then
 some (5, w)
 else
 (if v0 = 60 then
 some (3, w)
 else
 (if v0 = 61 then
 some (3, w)
 else
 (if v0 = 62 then
 some (3, w)
 else
 (if v0 = 124 then
 some (1, w)
 else
 some (0, w))))))))))
theorem c_X6_tightnessOf {l : Launch} {V : Vt} {v0 : Int32} {w w' : Wd} {r : Int32} (h : f_X6_tightnessOf v0 w = some (r, w')) : MetW l V yX6_tightnessOf cX6_tightnessOf 1 (some .int) { frames := 0, cells := 0, slots := 0, locals := 0 } w [.int v0] (some (.int r)) w' 0 0 := by
  refine g_start (by decide) (Nat.le_of_ble_eq_true rfl) ?_
  intro t _ hrm X hret hnm
  have Y : Hd_ t V cX6_tightnessOf 1 RX6 { frames := 0, cells := 0, slots := 0, locals := 0 } (some .int) "tightnessOf" := ⟨X, hrm, hret, hnm⟩
  refine g_as (lv' := [(0, .int v0)]) (st' := []) rfl rfl ?_
  unfold f_X6_tightnessOf at h
  refine g_iload_n (pc := 0) X 0 rfl dX6_tightnessOf_0 ?_
  by_cases c1 : v0 = 38
  · have h := br_y c1 h
    refine g_lsw (pc := 1) X (tgt := 86) (off := 85) dX6_tightnessOf_1 (by decide) (by rw [c1]; rfl) rfl ?_
    refine g_iconst (pc := 86) X (v := 2) dX6_tightnessOf_86 rfl ?_
    obtain ⟨e1, e2⟩ := rt_i h
    exact g_iret (pc := 87) X Y.2.2.1 (Nat.le_of_ble_eq_true rfl) (Nat.le_of_ble_eq_true rfl) e1 e2 dX6_tightnessOf_87
  · have h := br_n c1 h
    by_cases c2 : v0 = 42
    · have h := br_y c2 h
      refine g_lsw (pc := 1) X (tgt := 92) (off := 91) dX6_tightnessOf_1 (by decide) (by rw [c2]; rfl) rfl ?_
      refine g_iconst (pc := 92) X (v := 5) dX6_tightnessOf_92 rfl ?_
      obtain ⟨e1, e2⟩ := rt_i h
      exact g_iret (pc := 93) X Y.2.2.1 (Nat.le_of_ble_eq_true rfl) (Nat.le_of_ble_eq_true rfl) e1 e2 dX6_tightnessOf_93
    · have h := br_n c2 h
      by_cases c3 : v0 = 43
      · have h := br_y c3 h
        refine g_lsw (pc := 1) X (tgt := 90) (off := 89) dX6_tightnessOf_1 (by decide) (by rw [c3]; rfl) rfl ?_
        refine g_iconst (pc := 90) X (v := 4) dX6_tightnessOf_90 rfl ?_
        obtain ⟨e1, e2⟩ := rt_i h
        exact g_iret (pc := 91) X Y.2.2.1 (Nat.le_of_ble_eq_true rfl) (Nat.le_of_ble_eq_true rfl) e1 e2 dX6_tightnessOf_91
      · have h := br_n c3 h
        by_cases c4 : v0 = 45
        · have h := br_y c4 h
          refine g_lsw (pc := 1) X (tgt := 90) (off := 89) dX6_tightnessOf_1 (by decide) (by rw [c4]; rfl) rfl ?_
          refine g_iconst (pc := 90) X (v := 4) dX6_tightnessOf_90 rfl ?_
          obtain ⟨e1, e2⟩ := rt_i h
          exact g_iret (pc := 91) X Y.2.2.1 (Nat.le_of_ble_eq_true rfl) (Nat.le_of_ble_eq_true rfl) e1 e2 dX6_tightnessOf_91
        · have h := br_n c4 h
          by_cases c5 : v0 = 47
          · have h := br_y c5 h
            refine g_lsw (pc := 1) X (tgt := 92) (off := 91) dX6_tightnessOf_1 (by decide) (by rw [c5]; rfl) rfl ?_
            refine g_iconst (pc := 92) X (v := 5) dX6_tightnessOf_92 rfl ?_
            obtain ⟨e1, e2⟩ := rt_i h
            exact g_iret (pc := 93) X Y.2.2.1 (Nat.le_of_ble_eq_true rfl) (Nat.le_of_ble_eq_true rfl) e1 e2 dX6_tightnessOf_93
          · have h := br_n c5 h
            by_cases c6 : v0 = 60
            · have h := br_y c6 h
              refine g_lsw (pc := 1) X (tgt := 88) (off := 87) dX6_tightnessOf_1 (by decide) (by rw [c6]; rfl) rfl ?_
              refine g_iconst (pc := 88) X (v := 3) dX6_tightnessOf_88 rfl ?_
              obtain ⟨e1, e2⟩ := rt_i h
              exact g_iret (pc := 89) X Y.2.2.1 (Nat.le_of_ble_eq_true rfl) (Nat.le_of_ble_eq_true rfl) e1 e2 dX6_tightnessOf_89
            · have h := br_n c6 h
              by_cases c7 : v0 = 61
              · have h := br_y c7 h
                refine g_lsw (pc := 1) X (tgt := 88) (off := 87) dX6_tightnessOf_1 (by decide) (by rw [c7]; rfl) rfl ?_
                refine g_iconst (pc := 88) X (v := 3) dX6_tightnessOf_88 rfl ?_
                obtain ⟨e1, e2⟩ := rt_i h
                exact g_iret (pc := 89) X Y.2.2.1 (Nat.le_of_ble_eq_true rfl) (Nat.le_of_ble_eq_true rfl) e1 e2 dX6_tightnessOf_89
              · have h := br_n c7 h
                by_cases c8 : v0 = 62
                · have h := br_y c8 h
                  refine g_lsw (pc := 1) X (tgt := 88) (off := 87) dX6_tightnessOf_1 (by decide) (by rw [c8]; rfl) rfl ?_
                  refine g_iconst (pc := 88) X (v := 3) dX6_tightnessOf_88 rfl ?_
                  obtain ⟨e1, e2⟩ := rt_i h
                  exact g_iret (pc := 89) X Y.2.2.1 (Nat.le_of_ble_eq_true rfl) (Nat.le_of_ble_eq_true rfl) e1 e2 dX6_tightnessOf_89
                · have h := br_n c8 h
                  by_cases c9 : v0 = 124
                  · have h := br_y c9 h
                    refine g_lsw (pc := 1) X (tgt := 84) (off := 83) dX6_tightnessOf_1 (by decide) (by rw [c9]; rfl) rfl ?_
                    refine g_iconst (pc := 84) X (v := 1) dX6_tightnessOf_84 rfl ?_
                    obtain ⟨e1, e2⟩ := rt_i h
                    exact g_iret (pc := 85) X Y.2.2.1 (Nat.le_of_ble_eq_true rfl) (Nat.le_of_ble_eq_true rfl) e1 e2 dX6_tightnessOf_85
                  · have h := br_n c9 h
                    refine g_lsw (pc := 1) X (tgt := 94) (off := 93) dX6_tightnessOf_1 (by decide) (by have n0 : Int32.toInt v0 ≠ 38 := nt_ c1; have n1 : Int32.toInt v0 ≠ 42 := nt_ c2; have n2 : Int32.toInt v0 ≠ 43 := nt_ c3; have n3 : Int32.toInt v0 ≠ 45 := nt_ c4; have n4 : Int32.toInt v0 ≠ 47 := nt_ c5; have n5 : Int32.toInt v0 ≠ 60 := nt_ c6; have n6 : Int32.toInt v0 ≠ 61 := nt_ c7; have n7 : Int32.toInt v0 ≠ 62 := nt_ c8; have n8 : Int32.toInt v0 ≠ 124 := nt_ c9; simp [Op.lookupswitch.offset, n0, Ne.symm n0, n1, Ne.symm n1, n2, Ne.symm n2, n3, Ne.symm n3, n4, Ne.symm n4, n5, Ne.symm n5, n6, Ne.symm n6, n7, Ne.symm n7, n8, Ne.symm n8]) rfl ?_
                    refine g_iconst (pc := 94) X (v := 0) dX6_tightnessOf_94 rfl ?_
                    obtain ⟨e1, e2⟩ := rt_i h
                    exact g_iret (pc := 95) X Y.2.2.1 (Nat.le_of_ble_eq_true rfl) (Nat.le_of_ble_eq_true rfl) e1 e2 dX6_tightnessOf_95

def L_X6_settle_0  (n : Nat) (v0 : Nat) (v1 : Int32) (w : Wd) : Option (Unit × Wd) := match n with
  | 0 => none
  | n + 1 => (if wK w v0 = 6 then
 (if (wI w v0 11) ≤ 0 then
 some ((), w)
 else
 (bd1 (wR w v0 10) fun a2 =>
 (if aK 11 w a2 ((wI w v0 11) - 1) = true then
 (if (wI w a2 (nx ((wI w v0 11) - 1))) = 40 then
 some ((), w)
 else
 (bd1 (wR w v0 10) fun a5 =>
 (if aK 11 w a5 ((wI w v0 11) - 1) = true then
 (bd2 (f_X6_tightnessOf (wI w a5 (nx ((wI w v0 11) - 1))) w) fun r8 w9 =>
 (if r8 < v1 then
 some ((), w9)
 else
 (if wK w9 v0 = 6 then
 (lb_ (sI w9 v0 11 ((wI w9 v0 11) - 1)) fun w12 =>
 (bd1 (wR w12 v0 10) fun a14 =>
 (if aK 11 w12 a14 (wI w12 v0 11) = true then
 (bd2 (f_X6_write v0 (-(wI w12 a14 (nx (wI w12 v0 11)))) w12) fun r17 w18 =>
 L_X6_settle_0 n v0 v1 w18)
 else none)))
 else none)))
 else none)))
 else none)))
 else none)
theorem bL_X6_settle_0 {t : Ct} {V : Vt} {r : Unit} {w' : Wd} (Y : Hd_ t V cX6_settle 2 RX6 { frames := 1, cells := 0, slots := 0, locals := 21 } (none) "settle") : ∀ {n : Nat} {v0 : Nat} {v1 : Int32} {w : Wd}, L_X6_settle_0  n v0 v1 w = some (r, w') → Gd t V 2 0 0 (Qe t V none w' 0 0) 0 [(0, rf V v0), (1, .int v1)] [] w := by
  have X := Y.1
  intro n
  induction n with
  | zero => intro v0 v1 w h; cases h
  | succ n ih0 =>
    have ih : ∀ (v0 : Nat) (v1 : Int32) (w : Wd), L_X6_settle_0  n v0 v1 w = some (r, w') → Gd t V 2 0 0 (Qe t V none w' 0 0) 0 [(0, rf V v0), (1, .int v1)] [] w := fun v0 v1 w h => ih0 h
    clear ih0
    intro v0 v1 w h
    unfold L_X6_settle_0 at h
    refine g_aload_n (pc := 0) X 0 rfl dX6_settle_0 ?_
    obtain ⟨k1, h⟩ := gd_i h
    refine g_getI (pc := 1) X FcX6 k1 11 (by decide) rfl q_243 dX6_settle_1 ?_
    refine g_if_le (pc := 4) X (tgt := 68) dX6_settle_4 rfl (fun c => ?_) (fun c => ?_)
    · have h := br_y c h
      obtain ⟨e1, e2⟩ := rt_i h
      exact g_vret (pc := 68) X Y.2.2.1 (Nat.le_of_ble_eq_true rfl) (Nat.le_of_ble_eq_true rfl) e2 dX6_settle_68
    · have h := br_n c h
      refine g_aload_n (pc := 7) X 0 rfl dX6_settle_7 ?_
      obtain ⟨a2, e3, h⟩ := bd1_i h
      refine g_getR (pc := 8) X FcX6 k1 10 e3 (by decide) rfl q_242 dX6_settle_8 ?_
      refine g_aload_n (pc := 11) X 0 rfl dX6_settle_11 ?_
      refine g_getI (pc := 12) X FcX6 k1 11 (by decide) rfl q_243 dX6_settle_12 ?_
      refine g_iconst (pc := 15) X (v := 1) dX6_settle_15 rfl ?_
      refine g_isub (pc := 16) X dX6_settle_16 ?_
      obtain ⟨k4, h⟩ := gd_i h
      refine g_iald (pc := 17) X k4 dX6_settle_17 ?_
      refine g_bipush (pc := 18) X (v := 40) dX6_settle_18 rfl ?_
      refine g_icmp_eq (pc := 20) X (tgt := 68) dX6_settle_20 rfl (fun c => ?_) (fun c => ?_)
      · have h := br_y c h
        obtain ⟨e1, e2⟩ := rt_i h
        exact g_vret (pc := 68) X Y.2.2.1 (Nat.le_of_ble_eq_true rfl) (Nat.le_of_ble_eq_true rfl) e2 dX6_settle_68
      · have h := br_n c h
        refine g_aload_n (pc := 23) X 0 rfl dX6_settle_23 ?_
        obtain ⟨a5, e6, h⟩ := bd1_i h
        refine g_getR (pc := 24) X FcX6 k1 10 e6 (by decide) rfl q_242 dX6_settle_24 ?_
        refine g_aload_n (pc := 27) X 0 rfl dX6_settle_27 ?_
        refine g_getI (pc := 28) X FcX6 k1 11 (by decide) rfl q_243 dX6_settle_28 ?_
        refine g_iconst (pc := 31) X (v := 1) dX6_settle_31 rfl ?_
        refine g_isub (pc := 32) X dX6_settle_32 ?_
        obtain ⟨k7, h⟩ := gd_i h
        refine g_iald (pc := 33) X k7 dX6_settle_33 ?_
        obtain ⟨r8, w9, h10, h⟩ := bd2_i h
        refine g_callS (pc := 34) X mk_X6_tightnessOf q_884 q_883 (c_X6_tightnessOf h10) rfl rfl (by rw [Y.2.1]; decide)  rfl (rest := []) rfl (Nat.le_of_ble_eq_true rfl) (by rw [Y.2.1]; exact ⟨Nat.le_of_ble_eq_true rfl, Nat.le_of_ble_eq_true rfl⟩) dX6_settle_34 (st' := [.int r8]) rfl ?_
        refine g_iload_n (pc := 37) X 1 rfl dX6_settle_37 ?_
        refine g_icmp_lt (pc := 38) X (tgt := 68) dX6_settle_38 rfl (fun c => ?_) (fun c => ?_)
        · have h := br_y c h
          obtain ⟨e1, e2⟩ := rt_i h
          exact g_vret (pc := 68) X Y.2.2.1 (Nat.le_of_ble_eq_true rfl) (Nat.le_of_ble_eq_true rfl) e2 dX6_settle_68
        · have h := br_n c h
          refine g_aload_n (pc := 41) X 0 rfl dX6_settle_41 ?_
          refine g_dup (pc := 42) X rfl dX6_settle_42 ?_
          obtain ⟨k11, h⟩ := gd_i h
          refine g_getI (pc := 43) X FcX6 k11 11 (by decide) rfl q_243 dX6_settle_43 ?_
          refine g_iconst (pc := 46) X (v := 1) dX6_settle_46 rfl ?_
          refine g_isub (pc := 47) X dX6_settle_47 ?_
          refine g_putI (pc := 48) X FcX6 k11 11 (by decide) rfl q_243 rfl rfl rfl dX6_settle_48 ?_
          obtain ⟨w12, e13, h⟩ := lb_i h
          refine g_w e13 ?_
          refine g_aload_n (pc := 51) X 0 rfl dX6_settle_51 ?_
          refine g_aload_n (pc := 52) X 0 rfl dX6_settle_52 ?_
          obtain ⟨a14, e15, h⟩ := bd1_i h
          refine g_getR (pc := 53) X FcX6 (kd_I e13 k11) 10 e15 (by decide) rfl q_242 dX6_settle_53 ?_
          refine g_aload_n (pc := 56) X 0 rfl dX6_settle_56 ?_
          refine g_getI (pc := 57) X FcX6 (kd_I e13 k11) 11 (by decide) rfl q_243 dX6_settle_57 ?_
          obtain ⟨k16, h⟩ := gd_i h
          refine g_iald (pc := 60) X k16 dX6_settle_60 ?_
          refine g_ineg (pc := 61) X dX6_settle_61 ?_
          obtain ⟨r17, w18, h19, h⟩ := bd2_i h
          refine g_callV (pc := 62) X FcX6 (kd_I e13 k11) mk_X6_write q_793 q_14 q_791 (c_X6_write h19) rfl rfl (by rw [Y.2.1]; decide)  rfl (rest := []) rfl (Nat.le_of_ble_eq_true rfl) (by rw [Y.2.1]; exact ⟨Nat.le_of_ble_eq_true rfl, Nat.le_of_ble_eq_true rfl⟩) dX6_settle_62 (st' := []) rfl ?_
          refine g_goto (pc := 65) X (tgt := 0) dX6_settle_65 rfl ?_
          refine g_sub (lv' := [(0, rf V v0), (1, .int v1)]) [0, 1] rfl ?_
          exact ih _ _ _ h

def f_X6_settle (v0 : Nat) (v1 : Int32) (w : Wd) : Option (Unit × Wd) := L_X6_settle_0 FU v0 v1 w
theorem c_X6_settle {l : Launch} {V : Vt} {v0 : Nat} {v1 : Int32} {w w' : Wd} {r : Unit} (h : f_X6_settle v0 v1 w = some (r, w')) : MetW l V yX6_settle cX6_settle 2 (none) { frames := 1, cells := 0, slots := 0, locals := 21 } w [rf V v0, .int v1] none w' 0 0 := by
  refine g_start (by decide) (Nat.le_of_ble_eq_true rfl) ?_
  intro t _ hrm X hret hnm
  have Y : Hd_ t V cX6_settle 2 RX6 { frames := 1, cells := 0, slots := 0, locals := 21 } (none) "settle" := ⟨X, hrm, hret, hnm⟩
  refine g_as (lv' := [(0, rf V v0), (1, .int v1)]) (st' := []) rfl rfl ?_
  unfold f_X6_settle at h
  refine g_sub (lv' := [(0, rf V v0), (1, .int v1)]) [0, 1] rfl ?_
  exact bL_X6_settle_0 Y  h

def f_X6_takesClosing (v0 : Nat) (w : Wd) : Option (Int32 × Wd) := (if wK w v0 = 6 then
 (if (wI w v0 12) = 0 then
 some (0, w)
 else
 (bd2 (f_X6_settle v0 1 w) fun r2 w3 =>
 (if wK w3 v0 = 6 then
 (lb_ (sI w3 v0 12 ((wI w3 v0 12) - 1)) fun w6 =>
 (lb_ (sI w6 v0 11 ((wI w6 v0 11) - 1)) fun w8 =>
 (bd2 (f_X6_pieceStands v0 w8) fun r10 w11 =>
 some (1, w11))))
 else none)))
 else none)
theorem c_X6_takesClosing {l : Launch} {V : Vt} {v0 : Nat} {w w' : Wd} {r : Int32} (h : f_X6_takesClosing v0 w = some (r, w')) : MetW l V yX6_takesClosing cX6_takesClosing 1 (some .boolean) { frames := 2, cells := 0, slots := 0, locals := 42 } w [rf V v0] (some (.int r)) w' 0 0 := by
  refine g_start (by decide) (Nat.le_of_ble_eq_true rfl) ?_
  intro t _ hrm X hret hnm
  have Y : Hd_ t V cX6_takesClosing 1 RX6 { frames := 2, cells := 0, slots := 0, locals := 42 } (some .boolean) "takesClosing" := ⟨X, hrm, hret, hnm⟩
  refine g_as (lv' := [(0, rf V v0)]) (st' := []) rfl rfl ?_
  unfold f_X6_takesClosing at h
  refine g_aload_n (pc := 0) X 0 rfl dX6_takesClosing_0 ?_
  obtain ⟨k1, h⟩ := gd_i h
  refine g_getI (pc := 1) X FcX6 k1 12 (by decide) rfl q_244 dX6_takesClosing_1 ?_
  refine g_if_ne (pc := 4) X (tgt := 9) dX6_takesClosing_4 rfl (fun c => ?_) (fun c => ?_)
  · have h := br_n c h
    refine g_aload_n (pc := 9) X 0 rfl dX6_takesClosing_9 ?_
    refine g_iconst (pc := 10) X (v := 1) dX6_takesClosing_10 rfl ?_
    obtain ⟨r2, w3, h4, h⟩ := bd2_i h
    refine g_callV (pc := 11) X FcX6 k1 mk_X6_settle q_881 q_21 q_879 (c_X6_settle h4) rfl rfl (by rw [Y.2.1]; decide)  rfl (rest := []) rfl (Nat.le_of_ble_eq_true rfl) (by rw [Y.2.1]; exact ⟨Nat.le_of_ble_eq_true rfl, Nat.le_of_ble_eq_true rfl⟩) dX6_takesClosing_11 (st' := []) rfl ?_
    refine g_aload_n (pc := 14) X 0 rfl dX6_takesClosing_14 ?_
    refine g_dup (pc := 15) X rfl dX6_takesClosing_15 ?_
    obtain ⟨k5, h⟩ := gd_i h
    refine g_getI (pc := 16) X FcX6 k5 12 (by decide) rfl q_244 dX6_takesClosing_16 ?_
    refine g_iconst (pc := 19) X (v := 1) dX6_takesClosing_19 rfl ?_
    refine g_isub (pc := 20) X dX6_takesClosing_20 ?_
    refine g_putI (pc := 21) X FcX6 k5 12 (by decide) rfl q_244 rfl rfl rfl dX6_takesClosing_21 ?_
    obtain ⟨w6, e7, h⟩ := lb_i h
    refine g_w e7 ?_
    refine g_aload_n (pc := 24) X 0 rfl dX6_takesClosing_24 ?_
    refine g_dup (pc := 25) X rfl dX6_takesClosing_25 ?_
    refine g_getI (pc := 26) X FcX6 (kd_I e7 k5) 11 (by decide) rfl q_243 dX6_takesClosing_26 ?_
    refine g_iconst (pc := 29) X (v := 1) dX6_takesClosing_29 rfl ?_
    refine g_isub (pc := 30) X dX6_takesClosing_30 ?_
    refine g_putI (pc := 31) X FcX6 (kd_I e7 k5) 11 (by decide) rfl q_243 rfl rfl rfl dX6_takesClosing_31 ?_
    obtain ⟨w8, e9, h⟩ := lb_i h
    refine g_w e9 ?_
    refine g_aload_n (pc := 34) X 0 rfl dX6_takesClosing_34 ?_
    obtain ⟨r10, w11, h12, h⟩ := bd2_i h
    refine g_callV (pc := 35) X FcX6 (kd_I e9 (kd_I e7 k5)) mk_X6_pieceStands q_797 q_15 q_795 (c_X6_pieceStands h12) rfl rfl (by rw [Y.2.1]; decide)  rfl (rest := []) rfl (Nat.le_of_ble_eq_true rfl) (by rw [Y.2.1]; exact ⟨Nat.le_of_ble_eq_true rfl, Nat.le_of_ble_eq_true rfl⟩) dX6_takesClosing_35 (st' := []) rfl ?_
    refine g_iconst (pc := 38) X (v := 1) dX6_takesClosing_38 rfl ?_
    obtain ⟨e1, e2⟩ := rt_i h
    exact g_zret (pc := 39) X Y.2.2.1 (Or.inr rfl) (Nat.le_of_ble_eq_true rfl) (Nat.le_of_ble_eq_true rfl) e1 e2 dX6_takesClosing_39
  · have h := br_y c h
    refine g_iconst (pc := 7) X (v := 0) dX6_takesClosing_7 rfl ?_
    obtain ⟨e1, e2⟩ := rt_i h
    exact g_zret (pc := 8) X Y.2.2.1 (Or.inl rfl) (Nat.le_of_ble_eq_true rfl) (Nat.le_of_ble_eq_true rfl) e1 e2 dX6_takesClosing_8

def j_X6_takesSign_79  (v0 : Nat) (v1 : Int32) (v2 : Int32) (w : Wd) : Option (Int32 × Wd) := (if wK w v0 = 6 then
 (bd2 (f_X6_settle v0 v2 w) fun r11 w12 =>
 (if wK w12 v0 = 6 then
 (bd2 (f_X6_hold v0 v1 w12) fun r15 w16 =>
 (if wK w16 v0 = 6 then
 (lb_ (sI w16 v0 6 1) fun w19 =>
 some (1, w19))
 else none))
 else none))
 else none)
theorem bj_X6_takesSign_79 {t : Ct} {V : Vt} {r : Int32} {w' : Wd} (Y : Hd_ t V cX6_takesSign 3 RX6 { frames := 3, cells := 0, slots := 0, locals := 62 } (some .boolean) "takesSign") {v0 : Nat} {v1 : Int32} {v2 : Int32} {w : Wd} (h : j_X6_takesSign_79  v0 v1 v2 w = some (r, w')) : Gd t V 3 0 0 (Qe t V (some (.int r)) w' 0 0) 79 [(0, rf V v0), (1, .int v1), (2, .int v2)] [] w := by
  have X := Y.1
  unfold j_X6_takesSign_79 at h
  refine g_aload_n (pc := 79) X 0 rfl dX6_takesSign_79 ?_
  refine g_iload_n (pc := 80) X 2 rfl dX6_takesSign_80 ?_
  obtain ⟨k10, h⟩ := gd_i h
  obtain ⟨r11, w12, h13, h⟩ := bd2_i h
  refine g_callV (pc := 81) X FcX6 k10 mk_X6_settle q_881 q_21 q_879 (c_X6_settle h13) rfl rfl (by rw [Y.2.1]; decide)  rfl (rest := []) rfl (Nat.le_of_ble_eq_true rfl) (by rw [Y.2.1]; exact ⟨Nat.le_of_ble_eq_true rfl, Nat.le_of_ble_eq_true rfl⟩) dX6_takesSign_81 (st' := []) rfl ?_
  refine g_aload_n (pc := 84) X 0 rfl dX6_takesSign_84 ?_
  refine g_iload_n (pc := 85) X 1 rfl dX6_takesSign_85 ?_
  obtain ⟨k14, h⟩ := gd_i h
  obtain ⟨r15, w16, h17, h⟩ := bd2_i h
  refine g_callV (pc := 86) X FcX6 k14 mk_X6_hold q_869 q_18 q_867 (c_X6_hold h17) rfl rfl (by rw [Y.2.1]; decide)  rfl (rest := []) rfl (Nat.le_of_ble_eq_true rfl) (by rw [Y.2.1]; exact ⟨Nat.le_of_ble_eq_true rfl, Nat.le_of_ble_eq_true rfl⟩) dX6_takesSign_86 (st' := []) rfl ?_
  refine g_aload_n (pc := 89) X 0 rfl dX6_takesSign_89 ?_
  refine g_iconst (pc := 90) X (v := 1) dX6_takesSign_90 rfl ?_
  obtain ⟨k18, h⟩ := gd_i h
  refine g_putI (pc := 91) X FcX6 k18 6 (by decide) rfl q_238 rfl (bz_n (Or.inr rfl)) rfl dX6_takesSign_91 ?_
  obtain ⟨w19, e20, h⟩ := lb_i h
  refine g_w e20 ?_
  refine g_iconst (pc := 94) X (v := 1) dX6_takesSign_94 rfl ?_
  obtain ⟨e1, e2⟩ := rt_i h
  exact g_zret (pc := 95) X Y.2.2.1 (Or.inr rfl) (Nat.le_of_ble_eq_true rfl) (Nat.le_of_ble_eq_true rfl) e1 e2 dX6_takesSign_95

def f_X6_takesSign (v0 : Nat) (w : Wd) : Option (Int32 × Wd) := (if wK w v0 = 6 then
 (if (wI w v0 2) = 3 then
 (bd1 (wR w v0 0) fun a2 =>
 (if aK 11 w a2 (wI w v0 3) = true then
 (lb_ (wI w a2 (nx (wI w v0 3))) fun x5 =>
 (if x5 = 41 then
 (bd2 (f_X6_takesClosing v0 w) fun r32 w33 =>
 (if r32 = 0 ∨ r32 = 1 then
 some (r32, w33)
 else none))
 else
 (bd2 (f_X6_tightnessOf x5 w) fun r7 w8 =>
 (if r7 = 0 then
 some (0, w8)
 else
 (if r7 = 3 then
 (if wK w8 v0 = 6 then
 (bd2 (f_X6_settle v0 4 w8) fun r22 w23 =>
 (if wK w23 v0 = 6 then
 (if (wI w23 v0 11) ≤ 0 then
 j_X6_takesSign_79 v0 x5 r7 w23
 else
 (bd1 (wR w23 v0 10) fun a26 =>
 (if aK 11 w23 a26 ((wI w23 v0 11) - 1) = true then
 (bd2 (f_X6_tightnessOf (wI w23 a26 (nx ((wI w23 v0 11) - 1))) w23) fun r29 w30 =>
 (if r29 = 3 then
 some (0, w30)
 else
 j_X6_takesSign_79 v0 x5 r7 w30))
 else none)))
 else none))
 else none)
 else
 j_X6_takesSign_79 v0 x5 r7 w8)))))
 else none))
 else
 some (0, w))
 else none)
theorem c_X6_takesSign {l : Launch} {V : Vt} {v0 : Nat} {w w' : Wd} {r : Int32} (h : f_X6_takesSign v0 w = some (r, w')) : MetW l V yX6_takesSign cX6_takesSign 3 (some .boolean) { frames := 3, cells := 0, slots := 0, locals := 62 } w [rf V v0] (some (.int r)) w' 0 0 := by
  refine g_start (by decide) (Nat.le_of_ble_eq_true rfl) ?_
  intro t _ hrm X hret hnm
  have Y : Hd_ t V cX6_takesSign 3 RX6 { frames := 3, cells := 0, slots := 0, locals := 62 } (some .boolean) "takesSign" := ⟨X, hrm, hret, hnm⟩
  refine g_as (lv' := [(0, rf V v0)]) (st' := []) rfl rfl ?_
  unfold f_X6_takesSign at h
  refine g_aload_n (pc := 0) X 0 rfl dX6_takesSign_0 ?_
  obtain ⟨k1, h⟩ := gd_i h
  refine g_getI (pc := 1) X FcX6 k1 2 (by decide) rfl q_234 dX6_takesSign_1 ?_
  refine g_iconst (pc := 4) X (v := 3) dX6_takesSign_4 rfl ?_
  refine g_icmp_eq (pc := 5) X (tgt := 10) dX6_takesSign_5 rfl (fun c => ?_) (fun c => ?_)
  · have h := br_y c h
    refine g_aload_n (pc := 10) X 0 rfl dX6_takesSign_10 ?_
    obtain ⟨a2, e3, h⟩ := bd1_i h
    refine g_getR (pc := 11) X FcX6 k1 0 e3 (by decide) rfl q_231 dX6_takesSign_11 ?_
    refine g_aload_n (pc := 14) X 0 rfl dX6_takesSign_14 ?_
    refine g_getI (pc := 15) X FcX6 k1 3 (by decide) rfl q_235 dX6_takesSign_15 ?_
    obtain ⟨k4, h⟩ := gd_i h
    refine g_iald (pc := 18) X k4 dX6_takesSign_18 ?_
    obtain ⟨x5, e6, h⟩ := lb_i h
    refine g_top e6 ?_
    refine g_istore_n (pc := 19) X (lv' := [(1, .int x5), (0, rf V v0)]) dX6_takesSign_19 (by decide) rfl ?_
    refine g_iload_n (pc := 20) X 0 rfl dX6_takesSign_20 ?_
    refine g_bipush (pc := 21) X (v := 41) dX6_takesSign_21 rfl ?_
    refine g_icmp_ne (pc := 23) X (tgt := 31) dX6_takesSign_23 rfl (fun c => ?_) (fun c => ?_)
    · have h := br_n c h
      refine g_iload_n (pc := 31) X 0 rfl dX6_takesSign_31 ?_
      obtain ⟨r7, w8, h9, h⟩ := bd2_i h
      refine g_callS (pc := 32) X mk_X6_tightnessOf q_884 q_883 (c_X6_tightnessOf h9) rfl rfl (by rw [Y.2.1]; decide)  rfl (rest := []) rfl (Nat.le_of_ble_eq_true rfl) (by rw [Y.2.1]; exact ⟨Nat.le_of_ble_eq_true rfl, Nat.le_of_ble_eq_true rfl⟩) dX6_takesSign_32 (st' := [.int r7]) rfl ?_
      refine g_istore_n (pc := 35) X (lv' := [(2, .int r7), (1, .int x5), (0, rf V v0)]) dX6_takesSign_35 (by decide) rfl ?_
      refine g_iload_n (pc := 36) X 0 rfl dX6_takesSign_36 ?_
      refine g_if_ne (pc := 37) X (tgt := 42) dX6_takesSign_37 rfl (fun c => ?_) (fun c => ?_)
      · have h := br_n c h
        refine g_iload_n (pc := 42) X 0 rfl dX6_takesSign_42 ?_
        refine g_iconst (pc := 43) X (v := 3) dX6_takesSign_43 rfl ?_
        refine g_icmp_ne (pc := 44) X (tgt := 79) dX6_takesSign_44 rfl (fun c => ?_) (fun c => ?_)
        · have h := br_n c h
          refine g_sub (lv' := [(0, rf V v0), (1, .int x5), (2, .int r7)]) [2, 1, 0] rfl ?_
          exact bj_X6_takesSign_79 Y  h
        · have h := br_y c h
          refine g_aload_n (pc := 47) X 2 rfl dX6_takesSign_47 ?_
          refine g_iconst (pc := 48) X (v := 4) dX6_takesSign_48 rfl ?_
          obtain ⟨k21, h⟩ := gd_i h
          obtain ⟨r22, w23, h24, h⟩ := bd2_i h
          refine g_callV (pc := 49) X FcX6 k21 mk_X6_settle q_881 q_21 q_879 (c_X6_settle h24) rfl rfl (by rw [Y.2.1]; decide)  rfl (rest := []) rfl (Nat.le_of_ble_eq_true rfl) (by rw [Y.2.1]; exact ⟨Nat.le_of_ble_eq_true rfl, Nat.le_of_ble_eq_true rfl⟩) dX6_takesSign_49 (st' := []) rfl ?_
          refine g_aload_n (pc := 52) X 2 rfl dX6_takesSign_52 ?_
          obtain ⟨k25, h⟩ := gd_i h
          refine g_getI (pc := 53) X FcX6 k25 11 (by decide) rfl q_243 dX6_takesSign_53 ?_
          refine g_if_le (pc := 56) X (tgt := 79) dX6_takesSign_56 rfl (fun c => ?_) (fun c => ?_)
          · have h := br_y c h
            refine g_sub (lv' := [(0, rf V v0), (1, .int x5), (2, .int r7)]) [2, 1, 0] rfl ?_
            exact bj_X6_takesSign_79 Y  h
          · have h := br_n c h
            refine g_aload_n (pc := 59) X 2 rfl dX6_takesSign_59 ?_
            obtain ⟨a26, e27, h⟩ := bd1_i h
            refine g_getR (pc := 60) X FcX6 k25 10 e27 (by decide) rfl q_242 dX6_takesSign_60 ?_
            refine g_aload_n (pc := 63) X 2 rfl dX6_takesSign_63 ?_
            refine g_getI (pc := 64) X FcX6 k25 11 (by decide) rfl q_243 dX6_takesSign_64 ?_
            refine g_iconst (pc := 67) X (v := 1) dX6_takesSign_67 rfl ?_
            refine g_isub (pc := 68) X dX6_takesSign_68 ?_
            obtain ⟨k28, h⟩ := gd_i h
            refine g_iald (pc := 69) X k28 dX6_takesSign_69 ?_
            obtain ⟨r29, w30, h31, h⟩ := bd2_i h
            refine g_callS (pc := 70) X mk_X6_tightnessOf q_884 q_883 (c_X6_tightnessOf h31) rfl rfl (by rw [Y.2.1]; decide)  rfl (rest := []) rfl (Nat.le_of_ble_eq_true rfl) (by rw [Y.2.1]; exact ⟨Nat.le_of_ble_eq_true rfl, Nat.le_of_ble_eq_true rfl⟩) dX6_takesSign_70 (st' := [.int r29]) rfl ?_
            refine g_iconst (pc := 73) X (v := 3) dX6_takesSign_73 rfl ?_
            refine g_icmp_ne (pc := 74) X (tgt := 79) dX6_takesSign_74 rfl (fun c => ?_) (fun c => ?_)
            · have h := br_n c h
              refine g_sub (lv' := [(0, rf V v0), (1, .int x5), (2, .int r7)]) [2, 1, 0] rfl ?_
              exact bj_X6_takesSign_79 Y  h
            · have h := br_y c h
              refine g_iconst (pc := 77) X (v := 0) dX6_takesSign_77 rfl ?_
              obtain ⟨e1, e2⟩ := rt_i h
              exact g_zret (pc := 78) X Y.2.2.1 (Or.inl rfl) (Nat.le_of_ble_eq_true rfl) (Nat.le_of_ble_eq_true rfl) e1 e2 dX6_takesSign_78
      · have h := br_y c h
        refine g_iconst (pc := 40) X (v := 0) dX6_takesSign_40 rfl ?_
        obtain ⟨e1, e2⟩ := rt_i h
        exact g_zret (pc := 41) X Y.2.2.1 (Or.inl rfl) (Nat.le_of_ble_eq_true rfl) (Nat.le_of_ble_eq_true rfl) e1 e2 dX6_takesSign_41
    · have h := br_y c h
      refine g_aload_n (pc := 26) X 1 rfl dX6_takesSign_26 ?_
      obtain ⟨r32, w33, h34, h⟩ := bd2_i h
      refine g_callV (pc := 27) X FcX6 k1 mk_X6_takesClosing q_877 q_20 q_875 (c_X6_takesClosing h34) rfl rfl (by rw [Y.2.1]; decide)  rfl (rest := []) rfl (Nat.le_of_ble_eq_true rfl) (by rw [Y.2.1]; exact ⟨Nat.le_of_ble_eq_true rfl, Nat.le_of_ble_eq_true rfl⟩) dX6_takesSign_27 (st' := [.int r32]) rfl ?_
      obtain ⟨k35, h⟩ := gd_i h
      obtain ⟨e1, e2⟩ := rt_i h
      exact g_zret (pc := 30) X Y.2.2.1 k35 (Nat.le_of_ble_eq_true rfl) (Nat.le_of_ble_eq_true rfl) e1 e2 dX6_takesSign_30
  · have h := br_n c h
    refine g_iconst (pc := 8) X (v := 0) dX6_takesSign_8 rfl ?_
    obtain ⟨e1, e2⟩ := rt_i h
    exact g_zret (pc := 9) X Y.2.2.1 (Or.inl rfl) (Nat.le_of_ble_eq_true rfl) (Nat.le_of_ble_eq_true rfl) e1 e2 dX6_takesSign_9

def j_X6_parse_99  (v0 : Nat) (w : Wd) : Option (Int32 × Wd) := (if wK w v0 = 6 then
 some (wI w v0 1, w)
 else none)
theorem bj_X6_parse_99 {t : Ct} {V : Vt} {r : Int32} {w' : Wd} (Y : Hd_ t V cX6_parse 2 RX6 { frames := 6, cells := 0, slots := 0, locals := 133 } (some .int) "parse") {v0 : Nat} {w : Wd} (h : j_X6_parse_99  v0 w = some (r, w')) : Gd t V 2 0 0 (Qe t V (some (.int r)) w' 0 0) 99 [(0, rf V v0)] [] w := by
  have X := Y.1
  unfold j_X6_parse_99 at h
  refine g_aload_n (pc := 99) X 0 rfl dX6_parse_99 ?_
  obtain ⟨k17, h⟩ := gd_i h
  refine g_getI (pc := 100) X FcX6 k17 1 (by decide) rfl q_232 dX6_parse_100 ?_
  obtain ⟨e1, e2⟩ := rt_i h
  exact g_iret (pc := 103) X Y.2.2.1 (Nat.le_of_ble_eq_true rfl) (Nat.le_of_ble_eq_true rfl) e1 e2 dX6_parse_103

def j_X6_parse_85  (v0 : Nat) (w : Wd) : Option (Int32 × Wd) := (if wK w v0 = 6 then
 (if (wI w v0 6) = 0 then
 (if (wI w v0 12) ≤ 0 then
 (bd2 (f_X6_settle v0 0 w) fun r18 w19 =>
 some ((-1), w19))
 else
 j_X6_parse_99 v0 w)
 else
 j_X6_parse_99 v0 w)
 else none)
theorem bj_X6_parse_85 {t : Ct} {V : Vt} {r : Int32} {w' : Wd} (Y : Hd_ t V cX6_parse 2 RX6 { frames := 6, cells := 0, slots := 0, locals := 133 } (some .int) "parse") {v0 : Nat} {w : Wd} (h : j_X6_parse_85  v0 w = some (r, w')) : Gd t V 2 0 0 (Qe t V (some (.int r)) w' 0 0) 85 [(0, rf V v0)] [] w := by
  have X := Y.1
  unfold j_X6_parse_85 at h
  refine g_aload_n (pc := 85) X 0 rfl dX6_parse_85 ?_
  obtain ⟨k16, h⟩ := gd_i h
  refine g_getI (pc := 86) X FcX6 k16 6 (by decide) rfl q_238 dX6_parse_86 ?_
  refine g_if_ne (pc := 89) X (tgt := 99) dX6_parse_89 rfl (fun c => ?_) (fun c => ?_)
  · have h := br_n c h
    refine g_sub (lv' := [(0, rf V v0)]) [0] rfl ?_
    exact bj_X6_parse_99 Y  h
  · have h := br_y c h
    refine g_aload_n (pc := 92) X 0 rfl dX6_parse_92 ?_
    refine g_getI (pc := 93) X FcX6 k16 12 (by decide) rfl q_244 dX6_parse_93 ?_
    refine g_if_le (pc := 96) X (tgt := 104) dX6_parse_96 rfl (fun c => ?_) (fun c => ?_)
    · have h := br_y c h
      refine g_aload_n (pc := 104) X 0 rfl dX6_parse_104 ?_
      refine g_iconst (pc := 105) X (v := 0) dX6_parse_105 rfl ?_
      obtain ⟨r18, w19, h20, h⟩ := bd2_i h
      refine g_callV (pc := 106) X FcX6 k16 mk_X6_settle q_881 q_21 q_879 (c_X6_settle h20) rfl rfl (by rw [Y.2.1]; decide)  rfl (rest := []) rfl (Nat.le_of_ble_eq_true rfl) (by rw [Y.2.1]; exact ⟨Nat.le_of_ble_eq_true rfl, Nat.le_of_ble_eq_true rfl⟩) dX6_parse_106 (st' := []) rfl ?_
      refine g_iconst (pc := 109) X (v := (-1)) dX6_parse_109 rfl ?_
      obtain ⟨e1, e2⟩ := rt_i h
      exact g_iret (pc := 110) X Y.2.2.1 (Nat.le_of_ble_eq_true rfl) (Nat.le_of_ble_eq_true rfl) e1 e2 dX6_parse_110
    · have h := br_n c h
      refine g_sub (lv' := [(0, rf V v0)]) [0] rfl ?_
      exact bj_X6_parse_99 Y  h

def j_X6_parse_74  (v0 : Nat) (w : Wd) : Option (Int32 × Wd) := (if wK w v0 = 6 then
 some (wI w v0 3, w)
 else none)
theorem bj_X6_parse_74 {t : Ct} {V : Vt} {r : Int32} {w' : Wd} (Y : Hd_ t V cX6_parse 2 RX6 { frames := 6, cells := 0, slots := 0, locals := 133 } (some .int) "parse") {v0 : Nat} {w : Wd} (h : j_X6_parse_74  v0 w = some (r, w')) : Gd t V 2 0 0 (Qe t V (some (.int r)) w' 0 0) 74 [(0, rf V v0)] [] w := by
  have X := Y.1
  unfold j_X6_parse_74 at h
  refine g_aload_n (pc := 74) X 0 rfl dX6_parse_74 ?_
  obtain ⟨k31, h⟩ := gd_i h
  refine g_getI (pc := 75) X FcX6 k31 3 (by decide) rfl q_235 dX6_parse_75 ?_
  obtain ⟨e1, e2⟩ := rt_i h
  exact g_iret (pc := 78) X Y.2.2.1 (Nat.le_of_ble_eq_true rfl) (Nat.le_of_ble_eq_true rfl) e1 e2 dX6_parse_78

def L_X6_parse_30  (n : Nat) (v0 : Nat) (v1 : Int32) (w : Wd) : Option (Int32 × Wd) := match n with
  | 0 => none
  | n + 1 => (if 96 < v1 then
 j_X6_parse_85 v0 w
 else
 (if wK w v0 = 6 then
 (bd2 (f_X6_advance v0 w) fun r22 w23 =>
 (if wK w23 v0 = 6 then
 (if (wI w23 v0 2) = 0 then
 j_X6_parse_85 v0 w23
 else
 (if (wI w23 v0 6) = 0 then
 (bd2 (f_X6_takesSign v0 w23) fun r26 w27 =>
 (if r26 = 0 then
 j_X6_parse_74 v0 w27
 else
 (lb_ (v1 + 1) fun x29 =>
 L_X6_parse_30 n v0 x29 w27)))
 else
 (bd2 (f_X6_takesPiece v0 w23) fun r32 w33 =>
 (if r32 = 0 then
 j_X6_parse_74 v0 w33
 else
 (lb_ (v1 + 1) fun x35 =>
 L_X6_parse_30 n v0 x35 w33)))))
 else none))
 else none))
theorem bL_X6_parse_30 {t : Ct} {V : Vt} {r : Int32} {w' : Wd} (Y : Hd_ t V cX6_parse 2 RX6 { frames := 6, cells := 0, slots := 0, locals := 133 } (some .int) "parse") : ∀ {n : Nat} {v0 : Nat} {v1 : Int32} {w : Wd}, L_X6_parse_30  n v0 v1 w = some (r, w') → Gd t V 2 0 0 (Qe t V (some (.int r)) w' 0 0) 30 [(0, rf V v0), (1, .int v1)] [] w := by
  have X := Y.1
  intro n
  induction n with
  | zero => intro v0 v1 w h; cases h
  | succ n ih0 =>
    have ih : ∀ (v0 : Nat) (v1 : Int32) (w : Wd), L_X6_parse_30  n v0 v1 w = some (r, w') → Gd t V 2 0 0 (Qe t V (some (.int r)) w' 0 0) 30 [(0, rf V v0), (1, .int v1)] [] w := fun v0 v1 w h => ih0 h
    clear ih0
    intro v0 v1 w h
    unfold L_X6_parse_30 at h
    refine g_iload_n (pc := 30) X 1 rfl dX6_parse_30 ?_
    refine g_bipush (pc := 31) X (v := 96) dX6_parse_31 rfl ?_
    refine g_icmp_gt (pc := 33) X (tgt := 85) dX6_parse_33 rfl (fun c => ?_) (fun c => ?_)
    · have h := br_y c h
      refine g_sub (lv' := [(0, rf V v0)]) [0] rfl ?_
      exact bj_X6_parse_85 Y  h
    · have h := br_n c h
      refine g_aload_n (pc := 36) X 0 rfl dX6_parse_36 ?_
      obtain ⟨k21, h⟩ := gd_i h
      obtain ⟨r22, w23, h24, h⟩ := bd2_i h
      refine g_callV (pc := 37) X FcX6 k21 mk_X6_advance q_715 q_8 q_713 (c_X6_advance h24) rfl rfl (by rw [Y.2.1]; decide)  rfl (rest := []) rfl (Nat.le_of_ble_eq_true rfl) (by rw [Y.2.1]; exact ⟨Nat.le_of_ble_eq_true rfl, Nat.le_of_ble_eq_true rfl⟩) dX6_parse_37 (st' := []) rfl ?_
      refine g_aload_n (pc := 40) X 0 rfl dX6_parse_40 ?_
      obtain ⟨k25, h⟩ := gd_i h
      refine g_getI (pc := 41) X FcX6 k25 2 (by decide) rfl q_234 dX6_parse_41 ?_
      refine g_if_ne (pc := 44) X (tgt := 50) dX6_parse_44 rfl (fun c => ?_) (fun c => ?_)
      · have h := br_n c h
        refine g_aload_n (pc := 50) X 0 rfl dX6_parse_50 ?_
        refine g_getI (pc := 51) X FcX6 k25 6 (by decide) rfl q_238 dX6_parse_51 ?_
        refine g_if_eq (pc := 54) X (tgt := 67) dX6_parse_54 rfl (fun c => ?_) (fun c => ?_)
        · have h := br_y c h
          refine g_aload_n (pc := 67) X 0 rfl dX6_parse_67 ?_
          obtain ⟨r26, w27, h28, h⟩ := bd2_i h
          refine g_callV (pc := 68) X FcX6 k25 mk_X6_takesSign q_873 q_19 q_871 (c_X6_takesSign h28) rfl rfl (by rw [Y.2.1]; decide)  rfl (rest := []) rfl (Nat.le_of_ble_eq_true rfl) (by rw [Y.2.1]; exact ⟨Nat.le_of_ble_eq_true rfl, Nat.le_of_ble_eq_true rfl⟩) dX6_parse_68 (st' := [.int r26]) rfl ?_
          refine g_if_ne (pc := 71) X (tgt := 79) dX6_parse_71 rfl (fun c => ?_) (fun c => ?_)
          · have h := br_n c h
            obtain ⟨x29, e30, h⟩ := lb_i h
            refine g_iinc (pc := 79) X 1 rfl dX6_parse_79 (v := x29) e30.symm (by decide) (lv' := [(1, .int x29), (0, rf V v0)]) rfl ?_
            refine g_goto (pc := 82) X (tgt := 30) dX6_parse_82 rfl ?_
            refine g_sub (lv' := [(0, rf V v0), (1, .int x29)]) [1, 0] rfl ?_
            exact ih _ _ _ h
          · have h := br_y c h
            refine g_sub (lv' := [(0, rf V v0)]) [0] rfl ?_
            exact bj_X6_parse_74 Y  h
        · have h := br_n c h
          refine g_aload_n (pc := 57) X 0 rfl dX6_parse_57 ?_
          obtain ⟨r32, w33, h34, h⟩ := bd2_i h
          refine g_callV (pc := 58) X FcX6 k25 mk_X6_takesPiece q_781 q_11 q_779 (c_X6_takesPiece h34) rfl rfl (by rw [Y.2.1]; decide)  rfl (rest := []) rfl (Nat.le_of_ble_eq_true rfl) (by rw [Y.2.1]; exact ⟨Nat.le_of_ble_eq_true rfl, Nat.le_of_ble_eq_true rfl⟩) dX6_parse_58 (st' := [.int r32]) rfl ?_
          refine g_if_eq (pc := 61) X (tgt := 74) dX6_parse_61 rfl (fun c => ?_) (fun c => ?_)
          · have h := br_y c h
            refine g_sub (lv' := [(0, rf V v0)]) [0] rfl ?_
            exact bj_X6_parse_74 Y  h
          · have h := br_n c h
            refine g_goto (pc := 64) X (tgt := 79) dX6_parse_64 rfl ?_
            obtain ⟨x35, e36, h⟩ := lb_i h
            refine g_iinc (pc := 79) X 1 rfl dX6_parse_79 (v := x35) e36.symm (by decide) (lv' := [(1, .int x35), (0, rf V v0)]) rfl ?_
            refine g_goto (pc := 82) X (tgt := 30) dX6_parse_82 rfl ?_
            refine g_sub (lv' := [(0, rf V v0), (1, .int x35)]) [1, 0] rfl ?_
            exact ih _ _ _ h
      · have h := br_y c h
        refine g_goto (pc := 47) X (tgt := 85) dX6_parse_47 rfl ?_
        refine g_sub (lv' := [(0, rf V v0)]) [0] rfl ?_
        exact bj_X6_parse_85 Y  h

def f_X6_parse (v0 : Nat) (w : Wd) : Option (Int32 × Wd) := (if wK w v0 = 6 then
 (bd2 (f_X6_begin v0 w) fun r2 w3 =>
 (if wK w3 v0 = 6 then
 (bd2 (f_X6_advance v0 w3) fun r6 w7 =>
 (if wK w7 v0 = 6 then
 (bd2 (f_X6_keyHere v0 w7) fun r10 w11 =>
 (if wK w11 v0 = 6 then
 (lb_ (sI w11 v0 5 r10) fun w14 =>
 (if 0 ≤ (wI w14 v0 5) then
 L_X6_parse_30 FU v0 0 w14
 else
 some (wI w14 v0 3, w14)))
 else none))
 else none))
 else none))
 else none)
theorem c_X6_parse {l : Launch} {V : Vt} {v0 : Nat} {w w' : Wd} {r : Int32} (h : f_X6_parse v0 w = some (r, w')) : MetW l V yX6_parse cX6_parse 2 (some .int) { frames := 6, cells := 0, slots := 0, locals := 133 } w [rf V v0] (some (.int r)) w' 0 0 := by
  refine g_start (by decide) (Nat.le_of_ble_eq_true rfl) ?_
  intro t _ hrm X hret hnm
  have Y : Hd_ t V cX6_parse 2 RX6 { frames := 6, cells := 0, slots := 0, locals := 133 } (some .int) "parse" := ⟨X, hrm, hret, hnm⟩
  refine g_as (lv' := [(0, rf V v0)]) (st' := []) rfl rfl ?_
  unfold f_X6_parse at h
  refine g_aload_n (pc := 0) X 0 rfl dX6_parse_0 ?_
  obtain ⟨k1, h⟩ := gd_i h
  obtain ⟨r2, w3, h4, h⟩ := bd2_i h
  refine g_callV (pc := 1) X FcX6 k1 mk_X6_begin q_711 q_7 q_709 (c_X6_begin h4) rfl rfl (by rw [Y.2.1]; decide)  rfl (rest := []) rfl (Nat.le_of_ble_eq_true rfl) (by rw [Y.2.1]; exact ⟨Nat.le_of_ble_eq_true rfl, Nat.le_of_ble_eq_true rfl⟩) dX6_parse_1 (st' := []) rfl ?_
  refine g_aload_n (pc := 4) X 0 rfl dX6_parse_4 ?_
  obtain ⟨k5, h⟩ := gd_i h
  obtain ⟨r6, w7, h8, h⟩ := bd2_i h
  refine g_callV (pc := 5) X FcX6 k5 mk_X6_advance q_715 q_8 q_713 (c_X6_advance h8) rfl rfl (by rw [Y.2.1]; decide)  rfl (rest := []) rfl (Nat.le_of_ble_eq_true rfl) (by rw [Y.2.1]; exact ⟨Nat.le_of_ble_eq_true rfl, Nat.le_of_ble_eq_true rfl⟩) dX6_parse_5 (st' := []) rfl ?_
  refine g_aload_n (pc := 8) X 0 rfl dX6_parse_8 ?_
  refine g_aload_n (pc := 9) X 0 rfl dX6_parse_9 ?_
  obtain ⟨k9, h⟩ := gd_i h
  obtain ⟨r10, w11, h12, h⟩ := bd2_i h
  refine g_callV (pc := 10) X FcX6 k9 mk_X6_keyHere q_722 q_9 q_720 (c_X6_keyHere h12) rfl rfl (by rw [Y.2.1]; decide)  rfl (rest := [rf V v0]) rfl (Nat.le_of_ble_eq_true rfl) (by rw [Y.2.1]; exact ⟨Nat.le_of_ble_eq_true rfl, Nat.le_of_ble_eq_true rfl⟩) dX6_parse_10 (st' := [.int r10, rf V v0]) rfl ?_
  obtain ⟨k13, h⟩ := gd_i h
  refine g_putI (pc := 13) X FcX6 k13 5 (by decide) rfl q_237 rfl rfl rfl dX6_parse_13 ?_
  obtain ⟨w14, e15, h⟩ := lb_i h
  refine g_w e15 ?_
  refine g_aload_n (pc := 16) X 0 rfl dX6_parse_16 ?_
  refine g_getI (pc := 17) X FcX6 (kd_I e15 k13) 5 (by decide) rfl q_237 dX6_parse_17 ?_
  refine g_if_ge (pc := 20) X (tgt := 28) dX6_parse_20 rfl (fun c => ?_) (fun c => ?_)
  · have h := br_y c h
    refine g_iconst (pc := 28) X (v := 0) dX6_parse_28 rfl ?_
    refine g_istore_n (pc := 29) X (lv' := [(1, .int 0), (0, rf V v0)]) dX6_parse_29 (by decide) rfl ?_
    refine g_sub (lv' := [(0, rf V v0), (1, .int 0)]) [1, 0] rfl ?_
    exact bL_X6_parse_30 Y  h
  · have h := br_n c h
    refine g_aload_n (pc := 23) X 0 rfl dX6_parse_23 ?_
    refine g_getI (pc := 24) X FcX6 (kd_I e15 k13) 3 (by decide) rfl q_235 dX6_parse_24 ?_
    obtain ⟨e1, e2⟩ := rt_i h
    exact g_iret (pc := 27) X Y.2.2.1 (Nat.le_of_ble_eq_true rfl) (Nat.le_of_ble_eq_true rfl) e1 e2 dX6_parse_27

set_option maxHeartbeats 4000000 in
set_option maxRecDepth 100000 in
def f_X8_init (v0 : Nat) (w : Wd) : Option (Unit × Wd) := (lb_ (wN w) fun a1 =>
 (lb_ (nC w 1 11) fun w3 =>
 (bd2 (f_X1_init a1 w3) fun r5 w6 =>
 (if wK w6 v0 = 8 then
 (lb_ (sR w6 v0 0 (some a1)) fun w9 =>
 (lb_ (wN w9) fun a11 =>
 (lb_ (nC w9 1 11) fun w13 =>
 (bd2 (f_X1_init a11 w13) fun r15 w16 =>
 (if wK w16 v0 = 8 then
 (lb_ (sR w16 v0 1 (some a11)) fun w19 =>
 (lb_ (wN w19) fun a21 =>
 (lb_ (nC w19 1 11) fun w23 =>
 (bd2 (f_X1_init a21 w23) fun r25 w26 =>
 (if wK w26 v0 = 8 then
 (lb_ (sR w26 v0 2 (some a21)) fun w29 =>
 (lb_ (wN w29) fun a31 =>
 (lb_ (nC w29 2 4) fun w33 =>
 (bd2 (f_X2_init a31 w33) fun r35 w36 =>
 (if wK w36 v0 = 8 then
 (lb_ (sR w36 v0 4 (some a31)) fun w39 =>
 (lb_ (wN w39) fun a41 =>
 (lb_ (nC w39 6 14) fun w43 =>
 (bd2 (f_X6_init a41 w43) fun r45 w46 =>
 (if wK w46 v0 = 8 then
 (lb_ (sR w46 v0 5 (some a41)) fun w49 =>
 (lb_ (wN w49) fun a51 =>
 (lb_ (nC w49 13 4) fun w53 =>
 (if wK w53 v0 = 8 then
 (lb_ (sR w53 v0 6 (some a51)) fun w56 =>
 (lb_ (wN w56) fun a58 =>
 (lb_ (nC w56 15 5) fun w60 =>
 (if wK w60 v0 = 8 then
 (lb_ (sR w60 v0 7 (some a58)) fun w63 =>
 (lb_ (wN w63) fun a65 =>
 (lb_ (nC w63 11 60) fun w67 =>
 (if wK w67 v0 = 8 then
 (lb_ (sR w67 v0 8 (some a65)) fun w70 =>
 (bd1 (wR w70 v0 6) fun a72 =>
 (lb_ (wN w70) fun a74 =>
 (lb_ (nC w70 3 3) fun w76 =>
 (bd2 (f_X3_init a74 w76) fun r78 w79 =>
 (if wK w79 a74 = 3 then
 (if aK 13 w79 a72 0 = true then
 (lb_ (sR w79 a72 (nx 0) (some a74)) fun w83 =>
 (if wK w83 v0 = 8 then
 (bd1 (wR w83 v0 6) fun a86 =>
 (lb_ (wN w83) fun a88 =>
 (lb_ (nC w83 3 3) fun w90 =>
 (bd2 (f_X3_init a88 w90) fun r92 w93 =>
 (if wK w93 a88 = 3 then
 (if aK 13 w93 a86 1 = true then
 (lb_ (sR w93 a86 (nx 1) (some a88)) fun w97 =>
 (if wK w97 v0 = 8 then
 (bd1 (wR w97 v0 6) fun a100 =>
 (lb_ (wN w97) fun a102 =>
 (lb_ (nC w97 3 3) fun w104 =>
 (bd2 (f_X3_init a102 w104) fun r106 w107 =>
 (if wK w107 a102 = 3 then
 (if aK 13 w107 a100 2 = true then
 (lb_ (sR w107 a100 (nx 2) (some a102)) fun w111 =>
 (if wK w111 v0 = 8 then
 (bd1 (wR w111 v0 6) fun a114 =>
 (lb_ (wN w111) fun a116 =>
 (lb_ (nC w111 3 3) fun w118 =>
 (bd2 (f_X3_init a116 w118) fun r120 w121 =>
 (if wK w121 a116 = 3 then
 (if aK 13 w121 a114 3 = true then
 (lb_ (sR w121 a114 (nx 3) (some a116)) fun w125 =>
 (if wK w125 v0 = 8 then
 (bd1 (wR w125 v0 7) fun a128 =>
 (lb_ (wN w125) fun a130 =>
 (lb_ (nC w125 5 4) fun w132 =>
 (bd2 (f_X5_init a130 w132) fun r134 w135 =>
 (if wK w135 a130 = 5 then
 (if aK 15 w135 a128 0 = true then
 (lb_ (sR w135 a128 (nx 0) (some a130)) fun w139 =>
 (if wK w139 v0 = 8 then
 (bd1 (wR w139 v0 7) fun a142 =>
 (lb_ (wN w139) fun a144 =>
 (lb_ (nC w139 5 4) fun w146 =>
 (bd2 (f_X5_init a144 w146) fun r148 w149 =>
 (if wK w149 a144 = 5 then
 (if aK 15 w149 a142 1 = true then
 (lb_ (sR w149 a142 (nx 1) (some a144)) fun w153 =>
 (if wK w153 v0 = 8 then
 (bd1 (wR w153 v0 7) fun a156 =>
 (lb_ (wN w153) fun a158 =>
 (lb_ (nC w153 5 4) fun w160 =>
 (bd2 (f_X5_init a158 w160) fun r162 w163 =>
 (if wK w163 a158 = 5 then
 (if aK 15 w163 a156 2 = true then
 (lb_ (sR w163 a156 (nx 2) (some a158)) fun w167 =>
 (if wK w167 v0 = 8 then
 (bd1 (wR w167 v0 7) fun a170 =>
 (lb_ (wN w167) fun a172 =>
 (lb_ (nC w167 5 4) fun w174 =>
 (bd2 (f_X5_init a172 w174) fun r176 w177 =>
 (if wK w177 a172 = 5 then
 (if aK 15 w177 a170 3 = true then
 (lb_ (sR w177 a170 (nx 3) (some a172)) fun w181 =>
 (if wK w181 v0 = 8 then
 (bd1 (wR w181 v0 7) fun a184 =>
 (lb_ (wN w181) fun a186 =>
 (lb_ (nC w181 5 4) fun w188 =>
 (bd2 (f_X5_init a186 w188) fun r190 w191 =>
 (if wK w191 a186 = 5 then
 (if aK 15 w191 a184 4 = true then
 (lb_ (sR w191 a184 (nx 4) (some a186)) fun w195 =>
 some ((), w195))
 else none)
 else none)))))
 else none))
 else none)
 else none)))))
 else none))
 else none)
 else none)))))
 else none))
 else none)
 else none)))))
 else none))
 else none)
 else none)))))
 else none))
 else none)
 else none)))))
 else none))
 else none)
 else none)))))
 else none))
 else none)
 else none)))))
 else none))
 else none)
 else none))))))
 else none))))
 else none))))
 else none))))
 else none)))))
 else none)))))
 else none)))))
 else none)))))
 else none))))
set_option maxHeartbeats 4000000 in
set_option maxRecDepth 100000 in
theorem c_X8_init {l : Launch} {V : Vt} {v0 : Nat} {w w' : Wd} {r : Unit} (h : f_X8_init v0 w = some (r, w')) : MetW l V yX8_init cX8_init 2 (none) { frames := 3, cells := 95, slots := 5090, locals := 61 } w [rf V v0] none w' 95 5090 := by
  refine g_start (by decide) (Nat.le_of_ble_eq_true rfl) ?_
  intro t _ hrm X hret hnm
  have Y : Hd_ t V cX8_init 2 RX8 { frames := 3, cells := 95, slots := 5090, locals := 61 } (none) "<init>" := ⟨X, hrm, hret, hnm⟩
  refine g_as (lv' := [(0, rf V v0)]) (st' := []) rfl rfl ?_
  unfold f_X8_init at h
  refine g_aload_n (pc := 0) X 0 rfl dX8_init_0 ?_
  refine g_objInit (pc := 1) X q_87 q_88 q_89 (by rw [Y.2.1]; decide) (by rw [Y.2.1]; exact Nat.le_of_ble_eq_true rfl) dX8_init_1 ?_
  refine g_aload_n (pc := 4) X 0 rfl dX8_init_4 ?_
  refine g_new (pc := 5) X FcX1 dfX1 q_90 q_91 q_65 (by rw [Y.2.1]; exact Nat.le_of_ble_eq_true rfl) (by rw [Y.2.1]; exact Nat.le_of_ble_eq_true rfl) dX8_init_5 ?_
  obtain ⟨a1, e2, h⟩ := lb_i h
  obtain ⟨w3, e4, h⟩ := lb_i h
  refine g_w e4 ?_
  refine g_topr e2 ?_
  refine g_dup (pc := 8) X rfl dX8_init_8 ?_
  obtain ⟨r5, w6, h7, h⟩ := bd2_i h
  refine g_callI (pc := 9) X mk_X1_init rfl q_93 q_92 (c_X1_init h7) rfl rfl (by rw [Y.2.1]; decide)  rfl (rest := [rf V a1, rf V v0]) rfl (Nat.le_of_ble_eq_true rfl) (by rw [Y.2.1]; exact ⟨Nat.le_of_ble_eq_true rfl, Nat.le_of_ble_eq_true rfl⟩) dX8_init_9 (st' := [rf V a1, rf V v0]) rfl ?_
  obtain ⟨k8, h⟩ := gd_i h
  refine g_putFR (pc := 12) X FcX8 k8 0 (by decide) rfl q_321 rfl Y.2.2.2 rfl rfl rfl dX8_init_12 ?_
  obtain ⟨w9, e10, h⟩ := lb_i h
  refine g_w e10 ?_
  refine g_aload_n (pc := 15) X 0 rfl dX8_init_15 ?_
  refine g_new (pc := 16) X FcX1 dfX1 q_90 q_91 q_65 (by rw [Y.2.1]; exact Nat.le_of_ble_eq_true rfl) (by rw [Y.2.1]; exact Nat.le_of_ble_eq_true rfl) dX8_init_16 ?_
  obtain ⟨a11, e12, h⟩ := lb_i h
  obtain ⟨w13, e14, h⟩ := lb_i h
  refine g_w e14 ?_
  refine g_topr e12 ?_
  refine g_dup (pc := 19) X rfl dX8_init_19 ?_
  obtain ⟨r15, w16, h17, h⟩ := bd2_i h
  refine g_callI (pc := 20) X mk_X1_init rfl q_93 q_92 (c_X1_init h17) rfl rfl (by rw [Y.2.1]; decide)  rfl (rest := [rf V a11, rf V v0]) rfl (Nat.le_of_ble_eq_true rfl) (by rw [Y.2.1]; exact ⟨Nat.le_of_ble_eq_true rfl, Nat.le_of_ble_eq_true rfl⟩) dX8_init_20 (st' := [rf V a11, rf V v0]) rfl ?_
  obtain ⟨k18, h⟩ := gd_i h
  refine g_putFR (pc := 23) X FcX8 k18 1 (by decide) rfl q_322 rfl Y.2.2.2 rfl rfl rfl dX8_init_23 ?_
  obtain ⟨w19, e20, h⟩ := lb_i h
  refine g_w e20 ?_
  refine g_aload_n (pc := 26) X 0 rfl dX8_init_26 ?_
  refine g_new (pc := 27) X FcX1 dfX1 q_90 q_91 q_65 (by rw [Y.2.1]; exact Nat.le_of_ble_eq_true rfl) (by rw [Y.2.1]; exact Nat.le_of_ble_eq_true rfl) dX8_init_27 ?_
  obtain ⟨a21, e22, h⟩ := lb_i h
  obtain ⟨w23, e24, h⟩ := lb_i h
  refine g_w e24 ?_
  refine g_topr e22 ?_
  refine g_dup (pc := 30) X rfl dX8_init_30 ?_
  obtain ⟨r25, w26, h27, h⟩ := bd2_i h
  refine g_callI (pc := 31) X mk_X1_init rfl q_93 q_92 (c_X1_init h27) rfl rfl (by rw [Y.2.1]; decide)  rfl (rest := [rf V a21, rf V v0]) rfl (Nat.le_of_ble_eq_true rfl) (by rw [Y.2.1]; exact ⟨Nat.le_of_ble_eq_true rfl, Nat.le_of_ble_eq_true rfl⟩) dX8_init_31 (st' := [rf V a21, rf V v0]) rfl ?_
  obtain ⟨k28, h⟩ := gd_i h
  refine g_putFR (pc := 34) X FcX8 k28 2 (by decide) rfl q_323 rfl Y.2.2.2 rfl rfl rfl dX8_init_34 ?_
  obtain ⟨w29, e30, h⟩ := lb_i h
  refine g_w e30 ?_
  refine g_aload_n (pc := 37) X 0 rfl dX8_init_37 ?_
  refine g_new (pc := 38) X FcX2 dfX2 q_204 q_205 q_68 (by rw [Y.2.1]; exact Nat.le_of_ble_eq_true rfl) (by rw [Y.2.1]; exact Nat.le_of_ble_eq_true rfl) dX8_init_38 ?_
  obtain ⟨a31, e32, h⟩ := lb_i h
  obtain ⟨w33, e34, h⟩ := lb_i h
  refine g_w e34 ?_
  refine g_topr e32 ?_
  refine g_dup (pc := 41) X rfl dX8_init_41 ?_
  obtain ⟨r35, w36, h37, h⟩ := bd2_i h
  refine g_callIN (pc := 42) X mk_X2_init rfl q_207 (host := RX8) (by decide +kernel) (c_X2_init h37) rfl rfl (by rw [Y.2.1]; decide)  rfl (rest := [rf V a31, rf V v0]) rfl (Nat.le_of_ble_eq_true rfl) (by rw [Y.2.1]; exact ⟨Nat.le_of_ble_eq_true rfl, Nat.le_of_ble_eq_true rfl⟩) dX8_init_42 (st' := [rf V a31, rf V v0]) rfl ?_
  obtain ⟨k38, h⟩ := gd_i h
  refine g_putFR (pc := 45) X FcX8 k38 4 (by decide) rfl q_325 rfl Y.2.2.2 rfl rfl rfl dX8_init_45 ?_
  obtain ⟨w39, e40, h⟩ := lb_i h
  refine g_w e40 ?_
  refine g_aload_n (pc := 48) X 0 rfl dX8_init_48 ?_
  refine g_new (pc := 49) X FcX6 dfX6 q_225 q_226 q_69 (by rw [Y.2.1]; exact Nat.le_of_ble_eq_true rfl) (by rw [Y.2.1]; exact Nat.le_of_ble_eq_true rfl) dX8_init_49 ?_
  obtain ⟨a41, e42, h⟩ := lb_i h
  obtain ⟨w43, e44, h⟩ := lb_i h
  refine g_w e44 ?_
  refine g_topr e42 ?_
  refine g_dup (pc := 52) X rfl dX8_init_52 ?_
  obtain ⟨r45, w46, h47, h⟩ := bd2_i h
  refine g_callIN (pc := 53) X mk_X6_init rfl q_228 (host := RX8) (by decide +kernel) (c_X6_init h47) rfl rfl (by rw [Y.2.1]; decide)  rfl (rest := [rf V a41, rf V v0]) rfl (Nat.le_of_ble_eq_true rfl) (by rw [Y.2.1]; exact ⟨Nat.le_of_ble_eq_true rfl, Nat.le_of_ble_eq_true rfl⟩) dX8_init_53 (st' := [rf V a41, rf V v0]) rfl ?_
  obtain ⟨k48, h⟩ := gd_i h
  refine g_putFR (pc := 56) X FcX8 k48 5 (by decide) rfl q_326 rfl Y.2.2.2 rfl rfl rfl dX8_init_56 ?_
  obtain ⟨w49, e50, h⟩ := lb_i h
  refine g_w e50 ?_
  refine g_aload_n (pc := 59) X 0 rfl dX8_init_59 ?_
  refine g_iconst (pc := 60) X (v := 4) dX8_init_60 rfl ?_
  refine g_anew (pc := 61) X (k := 13) (by decide) (by decide) rfl q_275 (by decide +kernel) (N := 4) (by decide) rfl (Nat.le_of_ble_eq_true rfl) (by rw [Y.2.1]; exact Nat.le_of_ble_eq_true rfl) (by rw [Y.2.1]; exact Nat.le_of_ble_eq_true rfl) dX8_init_61 ?_
  obtain ⟨a51, e52, h⟩ := lb_i h
  obtain ⟨w53, e54, h⟩ := lb_i h
  refine g_w e54 ?_
  refine g_topr e52 ?_
  obtain ⟨k55, h⟩ := gd_i h
  refine g_putFR (pc := 64) X FcX8 k55 6 (by decide) rfl q_327 rfl Y.2.2.2 rfl rfl rfl dX8_init_64 ?_
  obtain ⟨w56, e57, h⟩ := lb_i h
  refine g_w e57 ?_
  refine g_aload_n (pc := 67) X 0 rfl dX8_init_67 ?_
  refine g_iconst (pc := 68) X (v := 5) dX8_init_68 rfl ?_
  refine g_anew (pc := 69) X (k := 15) (by decide) (by decide) rfl q_277 (by decide +kernel) (N := 5) (by decide) rfl (Nat.le_of_ble_eq_true rfl) (by rw [Y.2.1]; exact Nat.le_of_ble_eq_true rfl) (by rw [Y.2.1]; exact Nat.le_of_ble_eq_true rfl) dX8_init_69 ?_
  obtain ⟨a58, e59, h⟩ := lb_i h
  obtain ⟨w60, e61, h⟩ := lb_i h
  refine g_w e61 ?_
  refine g_topr e59 ?_
  obtain ⟨k62, h⟩ := gd_i h
  refine g_putFR (pc := 72) X FcX8 k62 7 (by decide) rfl q_328 rfl Y.2.2.2 rfl rfl rfl dX8_init_72 ?_
  obtain ⟨w63, e64, h⟩ := lb_i h
  refine g_w e64 ?_
  refine g_aload_n (pc := 75) X 0 rfl dX8_init_75 ?_
  refine g_bipush (pc := 76) X (v := 60) dX8_init_76 rfl ?_
  refine g_newarr (pc := 78) X (atype := .int) (k := 11) (fty := .int) rfl (by decide) (by decide) rfl ra_int rfl q_155 (N := 60) (by decide) rfl (Nat.le_of_ble_eq_true rfl) (by rw [Y.2.1]; exact Nat.le_of_ble_eq_true rfl) (by rw [Y.2.1]; exact Nat.le_of_ble_eq_true rfl) dX8_init_78 ?_
  obtain ⟨a65, e66, h⟩ := lb_i h
  obtain ⟨w67, e68, h⟩ := lb_i h
  refine g_w e68 ?_
  refine g_topr e66 ?_
  obtain ⟨k69, h⟩ := gd_i h
  refine g_putFR (pc := 80) X FcX8 k69 8 (by decide) rfl q_329 rfl Y.2.2.2 rfl rfl rfl dX8_init_80 ?_
  obtain ⟨w70, e71, h⟩ := lb_i h
  refine g_w e71 ?_
  refine g_iconst (pc := 83) X (v := 0) dX8_init_83 rfl ?_
  refine g_istore_n (pc := 84) X (lv' := [(1, .int 0), (0, rf V v0)]) dX8_init_84 (by decide) rfl ?_
  refine g_iload_n (pc := 85) X 0 rfl dX8_init_85 ?_
  refine g_iconst (pc := 86) X (v := 4) dX8_init_86 rfl ?_
  refine g_icmp_ge (pc := 87) X (tgt := 109) dX8_init_87 rfl (fun c => absurd c (by decide)) (fun _ => ?_)
  refine g_aload_n (pc := 90) X 1 rfl dX8_init_90 ?_
  obtain ⟨a72, e73, h⟩ := bd1_i h
  refine g_getR (pc := 91) X FcX8 (kd_R e71 k69) 6 e73 (by decide) rfl q_327 dX8_init_91 ?_
  refine g_iload_n (pc := 94) X 0 rfl dX8_init_94 ?_
  refine g_new (pc := 95) X FcX3 dfX3 q_275 q_279 q_70 (by rw [Y.2.1]; exact Nat.le_of_ble_eq_true rfl) (by rw [Y.2.1]; exact Nat.le_of_ble_eq_true rfl) dX8_init_95 ?_
  obtain ⟨a74, e75, h⟩ := lb_i h
  obtain ⟨w76, e77, h⟩ := lb_i h
  refine g_w e77 ?_
  refine g_topr e75 ?_
  refine g_dup (pc := 98) X rfl dX8_init_98 ?_
  obtain ⟨r78, w79, h80, h⟩ := bd2_i h
  refine g_callIN (pc := 99) X mk_X3_init rfl q_281 (host := RX8) (by decide +kernel) (c_X3_init h80) rfl rfl (by rw [Y.2.1]; decide)  rfl (rest := [rf V a74, .int 0, rf V a72]) rfl (Nat.le_of_ble_eq_true rfl) (by rw [Y.2.1]; exact ⟨Nat.le_of_ble_eq_true rfl, Nat.le_of_ble_eq_true rfl⟩) dX8_init_99 (st' := [rf V a74, .int 0, rf V a72]) rfl ?_
  obtain ⟨k81, h⟩ := gd_i h
  obtain ⟨k82, h⟩ := gd_i h
  refine g_aast (pc := 102) X FcX3 k81 k82 (by decide) (by decide) rfl dX8_init_102 ?_
  obtain ⟨w83, e84, h⟩ := lb_i h
  refine g_w e84 ?_
  refine g_iinc (pc := 103) X 0 rfl dX8_init_103 (v := 1) rfl (by decide) (lv' := [(1, .int 1), (0, rf V v0)]) rfl ?_
  refine g_goto (pc := 106) X (tgt := 85) dX8_init_106 rfl ?_
  refine g_iload_n (pc := 85) X 0 rfl dX8_init_85 ?_
  refine g_iconst (pc := 86) X (v := 4) dX8_init_86 rfl ?_
  refine g_icmp_ge (pc := 87) X (tgt := 109) dX8_init_87 rfl (fun c => absurd c (by decide)) (fun _ => ?_)
  refine g_aload_n (pc := 90) X 1 rfl dX8_init_90 ?_
  obtain ⟨k85, h⟩ := gd_i h
  obtain ⟨a86, e87, h⟩ := bd1_i h
  refine g_getR (pc := 91) X FcX8 k85 6 e87 (by decide) rfl q_327 dX8_init_91 ?_
  refine g_iload_n (pc := 94) X 0 rfl dX8_init_94 ?_
  refine g_new (pc := 95) X FcX3 dfX3 q_275 q_279 q_70 (by rw [Y.2.1]; exact Nat.le_of_ble_eq_true rfl) (by rw [Y.2.1]; exact Nat.le_of_ble_eq_true rfl) dX8_init_95 ?_
  obtain ⟨a88, e89, h⟩ := lb_i h
  obtain ⟨w90, e91, h⟩ := lb_i h
  refine g_w e91 ?_
  refine g_topr e89 ?_
  refine g_dup (pc := 98) X rfl dX8_init_98 ?_
  obtain ⟨r92, w93, h94, h⟩ := bd2_i h
  refine g_callIN (pc := 99) X mk_X3_init rfl q_281 (host := RX8) (by decide +kernel) (c_X3_init h94) rfl rfl (by rw [Y.2.1]; decide)  rfl (rest := [rf V a88, .int 1, rf V a86]) rfl (Nat.le_of_ble_eq_true rfl) (by rw [Y.2.1]; exact ⟨Nat.le_of_ble_eq_true rfl, Nat.le_of_ble_eq_true rfl⟩) dX8_init_99 (st' := [rf V a88, .int 1, rf V a86]) rfl ?_
  obtain ⟨k95, h⟩ := gd_i h
  obtain ⟨k96, h⟩ := gd_i h
  refine g_aast (pc := 102) X FcX3 k95 k96 (by decide) (by decide) rfl dX8_init_102 ?_
  obtain ⟨w97, e98, h⟩ := lb_i h
  refine g_w e98 ?_
  refine g_iinc (pc := 103) X 0 rfl dX8_init_103 (v := 2) rfl (by decide) (lv' := [(1, .int 2), (0, rf V v0)]) rfl ?_
  refine g_goto (pc := 106) X (tgt := 85) dX8_init_106 rfl ?_
  refine g_iload_n (pc := 85) X 0 rfl dX8_init_85 ?_
  refine g_iconst (pc := 86) X (v := 4) dX8_init_86 rfl ?_
  refine g_icmp_ge (pc := 87) X (tgt := 109) dX8_init_87 rfl (fun c => absurd c (by decide)) (fun _ => ?_)
  refine g_aload_n (pc := 90) X 1 rfl dX8_init_90 ?_
  obtain ⟨k99, h⟩ := gd_i h
  obtain ⟨a100, e101, h⟩ := bd1_i h
  refine g_getR (pc := 91) X FcX8 k99 6 e101 (by decide) rfl q_327 dX8_init_91 ?_
  refine g_iload_n (pc := 94) X 0 rfl dX8_init_94 ?_
  refine g_new (pc := 95) X FcX3 dfX3 q_275 q_279 q_70 (by rw [Y.2.1]; exact Nat.le_of_ble_eq_true rfl) (by rw [Y.2.1]; exact Nat.le_of_ble_eq_true rfl) dX8_init_95 ?_
  obtain ⟨a102, e103, h⟩ := lb_i h
  obtain ⟨w104, e105, h⟩ := lb_i h
  refine g_w e105 ?_
  refine g_topr e103 ?_
  refine g_dup (pc := 98) X rfl dX8_init_98 ?_
  obtain ⟨r106, w107, h108, h⟩ := bd2_i h
  refine g_callIN (pc := 99) X mk_X3_init rfl q_281 (host := RX8) (by decide +kernel) (c_X3_init h108) rfl rfl (by rw [Y.2.1]; decide)  rfl (rest := [rf V a102, .int 2, rf V a100]) rfl (Nat.le_of_ble_eq_true rfl) (by rw [Y.2.1]; exact ⟨Nat.le_of_ble_eq_true rfl, Nat.le_of_ble_eq_true rfl⟩) dX8_init_99 (st' := [rf V a102, .int 2, rf V a100]) rfl ?_
  obtain ⟨k109, h⟩ := gd_i h
  obtain ⟨k110, h⟩ := gd_i h
  refine g_aast (pc := 102) X FcX3 k109 k110 (by decide) (by decide) rfl dX8_init_102 ?_
  obtain ⟨w111, e112, h⟩ := lb_i h
  refine g_w e112 ?_
  refine g_iinc (pc := 103) X 0 rfl dX8_init_103 (v := 3) rfl (by decide) (lv' := [(1, .int 3), (0, rf V v0)]) rfl ?_
  refine g_goto (pc := 106) X (tgt := 85) dX8_init_106 rfl ?_
  refine g_iload_n (pc := 85) X 0 rfl dX8_init_85 ?_
  refine g_iconst (pc := 86) X (v := 4) dX8_init_86 rfl ?_
  refine g_icmp_ge (pc := 87) X (tgt := 109) dX8_init_87 rfl (fun c => absurd c (by decide)) (fun _ => ?_)
  refine g_aload_n (pc := 90) X 1 rfl dX8_init_90 ?_
  obtain ⟨k113, h⟩ := gd_i h
  obtain ⟨a114, e115, h⟩ := bd1_i h
  refine g_getR (pc := 91) X FcX8 k113 6 e115 (by decide) rfl q_327 dX8_init_91 ?_
  refine g_iload_n (pc := 94) X 0 rfl dX8_init_94 ?_
  refine g_new (pc := 95) X FcX3 dfX3 q_275 q_279 q_70 (by rw [Y.2.1]; exact Nat.le_of_ble_eq_true rfl) (by rw [Y.2.1]; exact Nat.le_of_ble_eq_true rfl) dX8_init_95 ?_
  obtain ⟨a116, e117, h⟩ := lb_i h
  obtain ⟨w118, e119, h⟩ := lb_i h
  refine g_w e119 ?_
  refine g_topr e117 ?_
  refine g_dup (pc := 98) X rfl dX8_init_98 ?_
  obtain ⟨r120, w121, h122, h⟩ := bd2_i h
  refine g_callIN (pc := 99) X mk_X3_init rfl q_281 (host := RX8) (by decide +kernel) (c_X3_init h122) rfl rfl (by rw [Y.2.1]; decide)  rfl (rest := [rf V a116, .int 3, rf V a114]) rfl (Nat.le_of_ble_eq_true rfl) (by rw [Y.2.1]; exact ⟨Nat.le_of_ble_eq_true rfl, Nat.le_of_ble_eq_true rfl⟩) dX8_init_99 (st' := [rf V a116, .int 3, rf V a114]) rfl ?_
  obtain ⟨k123, h⟩ := gd_i h
  obtain ⟨k124, h⟩ := gd_i h
  refine g_aast (pc := 102) X FcX3 k123 k124 (by decide) (by decide) rfl dX8_init_102 ?_
  obtain ⟨w125, e126, h⟩ := lb_i h
  refine g_w e126 ?_
  refine g_iinc (pc := 103) X 0 rfl dX8_init_103 (v := 4) rfl (by decide) (lv' := [(1, .int 4), (0, rf V v0)]) rfl ?_
  refine g_goto (pc := 106) X (tgt := 85) dX8_init_106 rfl ?_
  refine g_iload_n (pc := 85) X 0 rfl dX8_init_85 ?_
  refine g_iconst (pc := 86) X (v := 4) dX8_init_86 rfl ?_
  refine g_icmp_ge (pc := 87) X (tgt := 109) dX8_init_87 rfl (fun _ => ?_) (fun c => absurd (by decide) c)
  refine g_iconst (pc := 109) X (v := 0) dX8_init_109 rfl ?_
  refine g_istore_n (pc := 110) X (lv' := [(1, .int 0), (0, rf V v0)]) dX8_init_110 (by decide) rfl ?_
  refine g_iload_n (pc := 111) X 0 rfl dX8_init_111 ?_
  refine g_iconst (pc := 112) X (v := 5) dX8_init_112 rfl ?_
  refine g_icmp_ge (pc := 113) X (tgt := 135) dX8_init_113 rfl (fun c => absurd c (by decide)) (fun _ => ?_)
  refine g_aload_n (pc := 116) X 1 rfl dX8_init_116 ?_
  obtain ⟨k127, h⟩ := gd_i h
  obtain ⟨a128, e129, h⟩ := bd1_i h
  refine g_getR (pc := 117) X FcX8 k127 7 e129 (by decide) rfl q_328 dX8_init_117 ?_
  refine g_iload_n (pc := 120) X 0 rfl dX8_init_120 ?_
  refine g_new (pc := 121) X FcX5 dfX5 q_277 q_297 q_71 (by rw [Y.2.1]; exact Nat.le_of_ble_eq_true rfl) (by rw [Y.2.1]; exact Nat.le_of_ble_eq_true rfl) dX8_init_121 ?_
  obtain ⟨a130, e131, h⟩ := lb_i h
  obtain ⟨w132, e133, h⟩ := lb_i h
  refine g_w e133 ?_
  refine g_topr e131 ?_
  refine g_dup (pc := 124) X rfl dX8_init_124 ?_
  obtain ⟨r134, w135, h136, h⟩ := bd2_i h
  refine g_callIN (pc := 125) X mk_X5_init rfl q_299 (host := RX8) (by decide +kernel) (c_X5_init h136) rfl rfl (by rw [Y.2.1]; decide)  rfl (rest := [rf V a130, .int 0, rf V a128]) rfl (Nat.le_of_ble_eq_true rfl) (by rw [Y.2.1]; exact ⟨Nat.le_of_ble_eq_true rfl, Nat.le_of_ble_eq_true rfl⟩) dX8_init_125 (st' := [rf V a130, .int 0, rf V a128]) rfl ?_
  obtain ⟨k137, h⟩ := gd_i h
  obtain ⟨k138, h⟩ := gd_i h
  refine g_aast (pc := 128) X FcX5 k137 k138 (by decide) (by decide) rfl dX8_init_128 ?_
  obtain ⟨w139, e140, h⟩ := lb_i h
  refine g_w e140 ?_
  refine g_iinc (pc := 129) X 0 rfl dX8_init_129 (v := 1) rfl (by decide) (lv' := [(1, .int 1), (0, rf V v0)]) rfl ?_
  refine g_goto (pc := 132) X (tgt := 111) dX8_init_132 rfl ?_
  refine g_iload_n (pc := 111) X 0 rfl dX8_init_111 ?_
  refine g_iconst (pc := 112) X (v := 5) dX8_init_112 rfl ?_
  refine g_icmp_ge (pc := 113) X (tgt := 135) dX8_init_113 rfl (fun c => absurd c (by decide)) (fun _ => ?_)
  refine g_aload_n (pc := 116) X 1 rfl dX8_init_116 ?_
  obtain ⟨k141, h⟩ := gd_i h
  obtain ⟨a142, e143, h⟩ := bd1_i h
  refine g_getR (pc := 117) X FcX8 k141 7 e143 (by decide) rfl q_328 dX8_init_117 ?_
  refine g_iload_n (pc := 120) X 0 rfl dX8_init_120 ?_
  refine g_new (pc := 121) X FcX5 dfX5 q_277 q_297 q_71 (by rw [Y.2.1]; exact Nat.le_of_ble_eq_true rfl) (by rw [Y.2.1]; exact Nat.le_of_ble_eq_true rfl) dX8_init_121 ?_
  obtain ⟨a144, e145, h⟩ := lb_i h
  obtain ⟨w146, e147, h⟩ := lb_i h
  refine g_w e147 ?_
  refine g_topr e145 ?_
  refine g_dup (pc := 124) X rfl dX8_init_124 ?_
  obtain ⟨r148, w149, h150, h⟩ := bd2_i h
  refine g_callIN (pc := 125) X mk_X5_init rfl q_299 (host := RX8) (by decide +kernel) (c_X5_init h150) rfl rfl (by rw [Y.2.1]; decide)  rfl (rest := [rf V a144, .int 1, rf V a142]) rfl (Nat.le_of_ble_eq_true rfl) (by rw [Y.2.1]; exact ⟨Nat.le_of_ble_eq_true rfl, Nat.le_of_ble_eq_true rfl⟩) dX8_init_125 (st' := [rf V a144, .int 1, rf V a142]) rfl ?_
  obtain ⟨k151, h⟩ := gd_i h
  obtain ⟨k152, h⟩ := gd_i h
  refine g_aast (pc := 128) X FcX5 k151 k152 (by decide) (by decide) rfl dX8_init_128 ?_
  obtain ⟨w153, e154, h⟩ := lb_i h
  refine g_w e154 ?_
  refine g_iinc (pc := 129) X 0 rfl dX8_init_129 (v := 2) rfl (by decide) (lv' := [(1, .int 2), (0, rf V v0)]) rfl ?_
  refine g_goto (pc := 132) X (tgt := 111) dX8_init_132 rfl ?_
  refine g_iload_n (pc := 111) X 0 rfl dX8_init_111 ?_
  refine g_iconst (pc := 112) X (v := 5) dX8_init_112 rfl ?_
  refine g_icmp_ge (pc := 113) X (tgt := 135) dX8_init_113 rfl (fun c => absurd c (by decide)) (fun _ => ?_)
  refine g_aload_n (pc := 116) X 1 rfl dX8_init_116 ?_
  obtain ⟨k155, h⟩ := gd_i h
  obtain ⟨a156, e157, h⟩ := bd1_i h
  refine g_getR (pc := 117) X FcX8 k155 7 e157 (by decide) rfl q_328 dX8_init_117 ?_
  refine g_iload_n (pc := 120) X 0 rfl dX8_init_120 ?_
  refine g_new (pc := 121) X FcX5 dfX5 q_277 q_297 q_71 (by rw [Y.2.1]; exact Nat.le_of_ble_eq_true rfl) (by rw [Y.2.1]; exact Nat.le_of_ble_eq_true rfl) dX8_init_121 ?_
  obtain ⟨a158, e159, h⟩ := lb_i h
  obtain ⟨w160, e161, h⟩ := lb_i h
  refine g_w e161 ?_
  refine g_topr e159 ?_
  refine g_dup (pc := 124) X rfl dX8_init_124 ?_
  obtain ⟨r162, w163, h164, h⟩ := bd2_i h
  refine g_callIN (pc := 125) X mk_X5_init rfl q_299 (host := RX8) (by decide +kernel) (c_X5_init h164) rfl rfl (by rw [Y.2.1]; decide)  rfl (rest := [rf V a158, .int 2, rf V a156]) rfl (Nat.le_of_ble_eq_true rfl) (by rw [Y.2.1]; exact ⟨Nat.le_of_ble_eq_true rfl, Nat.le_of_ble_eq_true rfl⟩) dX8_init_125 (st' := [rf V a158, .int 2, rf V a156]) rfl ?_
  obtain ⟨k165, h⟩ := gd_i h
  obtain ⟨k166, h⟩ := gd_i h
  refine g_aast (pc := 128) X FcX5 k165 k166 (by decide) (by decide) rfl dX8_init_128 ?_
  obtain ⟨w167, e168, h⟩ := lb_i h
  refine g_w e168 ?_
  refine g_iinc (pc := 129) X 0 rfl dX8_init_129 (v := 3) rfl (by decide) (lv' := [(1, .int 3), (0, rf V v0)]) rfl ?_
  refine g_goto (pc := 132) X (tgt := 111) dX8_init_132 rfl ?_
  refine g_iload_n (pc := 111) X 0 rfl dX8_init_111 ?_
  refine g_iconst (pc := 112) X (v := 5) dX8_init_112 rfl ?_
  refine g_icmp_ge (pc := 113) X (tgt := 135) dX8_init_113 rfl (fun c => absurd c (by decide)) (fun _ => ?_)
  refine g_aload_n (pc := 116) X 1 rfl dX8_init_116 ?_
  obtain ⟨k169, h⟩ := gd_i h
  obtain ⟨a170, e171, h⟩ := bd1_i h
  refine g_getR (pc := 117) X FcX8 k169 7 e171 (by decide) rfl q_328 dX8_init_117 ?_
  refine g_iload_n (pc := 120) X 0 rfl dX8_init_120 ?_
  refine g_new (pc := 121) X FcX5 dfX5 q_277 q_297 q_71 (by rw [Y.2.1]; exact Nat.le_of_ble_eq_true rfl) (by rw [Y.2.1]; exact Nat.le_of_ble_eq_true rfl) dX8_init_121 ?_
  obtain ⟨a172, e173, h⟩ := lb_i h
  obtain ⟨w174, e175, h⟩ := lb_i h
  refine g_w e175 ?_
  refine g_topr e173 ?_
  refine g_dup (pc := 124) X rfl dX8_init_124 ?_
  obtain ⟨r176, w177, h178, h⟩ := bd2_i h
  refine g_callIN (pc := 125) X mk_X5_init rfl q_299 (host := RX8) (by decide +kernel) (c_X5_init h178) rfl rfl (by rw [Y.2.1]; decide)  rfl (rest := [rf V a172, .int 3, rf V a170]) rfl (Nat.le_of_ble_eq_true rfl) (by rw [Y.2.1]; exact ⟨Nat.le_of_ble_eq_true rfl, Nat.le_of_ble_eq_true rfl⟩) dX8_init_125 (st' := [rf V a172, .int 3, rf V a170]) rfl ?_
  obtain ⟨k179, h⟩ := gd_i h
  obtain ⟨k180, h⟩ := gd_i h
  refine g_aast (pc := 128) X FcX5 k179 k180 (by decide) (by decide) rfl dX8_init_128 ?_
  obtain ⟨w181, e182, h⟩ := lb_i h
  refine g_w e182 ?_
  refine g_iinc (pc := 129) X 0 rfl dX8_init_129 (v := 4) rfl (by decide) (lv' := [(1, .int 4), (0, rf V v0)]) rfl ?_
  refine g_goto (pc := 132) X (tgt := 111) dX8_init_132 rfl ?_
  refine g_iload_n (pc := 111) X 0 rfl dX8_init_111 ?_
  refine g_iconst (pc := 112) X (v := 5) dX8_init_112 rfl ?_
  refine g_icmp_ge (pc := 113) X (tgt := 135) dX8_init_113 rfl (fun c => absurd c (by decide)) (fun _ => ?_)
  refine g_aload_n (pc := 116) X 1 rfl dX8_init_116 ?_
  obtain ⟨k183, h⟩ := gd_i h
  obtain ⟨a184, e185, h⟩ := bd1_i h
  refine g_getR (pc := 117) X FcX8 k183 7 e185 (by decide) rfl q_328 dX8_init_117 ?_
  refine g_iload_n (pc := 120) X 0 rfl dX8_init_120 ?_
  refine g_new (pc := 121) X FcX5 dfX5 q_277 q_297 q_71 (by rw [Y.2.1]; exact Nat.le_of_ble_eq_true rfl) (by rw [Y.2.1]; exact Nat.le_of_ble_eq_true rfl) dX8_init_121 ?_
  obtain ⟨a186, e187, h⟩ := lb_i h
  obtain ⟨w188, e189, h⟩ := lb_i h
  refine g_w e189 ?_
  refine g_topr e187 ?_
  refine g_dup (pc := 124) X rfl dX8_init_124 ?_
  obtain ⟨r190, w191, h192, h⟩ := bd2_i h
  refine g_callIN (pc := 125) X mk_X5_init rfl q_299 (host := RX8) (by decide +kernel) (c_X5_init h192) rfl rfl (by rw [Y.2.1]; decide)  rfl (rest := [rf V a186, .int 4, rf V a184]) rfl (Nat.le_of_ble_eq_true rfl) (by rw [Y.2.1]; exact ⟨Nat.le_of_ble_eq_true rfl, Nat.le_of_ble_eq_true rfl⟩) dX8_init_125 (st' := [rf V a186, .int 4, rf V a184]) rfl ?_
  obtain ⟨k193, h⟩ := gd_i h
  obtain ⟨k194, h⟩ := gd_i h
  refine g_aast (pc := 128) X FcX5 k193 k194 (by decide) (by decide) rfl dX8_init_128 ?_
  obtain ⟨w195, e196, h⟩ := lb_i h
  refine g_w e196 ?_
  refine g_iinc (pc := 129) X 0 rfl dX8_init_129 (v := 5) rfl (by decide) (lv' := [(1, .int 5), (0, rf V v0)]) rfl ?_
  refine g_goto (pc := 132) X (tgt := 111) dX8_init_132 rfl ?_
  refine g_iload_n (pc := 111) X 0 rfl dX8_init_111 ?_
  refine g_iconst (pc := 112) X (v := 5) dX8_init_112 rfl ?_
  refine g_icmp_ge (pc := 113) X (tgt := 135) dX8_init_113 rfl (fun _ => ?_) (fun c => absurd (by decide) c)
  obtain ⟨e1, e2⟩ := rt_i h
  exact g_vret (pc := 135) X Y.2.2.1 (Nat.le_of_ble_eq_true rfl) (Nat.le_of_ble_eq_true rfl) e2 dX8_init_135

