/-! by program: the pure functions of the methods, and their walks -/
def f_X9_sitsDown (v0 : Nat) (v1 : Int32) (v2 : Int32) (w : Wd) : Option (Int32 × Wd) := (if wK w v0 = 9 then
 (bd2 (f_X9_paysAt v0 v1 v2 w) fun r2 w3 =>
 (if wK w3 v0 = 9 then
 (bd2 (f_X9_put v0 v1 1 v2 w3) fun r6 w7 =>
 (if wK w7 v0 = 9 then
 (bd2 (f_X9_of v0 v1 3 w7) fun r10 w11 =>
 (if wK w11 v0 = 9 then
 (bd2 (f_X9_put v0 v1 3 (r10 + 1) w11) fun r14 w15 =>
 (if wK w15 v0 = 9 then
 (bd2 (f_X9_of v0 v1 2 w15) fun r18 w19 =>
 (bd2 (f_X9_within (r18 - r2) (-9999) 9999 w19) fun r21 w22 =>
 (if wK w22 v0 = 9 then
 (bd2 (f_X9_put v0 v1 2 r21 w22) fun r25 w26 =>
 (if wK w26 v0 = 9 then
 (bd1 (wR w26 v0 0) fun a29 =>
 (if aK 11 w26 a29 10 = true then
 (if aK 11 w26 a29 10 = true then
 (lb_ (sI w26 a29 (nx 10) ((wI w26 a29 (nx 10)) + r2)) fun w33 =>
 some (r2, w33))
 else none)
 else none))
 else none))
 else none)))
 else none))
 else none))
 else none))
 else none))
 else none)
theorem c_X9_sitsDown {l : Launch} {V : Vt} {v0 : Nat} {v1 : Int32} {v2 : Int32} {w w' : Wd} {r : Int32} (h : f_X9_sitsDown v0 v1 v2 w = some (r, w')) : MetW l V yX9_sitsDown cX9_sitsDown 4 (some .int) { frames := 3, cells := 0, slots := 0, locals := 71 } w [rf V v0, .int v1, .int v2] (some (.int r)) w' 0 0 := by
  refine g_start (by decide) (Nat.le_of_ble_eq_true rfl) ?_
  intro t _ hrm X hret hnm
  have Y : Hd_ t V cX9_sitsDown 4 RX9 { frames := 3, cells := 0, slots := 0, locals := 71 } (some .int) "sitsDown" := ⟨X, hrm, hret, hnm⟩
  refine g_as (lv' := [(0, rf V v0), (1, .int v1), (2, .int v2)]) (st' := []) rfl rfl ?_
  unfold f_X9_sitsDown at h
  refine g_aload_n (pc := 0) X 0 rfl dX9_sitsDown_0 ?_
  refine g_iload_n (pc := 1) X 1 rfl dX9_sitsDown_1 ?_
  refine g_iload_n (pc := 2) X 2 rfl dX9_sitsDown_2 ?_
  obtain ⟨k1, h⟩ := gd_i h
  obtain ⟨r2, w3, h4, h⟩ := bd2_i h
  refine g_callV (pc := 3) X FcX9 k1 mk_X9_paysAt q_1234 q_39 q_1232 (c_X9_paysAt h4) rfl rfl (by rw [Y.2.1]; decide)  rfl (rest := []) rfl (Nat.le_of_ble_eq_true rfl) (by rw [Y.2.1]; exact ⟨Nat.le_of_ble_eq_true rfl, Nat.le_of_ble_eq_true rfl⟩) dX9_sitsDown_3 (st' := [.int r2]) rfl ?_
  refine g_istore_n (pc := 6) X (lv' := [(3, .int r2), (0, rf V v0), (1, .int v1), (2, .int v2)]) dX9_sitsDown_6 (by decide) rfl ?_
  refine g_aload_n (pc := 7) X 1 rfl dX9_sitsDown_7 ?_
  refine g_iload_n (pc := 8) X 2 rfl dX9_sitsDown_8 ?_
  refine g_iconst (pc := 9) X (v := 1) dX9_sitsDown_9 rfl ?_
  refine g_iload_n (pc := 10) X 3 rfl dX9_sitsDown_10 ?_
  obtain ⟨k5, h⟩ := gd_i h
  obtain ⟨r6, w7, h8, h⟩ := bd2_i h
  refine g_callV (pc := 11) X FcX9 k5 mk_X9_put q_1146 q_25 q_1144 (c_X9_put h8) rfl rfl (by rw [Y.2.1]; decide)  rfl (rest := []) rfl (Nat.le_of_ble_eq_true rfl) (by rw [Y.2.1]; exact ⟨Nat.le_of_ble_eq_true rfl, Nat.le_of_ble_eq_true rfl⟩) dX9_sitsDown_11 (st' := []) rfl ?_
  refine g_aload_n (pc := 14) X 1 rfl dX9_sitsDown_14 ?_
  refine g_iload_n (pc := 15) X 2 rfl dX9_sitsDown_15 ?_
  refine g_iconst (pc := 16) X (v := 3) dX9_sitsDown_16 rfl ?_
  refine g_aload_n (pc := 17) X 1 rfl dX9_sitsDown_17 ?_
  refine g_iload_n (pc := 18) X 2 rfl dX9_sitsDown_18 ?_
  refine g_iconst (pc := 19) X (v := 3) dX9_sitsDown_19 rfl ?_
  obtain ⟨k9, h⟩ := gd_i h
  obtain ⟨r10, w11, h12, h⟩ := bd2_i h
  refine g_callV (pc := 20) X FcX9 k9 mk_X9_of q_1142 q_24 q_1140 (c_X9_of h12) rfl rfl (by rw [Y.2.1]; decide)  rfl (rest := [.int 3, .int v1, rf V v0]) rfl (Nat.le_of_ble_eq_true rfl) (by rw [Y.2.1]; exact ⟨Nat.le_of_ble_eq_true rfl, Nat.le_of_ble_eq_true rfl⟩) dX9_sitsDown_20 (st' := [.int r10, .int 3, .int v1, rf V v0]) rfl ?_
  refine g_iconst (pc := 23) X (v := 1) dX9_sitsDown_23 rfl ?_
  refine g_iadd (pc := 24) X dX9_sitsDown_24 ?_
  obtain ⟨k13, h⟩ := gd_i h
  obtain ⟨r14, w15, h16, h⟩ := bd2_i h
  refine g_callV (pc := 25) X FcX9 k13 mk_X9_put q_1146 q_25 q_1144 (c_X9_put h16) rfl rfl (by rw [Y.2.1]; decide)  rfl (rest := []) rfl (Nat.le_of_ble_eq_true rfl) (by rw [Y.2.1]; exact ⟨Nat.le_of_ble_eq_true rfl, Nat.le_of_ble_eq_true rfl⟩) dX9_sitsDown_25 (st' := []) rfl ?_
  refine g_aload_n (pc := 28) X 1 rfl dX9_sitsDown_28 ?_
  refine g_iload_n (pc := 29) X 2 rfl dX9_sitsDown_29 ?_
  refine g_iconst (pc := 30) X (v := 2) dX9_sitsDown_30 rfl ?_
  refine g_aload_n (pc := 31) X 1 rfl dX9_sitsDown_31 ?_
  refine g_iload_n (pc := 32) X 2 rfl dX9_sitsDown_32 ?_
  refine g_iconst (pc := 33) X (v := 2) dX9_sitsDown_33 rfl ?_
  obtain ⟨k17, h⟩ := gd_i h
  obtain ⟨r18, w19, h20, h⟩ := bd2_i h
  refine g_callV (pc := 34) X FcX9 k17 mk_X9_of q_1142 q_24 q_1140 (c_X9_of h20) rfl rfl (by rw [Y.2.1]; decide)  rfl (rest := [.int 2, .int v1, rf V v0]) rfl (Nat.le_of_ble_eq_true rfl) (by rw [Y.2.1]; exact ⟨Nat.le_of_ble_eq_true rfl, Nat.le_of_ble_eq_true rfl⟩) dX9_sitsDown_34 (st' := [.int r18, .int 2, .int v1, rf V v0]) rfl ?_
  refine g_iload_n (pc := 37) X 0 rfl dX9_sitsDown_37 ?_
  refine g_isub (pc := 38) X dX9_sitsDown_38 ?_
  refine g_sipush (pc := 39) X (v := (-9999)) dX9_sitsDown_39 rfl ?_
  refine g_sipush (pc := 42) X (v := 9999) dX9_sitsDown_42 rfl ?_
  obtain ⟨r21, w22, h23, h⟩ := bd2_i h
  refine g_callS (pc := 45) X mk_X9_within q_1248 q_1247 (c_X9_within h23) rfl rfl (by rw [Y.2.1]; decide)  rfl (rest := [.int 2, .int v1, rf V v0]) rfl (Nat.le_of_ble_eq_true rfl) (by rw [Y.2.1]; exact ⟨Nat.le_of_ble_eq_true rfl, Nat.le_of_ble_eq_true rfl⟩) dX9_sitsDown_45 (st' := [.int r21, .int 2, .int v1, rf V v0]) rfl ?_
  obtain ⟨k24, h⟩ := gd_i h
  obtain ⟨r25, w26, h27, h⟩ := bd2_i h
  refine g_callV (pc := 48) X FcX9 k24 mk_X9_put q_1146 q_25 q_1144 (c_X9_put h27) rfl rfl (by rw [Y.2.1]; decide)  rfl (rest := []) rfl (Nat.le_of_ble_eq_true rfl) (by rw [Y.2.1]; exact ⟨Nat.le_of_ble_eq_true rfl, Nat.le_of_ble_eq_true rfl⟩) dX9_sitsDown_48 (st' := []) rfl ?_
  refine g_aload_n (pc := 51) X 1 rfl dX9_sitsDown_51 ?_
  obtain ⟨k28, h⟩ := gd_i h
  obtain ⟨a29, e30, h⟩ := bd1_i h
  refine g_getR (pc := 52) X FcX9 k28 0 e30 (by decide) rfl q_1020 dX9_sitsDown_52 ?_
  refine g_bipush (pc := 55) X (v := 10) dX9_sitsDown_55 rfl ?_
  refine g_dup2 (pc := 57) X rfl rfl dX9_sitsDown_57 ?_
  obtain ⟨k31, h⟩ := gd_i h
  refine g_iald (pc := 58) X k31 dX9_sitsDown_58 ?_
  refine g_iload_n (pc := 59) X 0 rfl dX9_sitsDown_59 ?_
  refine g_iadd (pc := 60) X dX9_sitsDown_60 ?_
  obtain ⟨k32, h⟩ := gd_i h
  refine g_iast (pc := 61) X k32 dX9_sitsDown_61 ?_
  obtain ⟨w33, e34, h⟩ := lb_i h
  refine g_w e34 ?_
  refine g_iload_n (pc := 62) X 0 rfl dX9_sitsDown_62 ?_
  obtain ⟨e1, e2⟩ := rt_i h
  exact g_iret (pc := 63) X Y.2.2.1 (Nat.le_of_ble_eq_true rfl) (Nat.le_of_ble_eq_true rfl) e1 e2 dX9_sitsDown_63

def f_X9_sits (v0 : Nat) (v1 : Int32) (v2 : Int32) (w : Wd) : Option (Int32 × Wd) := (if wK w v0 = 9 then
 (bd2 (f_X9_isSitter v0 v1 w) fun r2 w3 =>
 (if r2 = 0 then
 some ((-1000000001), w3)
 else
 (if wK w3 v0 = 9 then
 (bd2 (f_X9_isPlace v0 v2 w3) fun r6 w7 =>
 (if r6 = 0 then
 some ((-1000000001), w7)
 else
 (if wK w7 v0 = 9 then
 (bd2 (f_X9_taken v0 w7) fun r10 w11 =>
 (if wK w11 v0 = 9 then
 (bd2 (f_X9_may v0 v1 v2 r10 w11) fun r14 w15 =>
 (if r14 = 0 then
 some ((-1000000002), w15)
 else
 (if wK w15 v0 = 9 then
 (bd2 (f_X9_sitsDown v0 v1 v2 w15) fun r18 w19 =>
 some (r18, w19))
 else none)))
 else none))
 else none)))
 else none)))
 else none)
theorem c_X9_sits {l : Launch} {V : Vt} {v0 : Nat} {v1 : Int32} {v2 : Int32} {w w' : Wd} {r : Int32} (h : f_X9_sits v0 v1 v2 w = some (r, w')) : MetW l V yX9_sits cX9_sits 3 (some .int) { frames := 5, cells := 0, slots := 0, locals := 117 } w [rf V v0, .int v1, .int v2] (some (.int r)) w' 0 0 := by
  refine g_start (by decide) (Nat.le_of_ble_eq_true rfl) ?_
  intro t _ hrm X hret hnm
  have Y : Hd_ t V cX9_sits 3 RX9 { frames := 5, cells := 0, slots := 0, locals := 117 } (some .int) "sits" := ⟨X, hrm, hret, hnm⟩
  refine g_as (lv' := [(0, rf V v0), (1, .int v1), (2, .int v2)]) (st' := []) rfl rfl ?_
  unfold f_X9_sits at h
  refine g_aload_n (pc := 0) X 0 rfl dX9_sits_0 ?_
  refine g_iload_n (pc := 1) X 1 rfl dX9_sits_1 ?_
  obtain ⟨k1, h⟩ := gd_i h
  obtain ⟨r2, w3, h4, h⟩ := bd2_i h
  refine g_callV (pc := 2) X FcX9 k1 mk_X9_isSitter q_1163 q_27 q_1161 (c_X9_isSitter h4) rfl rfl (by rw [Y.2.1]; decide)  rfl (rest := []) rfl (Nat.le_of_ble_eq_true rfl) (by rw [Y.2.1]; exact ⟨Nat.le_of_ble_eq_true rfl, Nat.le_of_ble_eq_true rfl⟩) dX9_sits_2 (st' := [.int r2]) rfl ?_
  refine g_if_eq (pc := 5) X (tgt := 16) dX9_sits_5 rfl (fun c => ?_) (fun c => ?_)
  · have h := br_y c h
    refine g_ldc (pc := 16) X q_1135 dX9_sits_16 ?_
    obtain ⟨e1, e2⟩ := rt_i h
    exact g_iret (pc := 18) X Y.2.2.1 (Nat.le_of_ble_eq_true rfl) (Nat.le_of_ble_eq_true rfl) e1 e2 dX9_sits_18
  · have h := br_n c h
    refine g_aload_n (pc := 8) X 0 rfl dX9_sits_8 ?_
    refine g_iload_n (pc := 9) X 2 rfl dX9_sits_9 ?_
    obtain ⟨k5, h⟩ := gd_i h
    obtain ⟨r6, w7, h8, h⟩ := bd2_i h
    refine g_callV (pc := 10) X FcX9 k5 mk_X9_isPlace q_1194 q_34 q_1192 (c_X9_isPlace h8) rfl rfl (by rw [Y.2.1]; decide)  rfl (rest := []) rfl (Nat.le_of_ble_eq_true rfl) (by rw [Y.2.1]; exact ⟨Nat.le_of_ble_eq_true rfl, Nat.le_of_ble_eq_true rfl⟩) dX9_sits_10 (st' := [.int r6]) rfl ?_
    refine g_if_ne (pc := 13) X (tgt := 19) dX9_sits_13 rfl (fun c => ?_) (fun c => ?_)
    · have h := br_n c h
      refine g_aload_n (pc := 19) X 0 rfl dX9_sits_19 ?_
      refine g_iload_n (pc := 20) X 1 rfl dX9_sits_20 ?_
      refine g_iload_n (pc := 21) X 2 rfl dX9_sits_21 ?_
      refine g_aload_n (pc := 22) X 0 rfl dX9_sits_22 ?_
      obtain ⟨k9, h⟩ := gd_i h
      obtain ⟨r10, w11, h12, h⟩ := bd2_i h
      refine g_callV (pc := 23) X FcX9 k9 mk_X9_taken q_1182 q_31 q_1180 (c_X9_taken h12) rfl rfl (by rw [Y.2.1]; decide)  rfl (rest := [.int v2, .int v1, rf V v0]) rfl (Nat.le_of_ble_eq_true rfl) (by rw [Y.2.1]; exact ⟨Nat.le_of_ble_eq_true rfl, Nat.le_of_ble_eq_true rfl⟩) dX9_sits_23 (st' := [.int r10, .int v2, .int v1, rf V v0]) rfl ?_
      obtain ⟨k13, h⟩ := gd_i h
      obtain ⟨r14, w15, h16, h⟩ := bd2_i h
      refine g_callV (pc := 26) X FcX9 k13 mk_X9_may q_1186 q_32 q_1184 (c_X9_may h16) rfl rfl (by rw [Y.2.1]; decide)  rfl (rest := []) rfl (Nat.le_of_ble_eq_true rfl) (by rw [Y.2.1]; exact ⟨Nat.le_of_ble_eq_true rfl, Nat.le_of_ble_eq_true rfl⟩) dX9_sits_26 (st' := [.int r14]) rfl ?_
      refine g_if_eq (pc := 29) X (tgt := 41) dX9_sits_29 rfl (fun c => ?_) (fun c => ?_)
      · have h := br_y c h
        refine g_ldc (pc := 41) X q_1219 dX9_sits_41 ?_
        obtain ⟨e1, e2⟩ := rt_i h
        exact g_iret (pc := 43) X Y.2.2.1 (Nat.le_of_ble_eq_true rfl) (Nat.le_of_ble_eq_true rfl) e1 e2 dX9_sits_43
      · have h := br_n c h
        refine g_aload_n (pc := 32) X 0 rfl dX9_sits_32 ?_
        refine g_iload_n (pc := 33) X 1 rfl dX9_sits_33 ?_
        refine g_iload_n (pc := 34) X 2 rfl dX9_sits_34 ?_
        obtain ⟨k17, h⟩ := gd_i h
        obtain ⟨r18, w19, h20, h⟩ := bd2_i h
        refine g_callV (pc := 35) X FcX9 k17 mk_X9_sitsDown q_1230 q_38 q_1228 (c_X9_sitsDown h20) rfl rfl (by rw [Y.2.1]; decide)  rfl (rest := []) rfl (Nat.le_of_ble_eq_true rfl) (by rw [Y.2.1]; exact ⟨Nat.le_of_ble_eq_true rfl, Nat.le_of_ble_eq_true rfl⟩) dX9_sits_35 (st' := [.int r18]) rfl ?_
        refine g_goto (pc := 38) X (tgt := 43) dX9_sits_38 rfl ?_
        obtain ⟨e1, e2⟩ := rt_i h
        exact g_iret (pc := 43) X Y.2.2.1 (Nat.le_of_ble_eq_true rfl) (Nat.le_of_ble_eq_true rfl) e1 e2 dX9_sits_43
    · have h := br_y c h
      refine g_ldc (pc := 16) X q_1135 dX9_sits_16 ?_
      obtain ⟨e1, e2⟩ := rt_i h
      exact g_iret (pc := 18) X Y.2.2.1 (Nat.le_of_ble_eq_true rfl) (Nat.le_of_ble_eq_true rfl) e1 e2 dX9_sits_18

def f_X9_rises (v0 : Nat) (v1 : Int32) (w : Wd) : Option (Int32 × Wd) := (if wK w v0 = 9 then
 (bd2 (f_X9_isSitter v0 v1 w) fun r2 w3 =>
 (if r2 = 0 then
 some ((-1000000001), w3)
 else
 (if wK w3 v0 = 9 then
 (bd2 (f_X9_of v0 v1 1 w3) fun r6 w7 =>
 (if 0 ≤ r6 then
 (if wK w7 v0 = 9 then
 (bd2 (f_X9_becomes v0 ((24 + (4 * v1)) + 1) (-1) w7) fun r10 w11 =>
 some (r10, w11))
 else none)
 else
 some ((-1000000002), w7)))
 else none)))
 else none)
theorem c_X9_rises {l : Launch} {V : Vt} {v0 : Nat} {v1 : Int32} {w w' : Wd} {r : Int32} (h : f_X9_rises v0 v1 w = some (r, w')) : MetW l V yX9_rises cX9_rises 2 (some .int) { frames := 2, cells := 0, slots := 0, locals := 43 } w [rf V v0, .int v1] (some (.int r)) w' 0 0 := by
  refine g_start (by decide) (Nat.le_of_ble_eq_true rfl) ?_
  intro t _ hrm X hret hnm
  have Y : Hd_ t V cX9_rises 2 RX9 { frames := 2, cells := 0, slots := 0, locals := 43 } (some .int) "rises" := ⟨X, hrm, hret, hnm⟩
  refine g_as (lv' := [(0, rf V v0), (1, .int v1)]) (st' := []) rfl rfl ?_
  unfold f_X9_rises at h
  refine g_aload_n (pc := 0) X 0 rfl dX9_rises_0 ?_
  refine g_iload_n (pc := 1) X 1 rfl dX9_rises_1 ?_
  obtain ⟨k1, h⟩ := gd_i h
  obtain ⟨r2, w3, h4, h⟩ := bd2_i h
  refine g_callV (pc := 2) X FcX9 k1 mk_X9_isSitter q_1163 q_27 q_1161 (c_X9_isSitter h4) rfl rfl (by rw [Y.2.1]; decide)  rfl (rest := []) rfl (Nat.le_of_ble_eq_true rfl) (by rw [Y.2.1]; exact ⟨Nat.le_of_ble_eq_true rfl, Nat.le_of_ble_eq_true rfl⟩) dX9_rises_2 (st' := [.int r2]) rfl ?_
  refine g_if_ne (pc := 5) X (tgt := 11) dX9_rises_5 rfl (fun c => ?_) (fun c => ?_)
  · have h := br_n c h
    refine g_aload_n (pc := 11) X 0 rfl dX9_rises_11 ?_
    refine g_iload_n (pc := 12) X 1 rfl dX9_rises_12 ?_
    refine g_iconst (pc := 13) X (v := 1) dX9_rises_13 rfl ?_
    obtain ⟨k5, h⟩ := gd_i h
    obtain ⟨r6, w7, h8, h⟩ := bd2_i h
    refine g_callV (pc := 14) X FcX9 k5 mk_X9_of q_1142 q_24 q_1140 (c_X9_of h8) rfl rfl (by rw [Y.2.1]; decide)  rfl (rest := []) rfl (Nat.le_of_ble_eq_true rfl) (by rw [Y.2.1]; exact ⟨Nat.le_of_ble_eq_true rfl, Nat.le_of_ble_eq_true rfl⟩) dX9_rises_14 (st' := [.int r6]) rfl ?_
    refine g_if_ge (pc := 17) X (tgt := 25) dX9_rises_17 rfl (fun c => ?_) (fun c => ?_)
    · have h := br_y c h
      refine g_aload_n (pc := 25) X 0 rfl dX9_rises_25 ?_
      refine g_bipush (pc := 26) X (v := 24) dX9_rises_26 rfl ?_
      refine g_iconst (pc := 28) X (v := 4) dX9_rises_28 rfl ?_
      refine g_iload_n (pc := 29) X 1 rfl dX9_rises_29 ?_
      refine g_imul (pc := 30) X dX9_rises_30 ?_
      refine g_iadd (pc := 31) X dX9_rises_31 ?_
      refine g_iconst (pc := 32) X (v := 1) dX9_rises_32 rfl ?_
      refine g_iadd (pc := 33) X dX9_rises_33 ?_
      refine g_iconst (pc := 34) X (v := (-1)) dX9_rises_34 rfl ?_
      obtain ⟨k9, h⟩ := gd_i h
      obtain ⟨r10, w11, h12, h⟩ := bd2_i h
      refine g_callV (pc := 35) X FcX9 k9 mk_X9_becomes q_1222 q_37 q_1220 (c_X9_becomes h12) rfl rfl (by rw [Y.2.1]; decide)  rfl (rest := []) rfl (Nat.le_of_ble_eq_true rfl) (by rw [Y.2.1]; exact ⟨Nat.le_of_ble_eq_true rfl, Nat.le_of_ble_eq_true rfl⟩) dX9_rises_35 (st' := [.int r10]) rfl ?_
      obtain ⟨e1, e2⟩ := rt_i h
      exact g_iret (pc := 38) X Y.2.2.1 (Nat.le_of_ble_eq_true rfl) (Nat.le_of_ble_eq_true rfl) e1 e2 dX9_rises_38
    · have h := br_n c h
      refine g_ldc (pc := 20) X q_1219 dX9_rises_20 ?_
      refine g_goto (pc := 22) X (tgt := 38) dX9_rises_22 rfl ?_
      obtain ⟨e1, e2⟩ := rt_i h
      exact g_iret (pc := 38) X Y.2.2.1 (Nat.le_of_ble_eq_true rfl) (Nat.le_of_ble_eq_true rfl) e1 e2 dX9_rises_38
  · have h := br_y c h
    refine g_ldc (pc := 8) X q_1135 dX9_rises_8 ?_
    obtain ⟨e1, e2⟩ := rt_i h
    exact g_iret (pc := 10) X Y.2.2.1 (Nat.le_of_ble_eq_true rfl) (Nat.le_of_ble_eq_true rfl) e1 e2 dX9_rises_10

def L_X9_who_15  (n : Nat) (v0 : Nat) (v1 : Int32) (v2 : Int32) (v3 : Int32) (w : Wd) : Option (Int32 × Wd) := match n with
  | 0 => none
  | n + 1 => (if wK w v0 = 9 then
 (bd1 (wR w v0 0) fun a6 =>
 (if aK 11 w a6 1 = true then
 (if (wI w a6 (nx 1)) ≤ v3 then
 (bd2 (f_X9_told0 v2 w) fun r9 w10 =>
 some (r9, w10))
 else
 (bd2 (f_X9_setOf v0 v3 w) fun r12 w13 =>
 (lb_ (if ((r12 >>> (v1 &&& 31)) &&& 1) = 1 then v3 else v2 : Int32) fun x15 =>
 (lb_ (v3 + 1) fun x17 =>
 L_X9_who_15 n v0 v1 x15 x17 w13))))
 else none))
 else none)
theorem bL_X9_who_15 {t : Ct} {V : Vt} {r : Int32} {w' : Wd} (Y : Hd_ t V cX9_who 4 RX9 { frames := 3, cells := 0, slots := 0, locals := 64 } (some .int) "who") : ∀ {n : Nat} {v0 : Nat} {v1 : Int32} {v2 : Int32} {v3 : Int32} {w : Wd}, L_X9_who_15  n v0 v1 v2 v3 w = some (r, w') → Gd t V 4 0 0 (Qe t V (some (.int r)) w' 0 0) 15 [(0, rf V v0), (1, .int v1), (2, .int v2), (3, .int v3)] [] w := by
  have X := Y.1
  intro n
  induction n with
  | zero => intro v0 v1 v2 v3 w h; cases h
  | succ n ih0 =>
    have ih : ∀ (v0 : Nat) (v1 : Int32) (v2 : Int32) (v3 : Int32) (w : Wd), L_X9_who_15  n v0 v1 v2 v3 w = some (r, w') → Gd t V 4 0 0 (Qe t V (some (.int r)) w' 0 0) 15 [(0, rf V v0), (1, .int v1), (2, .int v2), (3, .int v3)] [] w := fun v0 v1 v2 v3 w h => ih0 h
    clear ih0
    intro v0 v1 v2 v3 w h
    unfold L_X9_who_15 at h
    refine g_iload_n (pc := 15) X 3 rfl dX9_who_15 ?_
    refine g_aload_n (pc := 16) X 0 rfl dX9_who_16 ?_
    obtain ⟨k5, h⟩ := gd_i h
    obtain ⟨a6, e7, h⟩ := bd1_i h
    refine g_getR (pc := 17) X FcX9 k5 0 e7 (by decide) rfl q_1020 dX9_who_17 ?_
    refine g_iconst (pc := 20) X (v := 1) dX9_who_20 rfl ?_
    obtain ⟨k8, h⟩ := gd_i h
    refine g_iald (pc := 21) X k8 dX9_who_21 ?_
    refine g_icmp_ge (pc := 22) X (tgt := 50) dX9_who_22 rfl (fun c => ?_) (fun c => ?_)
    · have h := br_y c h
      refine g_iload_n (pc := 50) X 2 rfl dX9_who_50 ?_
      obtain ⟨r9, w10, h11, h⟩ := bd2_i h
      refine g_callS (pc := 51) X mk_X9_told0 q_1259 q_1258 (c_X9_told0 h11) rfl rfl (by rw [Y.2.1]; decide)  rfl (rest := []) rfl (Nat.le_of_ble_eq_true rfl) (by rw [Y.2.1]; exact ⟨Nat.le_of_ble_eq_true rfl, Nat.le_of_ble_eq_true rfl⟩) dX9_who_51 (st' := [.int r9]) rfl ?_
      obtain ⟨e1, e2⟩ := rt_i h
      exact g_iret (pc := 54) X Y.2.2.1 (Nat.le_of_ble_eq_true rfl) (Nat.le_of_ble_eq_true rfl) e1 e2 dX9_who_54
    · have h := br_n c h
      refine g_aload_n (pc := 25) X 0 rfl dX9_who_25 ?_
      refine g_iload_n (pc := 26) X 3 rfl dX9_who_26 ?_
      obtain ⟨r12, w13, h14, h⟩ := bd2_i h
      refine g_callV (pc := 27) X FcX9 k5 mk_X9_setOf q_1167 q_28 q_1165 (c_X9_setOf h14) rfl rfl (by rw [Y.2.1]; decide)  rfl (rest := []) rfl (Nat.le_of_ble_eq_true rfl) (by rw [Y.2.1]; exact ⟨Nat.le_of_ble_eq_true rfl, Nat.le_of_ble_eq_true rfl⟩) dX9_who_27 (st' := [.int r12]) rfl ?_
      refine g_iload_n (pc := 30) X 1 rfl dX9_who_30 ?_
      refine g_ishr (pc := 31) X dX9_who_31 ?_
      refine g_iconst (pc := 32) X (v := 1) dX9_who_32 rfl ?_
      refine g_iand (pc := 33) X dX9_who_33 ?_
      refine g_iconst (pc := 34) X (v := 1) dX9_who_34 rfl ?_
      have kJ : Gd t V 4 0 0 (Qe t V (some (.int r)) w' 0 0) 43 [(0, rf V v0), (1, .int v1), (2, .int v2), (3, .int v3)] [.int (if ((r12 >>> (v1 &&& 31)) &&& 1) = 1 then v3 else v2 : Int32)] w13 := by
        obtain ⟨x15, e16, h⟩ := lb_i h
        refine g_top e16 ?_
        refine g_istore_n (pc := 43) X (lv' := [(2, .int x15), (0, rf V v0), (1, .int v1), (3, .int v3)]) dX9_who_43 (by decide) rfl ?_
        obtain ⟨x17, e18, h⟩ := lb_i h
        refine g_iinc (pc := 44) X 3 rfl dX9_who_44 (v := x17) e18.symm (by decide) (lv' := [(3, .int x17), (2, .int x15), (0, rf V v0), (1, .int v1)]) rfl ?_
        refine g_goto (pc := 47) X (tgt := 15) dX9_who_47 rfl ?_
        refine g_sub (lv' := [(0, rf V v0), (1, .int v1), (2, .int x15), (3, .int x17)]) [2, 3, 1, 0] rfl ?_
        exact ih _ _ _ _ _ h
      refine g_icmp_ne (pc := 35) X (tgt := 42) dX9_who_35 rfl (fun c0 => ?_) (fun c0 => ?_)
      · refine g_iload_n (pc := 42) X 2 rfl dX9_who_42 ?_
        exact g_top (by rw [if_neg c0]) kJ
      · refine g_iload_n (pc := 38) X 3 rfl dX9_who_38 ?_
        refine g_goto (pc := 39) X (tgt := 43) dX9_who_39 rfl ?_
        exact g_top (by rw [if_pos c0]) kJ

def f_X9_who (v0 : Nat) (v1 : Int32) (w : Wd) : Option (Int32 × Wd) := (if wK w v0 = 9 then
 (bd2 (f_X9_isPlace v0 v1 w) fun r2 w3 =>
 (if r2 = 0 then
 some ((-1000000001), w3)
 else
 L_X9_who_15 FU v0 v1 (-1) 0 w3))
 else none)
theorem c_X9_who {l : Launch} {V : Vt} {v0 : Nat} {v1 : Int32} {w w' : Wd} {r : Int32} (h : f_X9_who v0 v1 w = some (r, w')) : MetW l V yX9_who cX9_who 4 (some .int) { frames := 3, cells := 0, slots := 0, locals := 64 } w [rf V v0, .int v1] (some (.int r)) w' 0 0 := by
  refine g_start (by decide) (Nat.le_of_ble_eq_true rfl) ?_
  intro t _ hrm X hret hnm
  have Y : Hd_ t V cX9_who 4 RX9 { frames := 3, cells := 0, slots := 0, locals := 64 } (some .int) "who" := ⟨X, hrm, hret, hnm⟩
  refine g_as (lv' := [(0, rf V v0), (1, .int v1)]) (st' := []) rfl rfl ?_
  unfold f_X9_who at h
  refine g_aload_n (pc := 0) X 0 rfl dX9_who_0 ?_
  refine g_iload_n (pc := 1) X 1 rfl dX9_who_1 ?_
  obtain ⟨k1, h⟩ := gd_i h
  obtain ⟨r2, w3, h4, h⟩ := bd2_i h
  refine g_callV (pc := 2) X FcX9 k1 mk_X9_isPlace q_1194 q_34 q_1192 (c_X9_isPlace h4) rfl rfl (by rw [Y.2.1]; decide)  rfl (rest := []) rfl (Nat.le_of_ble_eq_true rfl) (by rw [Y.2.1]; exact ⟨Nat.le_of_ble_eq_true rfl, Nat.le_of_ble_eq_true rfl⟩) dX9_who_2 (st' := [.int r2]) rfl ?_
  refine g_if_ne (pc := 5) X (tgt := 11) dX9_who_5 rfl (fun c => ?_) (fun c => ?_)
  · have h := br_n c h
    refine g_iconst (pc := 11) X (v := (-1)) dX9_who_11 rfl ?_
    refine g_istore_n (pc := 12) X (lv' := [(2, .int (-1)), (0, rf V v0), (1, .int v1)]) dX9_who_12 (by decide) rfl ?_
    refine g_iconst (pc := 13) X (v := 0) dX9_who_13 rfl ?_
    refine g_istore_n (pc := 14) X (lv' := [(3, .int 0), (2, .int (-1)), (0, rf V v0), (1, .int v1)]) dX9_who_14 (by decide) rfl ?_
    refine g_sub (lv' := [(0, rf V v0), (1, .int v1), (2, .int (-1)), (3, .int 0)]) [2, 3, 1, 0] rfl ?_
    exact bL_X9_who_15 Y  h
  · have h := br_y c h
    refine g_ldc (pc := 8) X q_1135 dX9_who_8 ?_
    obtain ⟨e1, e2⟩ := rt_i h
    exact g_iret (pc := 10) X Y.2.2.1 (Nat.le_of_ble_eq_true rfl) (Nat.le_of_ble_eq_true rfl) e1 e2 dX9_who_10

def f_X9_cushion (v0 : Nat) (v1 : Int32) (v2 : Int32) (w : Wd) : Option (Int32 × Wd) := (if wK w v0 = 9 then
 (bd2 (f_X9_isPlace v0 v1 w) fun r2 w3 =>
 (if r2 = 0 then
 some ((-1000000001), w3)
 else
 (bd2 (f_X9_in v2 0 99 w3) fun r5 w6 =>
 (if r5 = 0 then
 some ((-1000000001), w6)
 else
 (if wK w6 v0 = 9 then
 (bd2 (f_X9_becomes v0 (12 + v1) v2 w6) fun r9 w10 =>
 some (r9, w10))
 else none)))))
 else none)
theorem c_X9_cushion {l : Launch} {V : Vt} {v0 : Nat} {v1 : Int32} {v2 : Int32} {w w' : Wd} {r : Int32} (h : f_X9_cushion v0 v1 v2 w = some (r, w')) : MetW l V yX9_cushion cX9_cushion 3 (some .int) { frames := 2, cells := 0, slots := 0, locals := 43 } w [rf V v0, .int v1, .int v2] (some (.int r)) w' 0 0 := by
  refine g_start (by decide) (Nat.le_of_ble_eq_true rfl) ?_
  intro t _ hrm X hret hnm
  have Y : Hd_ t V cX9_cushion 3 RX9 { frames := 2, cells := 0, slots := 0, locals := 43 } (some .int) "cushion" := ⟨X, hrm, hret, hnm⟩
  refine g_as (lv' := [(0, rf V v0), (1, .int v1), (2, .int v2)]) (st' := []) rfl rfl ?_
  unfold f_X9_cushion at h
  refine g_aload_n (pc := 0) X 0 rfl dX9_cushion_0 ?_
  refine g_iload_n (pc := 1) X 1 rfl dX9_cushion_1 ?_
  obtain ⟨k1, h⟩ := gd_i h
  obtain ⟨r2, w3, h4, h⟩ := bd2_i h
  refine g_callV (pc := 2) X FcX9 k1 mk_X9_isPlace q_1194 q_34 q_1192 (c_X9_isPlace h4) rfl rfl (by rw [Y.2.1]; decide)  rfl (rest := []) rfl (Nat.le_of_ble_eq_true rfl) (by rw [Y.2.1]; exact ⟨Nat.le_of_ble_eq_true rfl, Nat.le_of_ble_eq_true rfl⟩) dX9_cushion_2 (st' := [.int r2]) rfl ?_
  refine g_if_eq (pc := 5) X (tgt := 30) dX9_cushion_5 rfl (fun c => ?_) (fun c => ?_)
  · have h := br_y c h
    refine g_ldc (pc := 30) X q_1135 dX9_cushion_30 ?_
    obtain ⟨e1, e2⟩ := rt_i h
    exact g_iret (pc := 32) X Y.2.2.1 (Nat.le_of_ble_eq_true rfl) (Nat.le_of_ble_eq_true rfl) e1 e2 dX9_cushion_32
  · have h := br_n c h
    refine g_iload_n (pc := 8) X 2 rfl dX9_cushion_8 ?_
    refine g_iconst (pc := 9) X (v := 0) dX9_cushion_9 rfl ?_
    refine g_bipush (pc := 10) X (v := 99) dX9_cushion_10 rfl ?_
    obtain ⟨r5, w6, h7, h⟩ := bd2_i h
    refine g_callS (pc := 12) X mk_X9_in q_1133 q_1132 (c_X9_in h7) rfl rfl (by rw [Y.2.1]; decide)  rfl (rest := []) rfl (Nat.le_of_ble_eq_true rfl) (by rw [Y.2.1]; exact ⟨Nat.le_of_ble_eq_true rfl, Nat.le_of_ble_eq_true rfl⟩) dX9_cushion_12 (st' := [.int r5]) rfl ?_
    refine g_if_eq (pc := 15) X (tgt := 30) dX9_cushion_15 rfl (fun c => ?_) (fun c => ?_)
    · have h := br_y c h
      refine g_ldc (pc := 30) X q_1135 dX9_cushion_30 ?_
      obtain ⟨e1, e2⟩ := rt_i h
      exact g_iret (pc := 32) X Y.2.2.1 (Nat.le_of_ble_eq_true rfl) (Nat.le_of_ble_eq_true rfl) e1 e2 dX9_cushion_32
    · have h := br_n c h
      refine g_aload_n (pc := 18) X 0 rfl dX9_cushion_18 ?_
      refine g_bipush (pc := 19) X (v := 12) dX9_cushion_19 rfl ?_
      refine g_iload_n (pc := 21) X 1 rfl dX9_cushion_21 ?_
      refine g_iadd (pc := 22) X dX9_cushion_22 ?_
      refine g_iload_n (pc := 23) X 2 rfl dX9_cushion_23 ?_
      obtain ⟨k8, h⟩ := gd_i h
      obtain ⟨r9, w10, h11, h⟩ := bd2_i h
      refine g_callV (pc := 24) X FcX9 k8 mk_X9_becomes q_1222 q_37 q_1220 (c_X9_becomes h11) rfl rfl (by rw [Y.2.1]; decide)  rfl (rest := []) rfl (Nat.le_of_ble_eq_true rfl) (by rw [Y.2.1]; exact ⟨Nat.le_of_ble_eq_true rfl, Nat.le_of_ble_eq_true rfl⟩) dX9_cushion_24 (st' := [.int r9]) rfl ?_
      refine g_goto (pc := 27) X (tgt := 32) dX9_cushion_27 rfl ?_
      obtain ⟨e1, e2⟩ := rt_i h
      exact g_iret (pc := 32) X Y.2.2.1 (Nat.le_of_ble_eq_true rfl) (Nat.le_of_ble_eq_true rfl) e1 e2 dX9_cushion_32

def f_X9_rule (v0 : Nat) (v1 : Int32) (v2 : Int32) (w : Wd) : Option (Int32 × Wd) := (bd2 (f_X9_in v1 0 3 w) fun r1 w2 =>
 (if r1 = 0 then
 some ((-1000000001), w2)
 else
 (bd2 (f_X9_in v2 0 (if v1 = 0 then 99 else (if v1 = 1 then 2 else 100 : Int32) : Int32) w2) fun r4 w5 =>
 (if r4 = 0 then
 some ((-1000000001), w5)
 else
 (if wK w5 v0 = 9 then
 (bd2 (f_X9_becomes v0 (6 + v1) v2 w5) fun r8 w9 =>
 some (r8, w9))
 else none)))))
theorem c_X9_rule {l : Launch} {V : Vt} {v0 : Nat} {v1 : Int32} {v2 : Int32} {w w' : Wd} {r : Int32} (h : f_X9_rule v0 v1 v2 w = some (r, w')) : MetW l V yX9_rule cX9_rule 3 (some .int) { frames := 1, cells := 0, slots := 0, locals := 23 } w [rf V v0, .int v1, .int v2] (some (.int r)) w' 0 0 := by
  refine g_start (by decide) (Nat.le_of_ble_eq_true rfl) ?_
  intro t _ hrm X hret hnm
  have Y : Hd_ t V cX9_rule 3 RX9 { frames := 1, cells := 0, slots := 0, locals := 23 } (some .int) "rule" := ⟨X, hrm, hret, hnm⟩
  refine g_as (lv' := [(0, rf V v0), (1, .int v1), (2, .int v2)]) (st' := []) rfl rfl ?_
  unfold f_X9_rule at h
  refine g_iload_n (pc := 0) X 1 rfl dX9_rule_0 ?_
  refine g_iconst (pc := 1) X (v := 0) dX9_rule_1 rfl ?_
  refine g_iconst (pc := 2) X (v := 3) dX9_rule_2 rfl ?_
  obtain ⟨r1, w2, h3, h⟩ := bd2_i h
  refine g_callS (pc := 3) X mk_X9_in q_1133 q_1132 (c_X9_in h3) rfl rfl (by rw [Y.2.1]; decide)  rfl (rest := []) rfl (Nat.le_of_ble_eq_true rfl) (by rw [Y.2.1]; exact ⟨Nat.le_of_ble_eq_true rfl, Nat.le_of_ble_eq_true rfl⟩) dX9_rule_3 (st' := [.int r1]) rfl ?_
  refine g_if_eq (pc := 6) X (tgt := 49) dX9_rule_6 rfl (fun c => ?_) (fun c => ?_)
  · have h := br_y c h
    refine g_ldc (pc := 49) X q_1135 dX9_rule_49 ?_
    obtain ⟨e1, e2⟩ := rt_i h
    exact g_iret (pc := 51) X Y.2.2.1 (Nat.le_of_ble_eq_true rfl) (Nat.le_of_ble_eq_true rfl) e1 e2 dX9_rule_51
  · have h := br_n c h
    refine g_iload_n (pc := 9) X 2 rfl dX9_rule_9 ?_
    refine g_iconst (pc := 10) X (v := 0) dX9_rule_10 rfl ?_
    refine g_iload_n (pc := 11) X 1 rfl dX9_rule_11 ?_
    have kJ : Gd t V 3 0 0 (Qe t V (some (.int r)) w' 0 0) 31 [(0, rf V v0), (1, .int v1), (2, .int v2)] [.int (if v1 = 0 then 99 else (if v1 = 1 then 2 else 100 : Int32) : Int32), .int 0, .int v2] w2 := by
      obtain ⟨r4, w5, h6, h⟩ := bd2_i h
      refine g_callS (pc := 31) X mk_X9_in q_1133 q_1132 (c_X9_in h6) rfl rfl (by rw [Y.2.1]; decide)  rfl (rest := []) rfl (Nat.le_of_ble_eq_true rfl) (by rw [Y.2.1]; exact ⟨Nat.le_of_ble_eq_true rfl, Nat.le_of_ble_eq_true rfl⟩) dX9_rule_31 (st' := [.int r4]) rfl ?_
      refine g_if_eq (pc := 34) X (tgt := 49) dX9_rule_34 rfl (fun c => ?_) (fun c => ?_)
      · have h := br_y c h
        refine g_ldc (pc := 49) X q_1135 dX9_rule_49 ?_
        obtain ⟨e1, e2⟩ := rt_i h
        exact g_iret (pc := 51) X Y.2.2.1 (Nat.le_of_ble_eq_true rfl) (Nat.le_of_ble_eq_true rfl) e1 e2 dX9_rule_51
      · have h := br_n c h
        refine g_aload_n (pc := 37) X 0 rfl dX9_rule_37 ?_
        refine g_bipush (pc := 38) X (v := 6) dX9_rule_38 rfl ?_
        refine g_iload_n (pc := 40) X 1 rfl dX9_rule_40 ?_
        refine g_iadd (pc := 41) X dX9_rule_41 ?_
        refine g_iload_n (pc := 42) X 2 rfl dX9_rule_42 ?_
        obtain ⟨k7, h⟩ := gd_i h
        obtain ⟨r8, w9, h10, h⟩ := bd2_i h
        refine g_callV (pc := 43) X FcX9 k7 mk_X9_becomes q_1222 q_37 q_1220 (c_X9_becomes h10) rfl rfl (by rw [Y.2.1]; decide)  rfl (rest := []) rfl (Nat.le_of_ble_eq_true rfl) (by rw [Y.2.1]; exact ⟨Nat.le_of_ble_eq_true rfl, Nat.le_of_ble_eq_true rfl⟩) dX9_rule_43 (st' := [.int r8]) rfl ?_
        refine g_goto (pc := 46) X (tgt := 51) dX9_rule_46 rfl ?_
        obtain ⟨e1, e2⟩ := rt_i h
        exact g_iret (pc := 51) X Y.2.2.1 (Nat.le_of_ble_eq_true rfl) (Nat.le_of_ble_eq_true rfl) e1 e2 dX9_rule_51
    refine g_if_ne (pc := 12) X (tgt := 20) dX9_rule_12 rfl (fun c0 => ?_) (fun c0 => ?_)
    · refine g_iload_n (pc := 20) X 1 rfl dX9_rule_20 ?_
      refine g_iconst (pc := 21) X (v := 1) dX9_rule_21 rfl ?_
      refine g_icmp_ne (pc := 22) X (tgt := 29) dX9_rule_22 rfl (fun c1 => ?_) (fun c1 => ?_)
      · refine g_bipush (pc := 29) X (v := 100) dX9_rule_29 rfl ?_
        exact g_top (by rw [if_neg c0, if_neg c1]) kJ
      · refine g_iconst (pc := 25) X (v := 2) dX9_rule_25 rfl ?_
        refine g_goto (pc := 26) X (tgt := 31) dX9_rule_26 rfl ?_
        exact g_top (by rw [if_neg c0, if_pos c1]) kJ
    · refine g_bipush (pc := 15) X (v := 99) dX9_rule_15 rfl ?_
      refine g_goto (pc := 17) X (tgt := 31) dX9_rule_17 rfl ?_
      exact g_top (by rw [if_pos c0]) kJ

def f_X9_draw (v0 : Nat) (w : Wd) : Option (Int32 × Wd) := (if wK w v0 = 9 then
 (bd1 (wR w v0 0) fun a2 =>
 (bd1 (wR w v0 0) fun a4 =>
 (if aK 11 w a4 0 = true then
 (if aK 11 w a2 0 = true then
 (lb_ (sI w a2 (nx 0) (((wI w a4 (nx 0)) * 1103515245) + 12345)) fun w8 =>
 (bd1 (wR w8 v0 0) fun a10 =>
 (if aK 11 w8 a10 0 = true then
 some (ushr (wI w8 a10 (nx 0)) 8, w8)
 else none)))
 else none)
 else none)))
 else none)
theorem c_X9_draw {l : Launch} {V : Vt} {v0 : Nat} {w w' : Wd} {r : Int32} (h : f_X9_draw v0 w = some (r, w')) : MetW l V yX9_draw cX9_draw 1 (some .int) { frames := 0, cells := 0, slots := 0, locals := 0 } w [rf V v0] (some (.int r)) w' 0 0 := by
  refine g_start (by decide) (Nat.le_of_ble_eq_true rfl) ?_
  intro t _ hrm X hret hnm
  have Y : Hd_ t V cX9_draw 1 RX9 { frames := 0, cells := 0, slots := 0, locals := 0 } (some .int) "draw" := ⟨X, hrm, hret, hnm⟩
  refine g_as (lv' := [(0, rf V v0)]) (st' := []) rfl rfl ?_
  unfold f_X9_draw at h
  refine g_aload_n (pc := 0) X 0 rfl dX9_draw_0 ?_
  obtain ⟨k1, h⟩ := gd_i h
  obtain ⟨a2, e3, h⟩ := bd1_i h
  refine g_getR (pc := 1) X FcX9 k1 0 e3 (by decide) rfl q_1020 dX9_draw_1 ?_
  refine g_iconst (pc := 4) X (v := 0) dX9_draw_4 rfl ?_
  refine g_aload_n (pc := 5) X 0 rfl dX9_draw_5 ?_
  obtain ⟨a4, e5, h⟩ := bd1_i h
  refine g_getR (pc := 6) X FcX9 k1 0 e5 (by decide) rfl q_1020 dX9_draw_6 ?_
  refine g_iconst (pc := 9) X (v := 0) dX9_draw_9 rfl ?_
  obtain ⟨k6, h⟩ := gd_i h
  refine g_iald (pc := 10) X k6 dX9_draw_10 ?_
  refine g_ldc (pc := 11) X q_1278 dX9_draw_11 ?_
  refine g_imul (pc := 13) X dX9_draw_13 ?_
  refine g_sipush (pc := 14) X (v := 12345) dX9_draw_14 rfl ?_
  refine g_iadd (pc := 17) X dX9_draw_17 ?_
  obtain ⟨k7, h⟩ := gd_i h
  refine g_iast (pc := 18) X k7 dX9_draw_18 ?_
  obtain ⟨w8, e9, h⟩ := lb_i h
  refine g_w e9 ?_
  refine g_aload_n (pc := 19) X 0 rfl dX9_draw_19 ?_
  obtain ⟨a10, e11, h⟩ := bd1_i h
  refine g_getR (pc := 20) X FcX9 (kd_I e9 k1) 0 e11 (by decide) rfl q_1020 dX9_draw_20 ?_
  refine g_iconst (pc := 23) X (v := 0) dX9_draw_23 rfl ?_
  obtain ⟨k12, h⟩ := gd_i h
  refine g_iald (pc := 24) X k12 dX9_draw_24 ?_
  refine g_bipush (pc := 25) X (v := 8) dX9_draw_25 rfl ?_
  refine g_iushr (pc := 27) X dX9_draw_27 ?_
  obtain ⟨e1, e2⟩ := rt_i h
  exact g_iret (pc := 28) X Y.2.2.1 (Nat.le_of_ble_eq_true rfl) (Nat.le_of_ble_eq_true rfl) e1 e2 dX9_draw_28

def L_X9_deal_15  (n : Nat) (v0 : Nat) (v1 : Int32) (v2 : Int32) (w : Wd) : Option (Int32 × Wd) := match n with
  | 0 => none
  | n + 1 => (if v1 ≤ v2 then
 some (v2, w)
 else
 (if wK w v0 = 9 then
 (bd1 (wR w v0 0) fun a5 =>
 (if aK 11 w a5 1 = true then
 (if 12 ≤ (wI w a5 (nx 1)) then
 some (v2, w)
 else
 (bd2 (f_X9_draw v0 w) fun r8 w9 =>
 (if wK w9 v0 = 9 then
 (bd2 (f_X9_comes v0 (irem r8 6) w9) fun r12 w13 =>
 (lb_ (v2 + 1) fun x15 =>
 L_X9_deal_15 n v0 v1 x15 w13))
 else none)))
 else none))
 else none))
theorem bL_X9_deal_15 {t : Ct} {V : Vt} {r : Int32} {w' : Wd} (Y : Hd_ t V cX9_deal 4 RX9 { frames := 2, cells := 0, slots := 0, locals := 45 } (some .int) "deal") : ∀ {n : Nat} {v0 : Nat} {v1 : Int32} {v2 : Int32} {w : Wd}, L_X9_deal_15  n v0 v1 v2 w = some (r, w') → Gd t V 4 0 0 (Qe t V (some (.int r)) w' 0 0) 15 [(0, rf V v0), (1, .int v1), (2, .int v2)] [] w := by
  have X := Y.1
  intro n
  induction n with
  | zero => intro v0 v1 v2 w h; cases h
  | succ n ih0 =>
    have ih : ∀ (v0 : Nat) (v1 : Int32) (v2 : Int32) (w : Wd), L_X9_deal_15  n v0 v1 v2 w = some (r, w') → Gd t V 4 0 0 (Qe t V (some (.int r)) w' 0 0) 15 [(0, rf V v0), (1, .int v1), (2, .int v2)] [] w := fun v0 v1 v2 w h => ih0 h
    clear ih0
    intro v0 v1 v2 w h
    unfold L_X9_deal_15 at h
    refine g_iload_n (pc := 15) X 2 rfl dX9_deal_15 ?_
    refine g_iload_n (pc := 16) X 1 rfl dX9_deal_16 ?_
    refine g_icmp_ge (pc := 17) X (tgt := 49) dX9_deal_17 rfl (fun c => ?_) (fun c => ?_)
    · have h := br_y c h
      refine g_iload_n (pc := 49) X 2 rfl dX9_deal_49 ?_
      obtain ⟨e1, e2⟩ := rt_i h
      exact g_iret (pc := 50) X Y.2.2.1 (Nat.le_of_ble_eq_true rfl) (Nat.le_of_ble_eq_true rfl) e1 e2 dX9_deal_50
    · have h := br_n c h
      refine g_aload_n (pc := 20) X 0 rfl dX9_deal_20 ?_
      obtain ⟨k4, h⟩ := gd_i h
      obtain ⟨a5, e6, h⟩ := bd1_i h
      refine g_getR (pc := 21) X FcX9 k4 0 e6 (by decide) rfl q_1020 dX9_deal_21 ?_
      refine g_iconst (pc := 24) X (v := 1) dX9_deal_24 rfl ?_
      obtain ⟨k7, h⟩ := gd_i h
      refine g_iald (pc := 25) X k7 dX9_deal_25 ?_
      refine g_bipush (pc := 26) X (v := 12) dX9_deal_26 rfl ?_
      refine g_icmp_ge (pc := 28) X (tgt := 49) dX9_deal_28 rfl (fun c => ?_) (fun c => ?_)
      · have h := br_y c h
        refine g_iload_n (pc := 49) X 2 rfl dX9_deal_49 ?_
        obtain ⟨e1, e2⟩ := rt_i h
        exact g_iret (pc := 50) X Y.2.2.1 (Nat.le_of_ble_eq_true rfl) (Nat.le_of_ble_eq_true rfl) e1 e2 dX9_deal_50
      · have h := br_n c h
        refine g_aload_n (pc := 31) X 0 rfl dX9_deal_31 ?_
        refine g_aload_n (pc := 32) X 0 rfl dX9_deal_32 ?_
        obtain ⟨r8, w9, h10, h⟩ := bd2_i h
        refine g_callV (pc := 33) X FcX9 k4 mk_X9_draw q_1276 q_42 q_1274 (c_X9_draw h10) rfl rfl (by rw [Y.2.1]; decide)  rfl (rest := [rf V v0]) rfl (Nat.le_of_ble_eq_true rfl) (by rw [Y.2.1]; exact ⟨Nat.le_of_ble_eq_true rfl, Nat.le_of_ble_eq_true rfl⟩) dX9_deal_33 (st' := [.int r8, rf V v0]) rfl ?_
        refine g_bipush (pc := 36) X (v := 6) dX9_deal_36 rfl ?_
        refine g_irem (pc := 38) X (by decide) dX9_deal_38 ?_
        obtain ⟨k11, h⟩ := gd_i h
        obtain ⟨r12, w13, h14, h⟩ := bd2_i h
        refine g_callV (pc := 39) X FcX9 k11 mk_X9_comes q_1155 q_26 q_1153 (c_X9_comes h14) rfl rfl (by rw [Y.2.1]; decide)  rfl (rest := []) rfl (Nat.le_of_ble_eq_true rfl) (by rw [Y.2.1]; exact ⟨Nat.le_of_ble_eq_true rfl, Nat.le_of_ble_eq_true rfl⟩) dX9_deal_39 (st' := [.int r12]) rfl ?_
        refine g_istore_n (pc := 42) X (lv' := [(3, .int r12), (0, rf V v0), (1, .int v1), (2, .int v2)]) dX9_deal_42 (by decide) rfl ?_
        obtain ⟨x15, e16, h⟩ := lb_i h
        refine g_iinc (pc := 43) X 3 rfl dX9_deal_43 (v := x15) e16.symm (by decide) (lv' := [(2, .int x15), (3, .int r12), (0, rf V v0), (1, .int v1)]) rfl ?_
        refine g_goto (pc := 46) X (tgt := 15) dX9_deal_46 rfl ?_
        refine g_sub (lv' := [(0, rf V v0), (1, .int v1), (2, .int x15)]) [2, 3, 0] rfl ?_
        exact ih _ _ _ _ h

def f_X9_deal (v0 : Nat) (v1 : Int32) (w : Wd) : Option (Int32 × Wd) := (bd2 (f_X9_in v1 1 12 w) fun r1 w2 =>
 (if r1 = 0 then
 some ((-1000000001), w2)
 else
 L_X9_deal_15 FU v0 v1 0 w2))
theorem c_X9_deal {l : Launch} {V : Vt} {v0 : Nat} {v1 : Int32} {w w' : Wd} {r : Int32} (h : f_X9_deal v0 v1 w = some (r, w')) : MetW l V yX9_deal cX9_deal 4 (some .int) { frames := 2, cells := 0, slots := 0, locals := 45 } w [rf V v0, .int v1] (some (.int r)) w' 0 0 := by
  refine g_start (by decide) (Nat.le_of_ble_eq_true rfl) ?_
  intro t _ hrm X hret hnm
  have Y : Hd_ t V cX9_deal 4 RX9 { frames := 2, cells := 0, slots := 0, locals := 45 } (some .int) "deal" := ⟨X, hrm, hret, hnm⟩
  refine g_as (lv' := [(0, rf V v0), (1, .int v1)]) (st' := []) rfl rfl ?_
  unfold f_X9_deal at h
  refine g_iload_n (pc := 0) X 1 rfl dX9_deal_0 ?_
  refine g_iconst (pc := 1) X (v := 1) dX9_deal_1 rfl ?_
  refine g_bipush (pc := 2) X (v := 12) dX9_deal_2 rfl ?_
  obtain ⟨r1, w2, h3, h⟩ := bd2_i h
  refine g_callS (pc := 4) X mk_X9_in q_1133 q_1132 (c_X9_in h3) rfl rfl (by rw [Y.2.1]; decide)  rfl (rest := []) rfl (Nat.le_of_ble_eq_true rfl) (by rw [Y.2.1]; exact ⟨Nat.le_of_ble_eq_true rfl, Nat.le_of_ble_eq_true rfl⟩) dX9_deal_4 (st' := [.int r1]) rfl ?_
  refine g_if_ne (pc := 7) X (tgt := 13) dX9_deal_7 rfl (fun c => ?_) (fun c => ?_)
  · have h := br_n c h
    refine g_iconst (pc := 13) X (v := 0) dX9_deal_13 rfl ?_
    refine g_istore_n (pc := 14) X (lv' := [(2, .int 0), (0, rf V v0), (1, .int v1)]) dX9_deal_14 (by decide) rfl ?_
    refine g_sub (lv' := [(0, rf V v0), (1, .int v1), (2, .int 0)]) [1, 2, 0] rfl ?_
    exact bL_X9_deal_15 Y  h
  · have h := br_y c h
    refine g_ldc (pc := 10) X q_1135 dX9_deal_10 ?_
    obtain ⟨e1, e2⟩ := rt_i h
    exact g_iret (pc := 12) X Y.2.2.1 (Nat.le_of_ble_eq_true rfl) (Nat.le_of_ble_eq_true rfl) e1 e2 dX9_deal_12

def f_X9_seed (v0 : Nat) (v1 : Int32) (w : Wd) : Option (Int32 × Wd) := (if wK w v0 = 9 then
 (bd2 (f_X9_becomes v0 0 v1 w) fun r2 w3 =>
 some (r2, w3))
 else none)
theorem c_X9_seed {l : Launch} {V : Vt} {v0 : Nat} {v1 : Int32} {w w' : Wd} {r : Int32} (h : f_X9_seed v0 v1 w = some (r, w')) : MetW l V yX9_seed cX9_seed 2 (some .int) { frames := 1, cells := 0, slots := 0, locals := 23 } w [rf V v0, .int v1] (some (.int r)) w' 0 0 := by
  refine g_start (by decide) (Nat.le_of_ble_eq_true rfl) ?_
  intro t _ hrm X hret hnm
  have Y : Hd_ t V cX9_seed 2 RX9 { frames := 1, cells := 0, slots := 0, locals := 23 } (some .int) "seed" := ⟨X, hrm, hret, hnm⟩
  refine g_as (lv' := [(0, rf V v0), (1, .int v1)]) (st' := []) rfl rfl ?_
  unfold f_X9_seed at h
  refine g_aload_n (pc := 0) X 0 rfl dX9_seed_0 ?_
  refine g_iconst (pc := 1) X (v := 0) dX9_seed_1 rfl ?_
  refine g_iload_n (pc := 2) X 1 rfl dX9_seed_2 ?_
  obtain ⟨k1, h⟩ := gd_i h
  obtain ⟨r2, w3, h4, h⟩ := bd2_i h
  refine g_callV (pc := 3) X FcX9 k1 mk_X9_becomes q_1222 q_37 q_1220 (c_X9_becomes h4) rfl rfl (by rw [Y.2.1]; decide)  rfl (rest := []) rfl (Nat.le_of_ble_eq_true rfl) (by rw [Y.2.1]; exact ⟨Nat.le_of_ble_eq_true rfl, Nat.le_of_ble_eq_true rfl⟩) dX9_seed_3 (st' := [.int r2]) rfl ?_
  obtain ⟨e1, e2⟩ := rt_i h
  exact g_iret (pc := 6) X Y.2.2.1 (Nat.le_of_ble_eq_true rfl) (Nat.le_of_ble_eq_true rfl) e1 e2 dX9_seed_6

def L_X9_bits_4  (n : Nat) (v0 : Int32) (v1 : Int32) (v2 : Int32) (w : Wd) : Option (Int32 × Wd) := match n with
  | 0 => none
  | n + 1 => (if 12 ≤ v2 then
 some (v1, w)
 else
 (lb_ (v1 + ((v0 >>> (v2 &&& 31)) &&& 1)) fun x1 =>
 (lb_ (v2 + 1) fun x3 =>
 L_X9_bits_4 n v0 x1 x3 w)))
theorem bL_X9_bits_4 {t : Ct} {V : Vt} {r : Int32} {w' : Wd} (Y : Hd_ t V cX9_bits 3 RX9 { frames := 0, cells := 0, slots := 0, locals := 0 } (some .int) "bits") : ∀ {n : Nat} {v0 : Int32} {v1 : Int32} {v2 : Int32} {w : Wd}, L_X9_bits_4  n v0 v1 v2 w = some (r, w') → Gd t V 3 0 0 (Qe t V (some (.int r)) w' 0 0) 4 [(0, .int v0), (1, .int v1), (2, .int v2)] [] w := by
  have X := Y.1
  intro n
  induction n with
  | zero => intro v0 v1 v2 w h; cases h
  | succ n ih0 =>
    have ih : ∀ (v0 : Int32) (v1 : Int32) (v2 : Int32) (w : Wd), L_X9_bits_4  n v0 v1 v2 w = some (r, w') → Gd t V 3 0 0 (Qe t V (some (.int r)) w' 0 0) 4 [(0, .int v0), (1, .int v1), (2, .int v2)] [] w := fun v0 v1 v2 w h => ih0 h
    clear ih0
    intro v0 v1 v2 w h
    unfold L_X9_bits_4 at h
    refine g_iload_n (pc := 4) X 2 rfl dX9_bits_4 ?_
    refine g_bipush (pc := 5) X (v := 12) dX9_bits_5 rfl ?_
    refine g_icmp_ge (pc := 7) X (tgt := 24) dX9_bits_7 rfl (fun c => ?_) (fun c => ?_)
    · have h := br_y c h
      refine g_iload_n (pc := 24) X 1 rfl dX9_bits_24 ?_
      obtain ⟨e1, e2⟩ := rt_i h
      exact g_iret (pc := 25) X Y.2.2.1 (Nat.le_of_ble_eq_true rfl) (Nat.le_of_ble_eq_true rfl) e1 e2 dX9_bits_25
    · have h := br_n c h
      refine g_iload_n (pc := 10) X 1 rfl dX9_bits_10 ?_
      refine g_iload_n (pc := 11) X 0 rfl dX9_bits_11 ?_
      refine g_iload_n (pc := 12) X 2 rfl dX9_bits_12 ?_
      refine g_ishr (pc := 13) X dX9_bits_13 ?_
      refine g_iconst (pc := 14) X (v := 1) dX9_bits_14 rfl ?_
      refine g_iand (pc := 15) X dX9_bits_15 ?_
      refine g_iadd (pc := 16) X dX9_bits_16 ?_
      obtain ⟨x1, e2, h⟩ := lb_i h
      refine g_top e2 ?_
      refine g_istore_n (pc := 17) X (lv' := [(1, .int x1), (0, .int v0), (2, .int v2)]) dX9_bits_17 (by decide) rfl ?_
      obtain ⟨x3, e4, h⟩ := lb_i h
      refine g_iinc (pc := 18) X 2 rfl dX9_bits_18 (v := x3) e4.symm (by decide) (lv' := [(2, .int x3), (1, .int x1), (0, .int v0)]) rfl ?_
      refine g_goto (pc := 21) X (tgt := 4) dX9_bits_21 rfl ?_
      refine g_sub (lv' := [(0, .int v0), (1, .int x1), (2, .int x3)]) [2, 1, 0] rfl ?_
      exact ih _ _ _ _ h

def f_X9_bits (v0 : Int32) (w : Wd) : Option (Int32 × Wd) := L_X9_bits_4 FU v0 0 0 w
theorem c_X9_bits {l : Launch} {V : Vt} {v0 : Int32} {w w' : Wd} {r : Int32} (h : f_X9_bits v0 w = some (r, w')) : MetW l V yX9_bits cX9_bits 3 (some .int) { frames := 0, cells := 0, slots := 0, locals := 0 } w [.int v0] (some (.int r)) w' 0 0 := by
  refine g_start (by decide) (Nat.le_of_ble_eq_true rfl) ?_
  intro t _ hrm X hret hnm
  have Y : Hd_ t V cX9_bits 3 RX9 { frames := 0, cells := 0, slots := 0, locals := 0 } (some .int) "bits" := ⟨X, hrm, hret, hnm⟩
  refine g_as (lv' := [(0, .int v0)]) (st' := []) rfl rfl ?_
  unfold f_X9_bits at h
  refine g_iconst (pc := 0) X (v := 0) dX9_bits_0 rfl ?_
  refine g_istore_n (pc := 1) X (lv' := [(1, .int 0), (0, .int v0)]) dX9_bits_1 (by decide) rfl ?_
  refine g_iconst (pc := 2) X (v := 0) dX9_bits_2 rfl ?_
  refine g_istore_n (pc := 3) X (lv' := [(2, .int 0), (1, .int 0), (0, .int v0)]) dX9_bits_3 (by decide) rfl ?_
  refine g_sub (lv' := [(0, .int v0), (1, .int 0), (2, .int 0)]) [2, 1, 0] rfl ?_
  exact bL_X9_bits_4 Y  h

def j_X9_placeIn_16 (kk4 : Int32 → Int32 → Int32 → Wd → Option (Int32 × Wd)) (v0 : Int32) (v2 : Int32) (v3 : Int32) (w : Wd) : Option (Int32 × Wd) := (lb_ (v2 - ((v0 >>> (v3 &&& 31)) &&& 1)) fun x1 =>
 (lb_ (v3 + 1) fun x3 =>
 kk4 v0 x1 x3 w))
theorem bj_X9_placeIn_16 {t : Ct} {V : Vt} {r : Int32} {w' : Wd} {kk4 : Int32 → Int32 → Int32 → Wd → Option (Int32 × Wd)} (Y : Hd_ t V cX9_placeIn 4 RX9 { frames := 0, cells := 0, slots := 0, locals := 0 } (some .int) "placeIn") (hk4 : ∀ (u0 : Int32) (u2 : Int32) (u3 : Int32) (w : Wd), kk4 u0 u2 u3 w = some (r, w') → Gd t V 4 0 0 (Qe t V (some (.int r)) w' 0 0) 4 [(0, .int u0), (2, .int u2), (3, .int u3)] [] w) {v0 : Int32} {v2 : Int32} {v3 : Int32} {w : Wd} (h : j_X9_placeIn_16 kk4 v0 v2 v3 w = some (r, w')) : Gd t V 4 0 0 (Qe t V (some (.int r)) w' 0 0) 16 [(0, .int v0), (2, .int v2), (3, .int v3)] [] w := by
  have X := Y.1
  unfold j_X9_placeIn_16 at h
  refine g_iload_n (pc := 16) X 1 rfl dX9_placeIn_16 ?_
  refine g_iload_n (pc := 17) X 0 rfl dX9_placeIn_17 ?_
  refine g_iload_n (pc := 18) X 2 rfl dX9_placeIn_18 ?_
  refine g_ishr (pc := 19) X dX9_placeIn_19 ?_
  refine g_iconst (pc := 20) X (v := 1) dX9_placeIn_20 rfl ?_
  refine g_iand (pc := 21) X dX9_placeIn_21 ?_
  refine g_isub (pc := 22) X dX9_placeIn_22 ?_
  obtain ⟨x1, e2, h⟩ := lb_i h
  refine g_top e2 ?_
  refine g_istore_n (pc := 23) X (lv' := [(2, .int x1), (0, .int v0), (3, .int v3)]) dX9_placeIn_23 (by decide) rfl ?_
  obtain ⟨x3, e4, h⟩ := lb_i h
  refine g_iinc (pc := 24) X 2 rfl dX9_placeIn_24 (v := x3) e4.symm (by decide) (lv' := [(3, .int x3), (2, .int x1), (0, .int v0)]) rfl ?_
  refine g_goto (pc := 27) X (tgt := 4) dX9_placeIn_27 rfl ?_
  refine g_sub (lv' := [(0, .int v0), (2, .int x1), (3, .int x3)]) [2, 1, 0] rfl ?_
  exact hk4 _ _ _ _ h

def L_X9_placeIn_4  (n : Nat) (v0 : Int32) (v2 : Int32) (v3 : Int32) (w : Wd) : Option (Int32 × Wd) := match n with
  | 0 => none
  | n + 1 => (if 0 < v2 then
 j_X9_placeIn_16 (L_X9_placeIn_4 n) v0 v2 v3 w
 else
 (if ((v0 >>> (v3 &&& 31)) &&& 1) = 0 then
 j_X9_placeIn_16 (L_X9_placeIn_4 n) v0 v2 v3 w
 else
 some (v3, w)))
theorem bL_X9_placeIn_4 {t : Ct} {V : Vt} {r : Int32} {w' : Wd} (Y : Hd_ t V cX9_placeIn 4 RX9 { frames := 0, cells := 0, slots := 0, locals := 0 } (some .int) "placeIn") : ∀ {n : Nat} {v0 : Int32} {v2 : Int32} {v3 : Int32} {w : Wd}, L_X9_placeIn_4  n v0 v2 v3 w = some (r, w') → Gd t V 4 0 0 (Qe t V (some (.int r)) w' 0 0) 4 [(0, .int v0), (2, .int v2), (3, .int v3)] [] w := by
  have X := Y.1
  intro n
  induction n with
  | zero => intro v0 v2 v3 w h; cases h
  | succ n ih0 =>
    have ih : ∀ (v0 : Int32) (v2 : Int32) (v3 : Int32) (w : Wd), L_X9_placeIn_4  n v0 v2 v3 w = some (r, w') → Gd t V 4 0 0 (Qe t V (some (.int r)) w' 0 0) 4 [(0, .int v0), (2, .int v2), (3, .int v3)] [] w := fun v0 v2 v3 w h => ih0 h
    clear ih0
    intro v0 v2 v3 w h
    unfold L_X9_placeIn_4 at h
    refine g_iload_n (pc := 4) X 1 rfl dX9_placeIn_4 ?_
    refine g_if_gt (pc := 5) X (tgt := 16) dX9_placeIn_5 rfl (fun c => ?_) (fun c => ?_)
    · have h := br_y c h
      refine g_sub (lv' := [(0, .int v0), (2, .int v2), (3, .int v3)]) [0, 1, 2] rfl ?_
      exact bj_X9_placeIn_16 Y (ih) h
    · have h := br_n c h
      refine g_iload_n (pc := 8) X 0 rfl dX9_placeIn_8 ?_
      refine g_iload_n (pc := 9) X 2 rfl dX9_placeIn_9 ?_
      refine g_ishr (pc := 10) X dX9_placeIn_10 ?_
      refine g_iconst (pc := 11) X (v := 1) dX9_placeIn_11 rfl ?_
      refine g_iand (pc := 12) X dX9_placeIn_12 ?_
      refine g_if_ne (pc := 13) X (tgt := 30) dX9_placeIn_13 rfl (fun c => ?_) (fun c => ?_)
      · have h := br_n c h
        refine g_iload_n (pc := 30) X 2 rfl dX9_placeIn_30 ?_
        obtain ⟨e1, e2⟩ := rt_i h
        exact g_iret (pc := 31) X Y.2.2.1 (Nat.le_of_ble_eq_true rfl) (Nat.le_of_ble_eq_true rfl) e1 e2 dX9_placeIn_31
      · have h := br_y c h
        refine g_sub (lv' := [(0, .int v0), (2, .int v2), (3, .int v3)]) [0, 1, 2] rfl ?_
        exact bj_X9_placeIn_16 Y (ih) h

def f_X9_placeIn (v0 : Int32) (v1 : Int32) (w : Wd) : Option (Int32 × Wd) := L_X9_placeIn_4 FU v0 v1 0 w
theorem c_X9_placeIn {l : Launch} {V : Vt} {v0 : Int32} {v1 : Int32} {w w' : Wd} {r : Int32} (h : f_X9_placeIn v0 v1 w = some (r, w')) : MetW l V yX9_placeIn cX9_placeIn 4 (some .int) { frames := 0, cells := 0, slots := 0, locals := 0 } w [.int v0, .int v1] (some (.int r)) w' 0 0 := by
  refine g_start (by decide) (Nat.le_of_ble_eq_true rfl) ?_
  intro t _ hrm X hret hnm
  have Y : Hd_ t V cX9_placeIn 4 RX9 { frames := 0, cells := 0, slots := 0, locals := 0 } (some .int) "placeIn" := ⟨X, hrm, hret, hnm⟩
  refine g_as (lv' := [(0, .int v0), (1, .int v1)]) (st' := []) rfl rfl ?_
  unfold f_X9_placeIn at h
  refine g_iload_n (pc := 0) X 1 rfl dX9_placeIn_0 ?_
  refine g_istore_n (pc := 1) X (lv' := [(2, .int v1), (0, .int v0), (1, .int v1)]) dX9_placeIn_1 (by decide) rfl ?_
  refine g_iconst (pc := 2) X (v := 0) dX9_placeIn_2 rfl ?_
  refine g_istore_n (pc := 3) X (lv' := [(3, .int 0), (2, .int v1), (0, .int v0), (1, .int v1)]) dX9_placeIn_3 (by decide) rfl ?_
  refine g_sub (lv' := [(0, .int v0), (2, .int v1), (3, .int 0)]) [2, 1, 0] rfl ?_
  exact bL_X9_placeIn_4 Y  h

def L_X9_softest_10  (n : Nat) (v0 : Nat) (v1 : Int32) (v2 : Int32) (v3 : Int32) (w : Wd) : Option (Int32 × Wd) := match n with
  | 0 => none
  | n + 1 => (if wK w v0 = 9 then
 (bd1 (wR w v0 0) fun a7 =>
 (if aK 11 w a7 2 = true then
 (if (wI w a7 (nx 2)) ≤ v3 then
 some (v2, w)
 else
 (if ((v1 >>> (v3 &&& 31)) &&& 1) = 1 then
 (bd1 (wR w v0 0) fun a12 =>
 (if aK 11 w a12 (12 + v3) = true then
 (bd1 (wR w v0 0) fun a15 =>
 (if aK 11 w a15 (12 + v2) = true then
 (lb_ (if (wI w a12 (nx (12 + v3))) ≤ (wI w a15 (nx (12 + v2))) then v2 else v3 : Int32) fun x18 =>
 (lb_ (v3 + 1) fun x20 =>
 L_X9_softest_10 n v0 v1 x18 x20 w))
 else none))
 else none))
 else
 (lb_ (v3 + 1) fun x10 =>
 L_X9_softest_10 n v0 v1 v2 x10 w)))
 else none))
 else none)
theorem bL_X9_softest_10 {t : Ct} {V : Vt} {r : Int32} {w' : Wd} (Y : Hd_ t V cX9_softest 4 RX9 { frames := 1, cells := 0, slots := 0, locals := 23 } (some .int) "softest") : ∀ {n : Nat} {v0 : Nat} {v1 : Int32} {v2 : Int32} {v3 : Int32} {w : Wd}, L_X9_softest_10  n v0 v1 v2 v3 w = some (r, w') → Gd t V 4 0 0 (Qe t V (some (.int r)) w' 0 0) 10 [(0, rf V v0), (1, .int v1), (2, .int v2), (3, .int v3)] [] w := by
  have X := Y.1
  intro n
  induction n with
  | zero => intro v0 v1 v2 v3 w h; cases h
  | succ n ih0 =>
    have ih : ∀ (v0 : Nat) (v1 : Int32) (v2 : Int32) (v3 : Int32) (w : Wd), L_X9_softest_10  n v0 v1 v2 v3 w = some (r, w') → Gd t V 4 0 0 (Qe t V (some (.int r)) w' 0 0) 10 [(0, rf V v0), (1, .int v1), (2, .int v2), (3, .int v3)] [] w := fun v0 v1 v2 v3 w h => ih0 h
    clear ih0
    intro v0 v1 v2 v3 w h
    unfold L_X9_softest_10 at h
    refine g_iload_n (pc := 10) X 3 rfl dX9_softest_10 ?_
    refine g_aload_n (pc := 11) X 0 rfl dX9_softest_11 ?_
    obtain ⟨k6, h⟩ := gd_i h
    obtain ⟨a7, e8, h⟩ := bd1_i h
    refine g_getR (pc := 12) X FcX9 k6 0 e8 (by decide) rfl q_1020 dX9_softest_12 ?_
    refine g_iconst (pc := 15) X (v := 2) dX9_softest_15 rfl ?_
    obtain ⟨k9, h⟩ := gd_i h
    refine g_iald (pc := 16) X k9 dX9_softest_16 ?_
    refine g_icmp_ge (pc := 17) X (tgt := 62) dX9_softest_17 rfl (fun c => ?_) (fun c => ?_)
    · have h := br_y c h
      refine g_iload_n (pc := 62) X 2 rfl dX9_softest_62 ?_
      obtain ⟨e1, e2⟩ := rt_i h
      exact g_iret (pc := 63) X Y.2.2.1 (Nat.le_of_ble_eq_true rfl) (Nat.le_of_ble_eq_true rfl) e1 e2 dX9_softest_63
    · have h := br_n c h
      refine g_iload_n (pc := 20) X 1 rfl dX9_softest_20 ?_
      refine g_iload_n (pc := 21) X 3 rfl dX9_softest_21 ?_
      refine g_ishr (pc := 22) X dX9_softest_22 ?_
      refine g_iconst (pc := 23) X (v := 1) dX9_softest_23 rfl ?_
      refine g_iand (pc := 24) X dX9_softest_24 ?_
      refine g_iconst (pc := 25) X (v := 1) dX9_softest_25 rfl ?_
      refine g_icmp_ne (pc := 26) X (tgt := 54) dX9_softest_26 rfl (fun c => ?_) (fun c => ?_)
      · have h := br_n c h
        refine g_iload_n (pc := 54) X 2 rfl dX9_softest_54 ?_
        refine g_istore_n (pc := 55) X (lv' := [(2, .int v2), (0, rf V v0), (1, .int v1), (3, .int v3)]) dX9_softest_55 (by decide) rfl ?_
        obtain ⟨x10, e11, h⟩ := lb_i h
        refine g_iinc (pc := 56) X 3 rfl dX9_softest_56 (v := x10) e11.symm (by decide) (lv' := [(3, .int x10), (2, .int v2), (0, rf V v0), (1, .int v1)]) rfl ?_
        refine g_goto (pc := 59) X (tgt := 10) dX9_softest_59 rfl ?_
        refine g_sub (lv' := [(0, rf V v0), (1, .int v1), (2, .int v2), (3, .int x10)]) [2, 3, 1, 0] rfl ?_
        exact ih _ _ _ _ _ h
      · have h := br_y c h
        refine g_aload_n (pc := 29) X 0 rfl dX9_softest_29 ?_
        obtain ⟨a12, e13, h⟩ := bd1_i h
        refine g_getR (pc := 30) X FcX9 k6 0 e13 (by decide) rfl q_1020 dX9_softest_30 ?_
        refine g_bipush (pc := 33) X (v := 12) dX9_softest_33 rfl ?_
        refine g_iload_n (pc := 35) X 3 rfl dX9_softest_35 ?_
        refine g_iadd (pc := 36) X dX9_softest_36 ?_
        obtain ⟨k14, h⟩ := gd_i h
        refine g_iald (pc := 37) X k14 dX9_softest_37 ?_
        refine g_aload_n (pc := 38) X 0 rfl dX9_softest_38 ?_
        obtain ⟨a15, e16, h⟩ := bd1_i h
        refine g_getR (pc := 39) X FcX9 k6 0 e16 (by decide) rfl q_1020 dX9_softest_39 ?_
        refine g_bipush (pc := 42) X (v := 12) dX9_softest_42 rfl ?_
        refine g_iload_n (pc := 44) X 2 rfl dX9_softest_44 ?_
        refine g_iadd (pc := 45) X dX9_softest_45 ?_
        obtain ⟨k17, h⟩ := gd_i h
        refine g_iald (pc := 46) X k17 dX9_softest_46 ?_
        have kJ : Gd t V 4 0 0 (Qe t V (some (.int r)) w' 0 0) 55 [(0, rf V v0), (1, .int v1), (2, .int v2), (3, .int v3)] [.int (if (wI w a12 (nx (12 + v3))) ≤ (wI w a15 (nx (12 + v2))) then v2 else v3 : Int32)] w := by
          obtain ⟨x18, e19, h⟩ := lb_i h
          refine g_top e19 ?_
          refine g_istore_n (pc := 55) X (lv' := [(2, .int x18), (0, rf V v0), (1, .int v1), (3, .int v3)]) dX9_softest_55 (by decide) rfl ?_
          obtain ⟨x20, e21, h⟩ := lb_i h
          refine g_iinc (pc := 56) X 3 rfl dX9_softest_56 (v := x20) e21.symm (by decide) (lv' := [(3, .int x20), (2, .int x18), (0, rf V v0), (1, .int v1)]) rfl ?_
          refine g_goto (pc := 59) X (tgt := 10) dX9_softest_59 rfl ?_
          refine g_sub (lv' := [(0, rf V v0), (1, .int v1), (2, .int x18), (3, .int x20)]) [2, 3, 1, 0] rfl ?_
          exact ih _ _ _ _ _ h
        refine g_icmp_le (pc := 47) X (tgt := 54) dX9_softest_47 rfl (fun c0 => ?_) (fun c0 => ?_)
        · refine g_iload_n (pc := 54) X 2 rfl dX9_softest_54 ?_
          exact g_top (by rw [if_pos c0]) kJ
        · refine g_iload_n (pc := 50) X 3 rfl dX9_softest_50 ?_
          refine g_goto (pc := 51) X (tgt := 55) dX9_softest_51 rfl ?_
          exact g_top (by rw [if_neg c0]) kJ

def f_X9_softest (v0 : Nat) (v1 : Int32) (w : Wd) : Option (Int32 × Wd) := (bd2 (f_X9_placeIn v1 0 w) fun r1 w2 =>
 (lb_ (r1 + 1) fun x4 =>
 L_X9_softest_10 FU v0 v1 r1 x4 w2))
theorem c_X9_softest {l : Launch} {V : Vt} {v0 : Nat} {v1 : Int32} {w w' : Wd} {r : Int32} (h : f_X9_softest v0 v1 w = some (r, w')) : MetW l V yX9_softest cX9_softest 4 (some .int) { frames := 1, cells := 0, slots := 0, locals := 23 } w [rf V v0, .int v1] (some (.int r)) w' 0 0 := by
  refine g_start (by decide) (Nat.le_of_ble_eq_true rfl) ?_
  intro t _ hrm X hret hnm
  have Y : Hd_ t V cX9_softest 4 RX9 { frames := 1, cells := 0, slots := 0, locals := 23 } (some .int) "softest" := ⟨X, hrm, hret, hnm⟩
  refine g_as (lv' := [(0, rf V v0), (1, .int v1)]) (st' := []) rfl rfl ?_
  unfold f_X9_softest at h
  refine g_iload_n (pc := 0) X 1 rfl dX9_softest_0 ?_
  refine g_iconst (pc := 1) X (v := 0) dX9_softest_1 rfl ?_
  obtain ⟨r1, w2, h3, h⟩ := bd2_i h
  refine g_callS (pc := 2) X mk_X9_placeIn q_1303 q_1302 (c_X9_placeIn h3) rfl rfl (by rw [Y.2.1]; decide)  rfl (rest := []) rfl (Nat.le_of_ble_eq_true rfl) (by rw [Y.2.1]; exact ⟨Nat.le_of_ble_eq_true rfl, Nat.le_of_ble_eq_true rfl⟩) dX9_softest_2 (st' := [.int r1]) rfl ?_
  refine g_istore_n (pc := 5) X (lv' := [(2, .int r1), (0, rf V v0), (1, .int v1)]) dX9_softest_5 (by decide) rfl ?_
  refine g_iload_n (pc := 6) X 0 rfl dX9_softest_6 ?_
  refine g_iconst (pc := 7) X (v := 1) dX9_softest_7 rfl ?_
  refine g_iadd (pc := 8) X dX9_softest_8 ?_
  obtain ⟨x4, e5, h⟩ := lb_i h
  refine g_top e5 ?_
  refine g_istore_n (pc := 9) X (lv' := [(3, .int x4), (2, .int r1), (0, rf V v0), (1, .int v1)]) dX9_softest_9 (by decide) rfl ?_
  refine g_sub (lv' := [(0, rf V v0), (1, .int v1), (2, .int r1), (3, .int x4)]) [2, 3, 1, 0] rfl ?_
  exact bL_X9_softest_10 Y  h

def j_X9_comesIn_101  (v0 : Nat) (v1 : Int32) (s0 : Int32) (w : Wd) : Option (Unit × Wd) := (if wK w v0 = 9 then
 (bd2 (f_X9_sitsDown v0 v1 s0 w) fun r23 w24 =>
 (if wK w24 v0 = 9 then
 (lb_ (sI w24 v0 4 ((wI w24 v0 4) + 1)) fun w27 =>
 some ((), w27))
 else none))
 else none)
theorem bj_X9_comesIn_101 {t : Ct} {V : Vt} {r : Unit} {w' : Wd} (Y : Hd_ t V cX9_comesIn 5 RX9 { frames := 6, cells := 0, slots := 0, locals := 141 } (none) "comesIn") {v0 : Nat} {v1 : Int32} {s0 : Int32} {w : Wd} (h : j_X9_comesIn_101  v0 v1 s0 w = some (r, w')) : Gd t V 5 0 0 (Qe t V none w' 0 0) 101 [(0, rf V v0), (1, .int v1)] [.int s0] w := by
  have X := Y.1
  unfold j_X9_comesIn_101 at h
  refine g_istore_n (pc := 101) X (lv' := [(3, .int s0), (0, rf V v0), (1, .int v1)]) dX9_comesIn_101 (by decide) rfl ?_
  refine g_aload_n (pc := 102) X 1 rfl dX9_comesIn_102 ?_
  refine g_iload_n (pc := 103) X 2 rfl dX9_comesIn_103 ?_
  refine g_iload_n (pc := 104) X 0 rfl dX9_comesIn_104 ?_
  obtain ⟨k22, h⟩ := gd_i h
  obtain ⟨r23, w24, h25, h⟩ := bd2_i h
  refine g_callV (pc := 105) X FcX9 k22 mk_X9_sitsDown q_1230 q_38 q_1228 (c_X9_sitsDown h25) rfl rfl (by rw [Y.2.1]; decide)  rfl (rest := []) rfl (Nat.le_of_ble_eq_true rfl) (by rw [Y.2.1]; exact ⟨Nat.le_of_ble_eq_true rfl, Nat.le_of_ble_eq_true rfl⟩) dX9_comesIn_105 (st' := [.int r23]) rfl ?_
  refine g_istore (pc := 108) X (lv' := [(4, .int r23), (3, .int s0), (0, rf V v0), (1, .int v1)]) dX9_comesIn_108 (by decide) rfl ?_
  refine g_aload_n (pc := 110) X 2 rfl dX9_comesIn_110 ?_
  refine g_dup (pc := 111) X rfl dX9_comesIn_111 ?_
  obtain ⟨k26, h⟩ := gd_i h
  refine g_getI (pc := 112) X FcX9 k26 4 (by decide) rfl q_1024 dX9_comesIn_112 ?_
  refine g_iconst (pc := 115) X (v := 1) dX9_comesIn_115 rfl ?_
  refine g_iadd (pc := 116) X dX9_comesIn_116 ?_
  refine g_putI (pc := 117) X FcX9 k26 4 (by decide) rfl q_1024 rfl rfl rfl dX9_comesIn_117 ?_
  obtain ⟨w27, e28, h⟩ := lb_i h
  refine g_w e28 ?_
  obtain ⟨e1, e2⟩ := rt_i h
  exact g_vret (pc := 120) X Y.2.2.1 (Nat.le_of_ble_eq_true rfl) (Nat.le_of_ble_eq_true rfl) e2 dX9_comesIn_120

def j_X9_comesIn_46  (v0 : Nat) (v1 : Int32) (s0 : Int32) (w : Wd) : Option (Unit × Wd) := (if s0 = 0 then
 some ((), w)
 else
 (if wK w v0 = 9 then
 (bd1 (wR w v0 0) fun a13 =>
 (if aK 11 w a13 7 = true then
 (if (wI w a13 (nx 7)) = 0 then
 (bd2 (f_X9_draw v0 w) fun r32 w33 =>
 (bd2 (f_X9_bits s0 w33) fun r35 w36 =>
 (if ¬ r35 = 0 then
 (bd2 (f_X9_placeIn s0 (irem r32 r35) w36) fun r39 w40 =>
 j_X9_comesIn_101 v0 v1 r39 w40)
 else none)))
 else
 (bd1 (wR w v0 0) fun a16 =>
 (if aK 11 w a16 7 = true then
 (if (wI w a16 (nx 7)) = 1 then
 (bd2 (f_X9_placeIn s0 0 w) fun r29 w30 =>
 j_X9_comesIn_101 v0 v1 r29 w30)
 else
 (bd2 (f_X9_softest v0 s0 w) fun r19 w20 =>
 j_X9_comesIn_101 v0 v1 r19 w20))
 else none)))
 else none))
 else none))
theorem bj_X9_comesIn_46 {t : Ct} {V : Vt} {r : Unit} {w' : Wd} (Y : Hd_ t V cX9_comesIn 5 RX9 { frames := 6, cells := 0, slots := 0, locals := 141 } (none) "comesIn") {v0 : Nat} {v1 : Int32} {s0 : Int32} {w : Wd} (h : j_X9_comesIn_46  v0 v1 s0 w = some (r, w')) : Gd t V 5 0 0 (Qe t V none w' 0 0) 46 [(0, rf V v0), (1, .int v1)] [.int s0] w := by
  have X := Y.1
  unfold j_X9_comesIn_46 at h
  refine g_istore_n (pc := 46) X (lv' := [(2, .int s0), (0, rf V v0), (1, .int v1)]) dX9_comesIn_46 (by decide) rfl ?_
  refine g_iload_n (pc := 47) X 0 rfl dX9_comesIn_47 ?_
  refine g_if_eq (pc := 48) X (tgt := 120) dX9_comesIn_48 rfl (fun c => ?_) (fun c => ?_)
  · have h := br_y c h
    obtain ⟨e1, e2⟩ := rt_i h
    exact g_vret (pc := 120) X Y.2.2.1 (Nat.le_of_ble_eq_true rfl) (Nat.le_of_ble_eq_true rfl) e2 dX9_comesIn_120
  · have h := br_n c h
    refine g_aload_n (pc := 51) X 1 rfl dX9_comesIn_51 ?_
    obtain ⟨k12, h⟩ := gd_i h
    obtain ⟨a13, e14, h⟩ := bd1_i h
    refine g_getR (pc := 52) X FcX9 k12 0 e14 (by decide) rfl q_1020 dX9_comesIn_52 ?_
    refine g_bipush (pc := 55) X (v := 7) dX9_comesIn_55 rfl ?_
    obtain ⟨k15, h⟩ := gd_i h
    refine g_iald (pc := 57) X k15 dX9_comesIn_57 ?_
    refine g_if_ne (pc := 58) X (tgt := 77) dX9_comesIn_58 rfl (fun c => ?_) (fun c => ?_)
    · have h := br_n c h
      refine g_aload_n (pc := 77) X 1 rfl dX9_comesIn_77 ?_
      obtain ⟨a16, e17, h⟩ := bd1_i h
      refine g_getR (pc := 78) X FcX9 k12 0 e17 (by decide) rfl q_1020 dX9_comesIn_78 ?_
      refine g_bipush (pc := 81) X (v := 7) dX9_comesIn_81 rfl ?_
      obtain ⟨k18, h⟩ := gd_i h
      refine g_iald (pc := 83) X k18 dX9_comesIn_83 ?_
      refine g_iconst (pc := 84) X (v := 1) dX9_comesIn_84 rfl ?_
      refine g_icmp_ne (pc := 85) X (tgt := 96) dX9_comesIn_85 rfl (fun c => ?_) (fun c => ?_)
      · have h := br_n c h
        refine g_aload_n (pc := 96) X 1 rfl dX9_comesIn_96 ?_
        refine g_iload_n (pc := 97) X 0 rfl dX9_comesIn_97 ?_
        obtain ⟨r19, w20, h21, h⟩ := bd2_i h
        refine g_callV (pc := 98) X FcX9 k12 mk_X9_softest q_1307 q_46 q_1305 (c_X9_softest h21) rfl rfl (by rw [Y.2.1]; decide)  rfl (rest := []) rfl (Nat.le_of_ble_eq_true rfl) (by rw [Y.2.1]; exact ⟨Nat.le_of_ble_eq_true rfl, Nat.le_of_ble_eq_true rfl⟩) dX9_comesIn_98 (st' := [.int r19]) rfl ?_
        refine g_sub (lv' := [(0, rf V v0), (1, .int v1)]) [1, 2] rfl ?_
        exact bj_X9_comesIn_101 Y  h
      · have h := br_y c h
        refine g_iload_n (pc := 88) X 0 rfl dX9_comesIn_88 ?_
        refine g_iconst (pc := 89) X (v := 0) dX9_comesIn_89 rfl ?_
        obtain ⟨r29, w30, h31, h⟩ := bd2_i h
        refine g_callS (pc := 90) X mk_X9_placeIn q_1303 q_1302 (c_X9_placeIn h31) rfl rfl (by rw [Y.2.1]; decide)  rfl (rest := []) rfl (Nat.le_of_ble_eq_true rfl) (by rw [Y.2.1]; exact ⟨Nat.le_of_ble_eq_true rfl, Nat.le_of_ble_eq_true rfl⟩) dX9_comesIn_90 (st' := [.int r29]) rfl ?_
        refine g_goto (pc := 93) X (tgt := 101) dX9_comesIn_93 rfl ?_
        refine g_sub (lv' := [(0, rf V v0), (1, .int v1)]) [1, 2] rfl ?_
        exact bj_X9_comesIn_101 Y  h
    · have h := br_y c h
      refine g_iload_n (pc := 61) X 0 rfl dX9_comesIn_61 ?_
      refine g_aload_n (pc := 62) X 1 rfl dX9_comesIn_62 ?_
      obtain ⟨r32, w33, h34, h⟩ := bd2_i h
      refine g_callV (pc := 63) X FcX9 k12 mk_X9_draw q_1276 q_42 q_1274 (c_X9_draw h34) rfl rfl (by rw [Y.2.1]; decide)  rfl (rest := [.int s0]) rfl (Nat.le_of_ble_eq_true rfl) (by rw [Y.2.1]; exact ⟨Nat.le_of_ble_eq_true rfl, Nat.le_of_ble_eq_true rfl⟩) dX9_comesIn_63 (st' := [.int r32, .int s0]) rfl ?_
      refine g_iload_n (pc := 66) X 0 rfl dX9_comesIn_66 ?_
      obtain ⟨r35, w36, h37, h⟩ := bd2_i h
      refine g_callS (pc := 67) X mk_X9_bits q_1300 q_1299 (c_X9_bits h37) rfl rfl (by rw [Y.2.1]; decide)  rfl (rest := [.int r32, .int s0]) rfl (Nat.le_of_ble_eq_true rfl) (by rw [Y.2.1]; exact ⟨Nat.le_of_ble_eq_true rfl, Nat.le_of_ble_eq_true rfl⟩) dX9_comesIn_67 (st' := [.int r35, .int r32, .int s0]) rfl ?_
      obtain ⟨k38, h⟩ := gd_i h
      refine g_irem (pc := 70) X k38 dX9_comesIn_70 ?_
      obtain ⟨r39, w40, h41, h⟩ := bd2_i h
      refine g_callS (pc := 71) X mk_X9_placeIn q_1303 q_1302 (c_X9_placeIn h41) rfl rfl (by rw [Y.2.1]; decide)  rfl (rest := []) rfl (Nat.le_of_ble_eq_true rfl) (by rw [Y.2.1]; exact ⟨Nat.le_of_ble_eq_true rfl, Nat.le_of_ble_eq_true rfl⟩) dX9_comesIn_71 (st' := [.int r39]) rfl ?_
      refine g_goto (pc := 74) X (tgt := 101) dX9_comesIn_74 rfl ?_
      refine g_sub (lv' := [(0, rf V v0), (1, .int v1)]) [1, 2] rfl ?_
      exact bj_X9_comesIn_101 Y  h

def j_X9_comesIn_27  (v0 : Nat) (v1 : Int32) (w : Wd) : Option (Unit × Wd) := (if wK w v0 = 9 then
 (bd1 (wR w v0 0) fun a6 =>
 (if aK 11 w a6 1 = true then
 (if v1 = (wI w a6 (nx 1)) then
 j_X9_comesIn_46 v0 v1 0 w
 else
 (bd2 (f_X9_placesOf v0 v1 w) fun r9 w10 =>
 j_X9_comesIn_46 v0 v1 r9 w10))
 else none))
 else none)
theorem bj_X9_comesIn_27 {t : Ct} {V : Vt} {r : Unit} {w' : Wd} (Y : Hd_ t V cX9_comesIn 5 RX9 { frames := 6, cells := 0, slots := 0, locals := 141 } (none) "comesIn") {v0 : Nat} {v1 : Int32} {w : Wd} (h : j_X9_comesIn_27  v0 v1 w = some (r, w')) : Gd t V 5 0 0 (Qe t V none w' 0 0) 27 [(0, rf V v0), (1, .int v1)] [] w := by
  have X := Y.1
  unfold j_X9_comesIn_27 at h
  refine g_iload_n (pc := 27) X 1 rfl dX9_comesIn_27 ?_
  refine g_aload_n (pc := 28) X 0 rfl dX9_comesIn_28 ?_
  obtain ⟨k5, h⟩ := gd_i h
  obtain ⟨a6, e7, h⟩ := bd1_i h
  refine g_getR (pc := 29) X FcX9 k5 0 e7 (by decide) rfl q_1020 dX9_comesIn_29 ?_
  refine g_iconst (pc := 32) X (v := 1) dX9_comesIn_32 rfl ?_
  obtain ⟨k8, h⟩ := gd_i h
  refine g_iald (pc := 33) X k8 dX9_comesIn_33 ?_
  refine g_icmp_ne (pc := 34) X (tgt := 41) dX9_comesIn_34 rfl (fun c => ?_) (fun c => ?_)
  · have h := br_n c h
    refine g_aload_n (pc := 41) X 0 rfl dX9_comesIn_41 ?_
    refine g_iload_n (pc := 42) X 1 rfl dX9_comesIn_42 ?_
    obtain ⟨r9, w10, h11, h⟩ := bd2_i h
    refine g_callV (pc := 43) X FcX9 k5 mk_X9_placesOf q_1178 q_30 q_1176 (c_X9_placesOf h11) rfl rfl (by rw [Y.2.1]; decide)  rfl (rest := []) rfl (Nat.le_of_ble_eq_true rfl) (by rw [Y.2.1]; exact ⟨Nat.le_of_ble_eq_true rfl, Nat.le_of_ble_eq_true rfl⟩) dX9_comesIn_43 (st' := [.int r9]) rfl ?_
    refine g_sub (lv' := [(0, rf V v0), (1, .int v1)]) [0, 1] rfl ?_
    exact bj_X9_comesIn_46 Y  h
  · have h := br_y c h
    refine g_iconst (pc := 37) X (v := 0) dX9_comesIn_37 rfl ?_
    refine g_goto (pc := 38) X (tgt := 46) dX9_comesIn_38 rfl ?_
    refine g_sub (lv' := [(0, rf V v0), (1, .int v1)]) [0, 1] rfl ?_
    exact bj_X9_comesIn_46 Y  h

def L_X9_comesIn_2  (n : Nat) (v0 : Nat) (v1 : Int32) (w : Wd) : Option (Unit × Wd) := match n with
  | 0 => none
  | n + 1 => (if wK w v0 = 9 then
 (bd1 (wR w v0 0) fun a2 =>
 (if aK 11 w a2 1 = true then
 (if (wI w a2 (nx 1)) ≤ v1 then
 j_X9_comesIn_27 v0 v1 w
 else
 (bd2 (f_X9_of v0 v1 1 w) fun r42 w43 =>
 (if r42 < 0 then
 j_X9_comesIn_27 v0 v1 w43
 else
 (lb_ (v1 + 1) fun x45 =>
 L_X9_comesIn_2 n v0 x45 w43))))
 else none))
 else none)
theorem bL_X9_comesIn_2 {t : Ct} {V : Vt} {r : Unit} {w' : Wd} (Y : Hd_ t V cX9_comesIn 5 RX9 { frames := 6, cells := 0, slots := 0, locals := 141 } (none) "comesIn") : ∀ {n : Nat} {v0 : Nat} {v1 : Int32} {w : Wd}, L_X9_comesIn_2  n v0 v1 w = some (r, w') → Gd t V 5 0 0 (Qe t V none w' 0 0) 2 [(0, rf V v0), (1, .int v1)] [] w := by
  have X := Y.1
  intro n
  induction n with
  | zero => intro v0 v1 w h; cases h
  | succ n ih0 =>
    have ih : ∀ (v0 : Nat) (v1 : Int32) (w : Wd), L_X9_comesIn_2  n v0 v1 w = some (r, w') → Gd t V 5 0 0 (Qe t V none w' 0 0) 2 [(0, rf V v0), (1, .int v1)] [] w := fun v0 v1 w h => ih0 h
    clear ih0
    intro v0 v1 w h
    unfold L_X9_comesIn_2 at h
    refine g_iload_n (pc := 2) X 1 rfl dX9_comesIn_2 ?_
    refine g_aload_n (pc := 3) X 0 rfl dX9_comesIn_3 ?_
    obtain ⟨k1, h⟩ := gd_i h
    obtain ⟨a2, e3, h⟩ := bd1_i h
    refine g_getR (pc := 4) X FcX9 k1 0 e3 (by decide) rfl q_1020 dX9_comesIn_4 ?_
    refine g_iconst (pc := 7) X (v := 1) dX9_comesIn_7 rfl ?_
    obtain ⟨k4, h⟩ := gd_i h
    refine g_iald (pc := 8) X k4 dX9_comesIn_8 ?_
    refine g_icmp_ge (pc := 9) X (tgt := 27) dX9_comesIn_9 rfl (fun c => ?_) (fun c => ?_)
    · have h := br_y c h
      refine g_sub (lv' := [(0, rf V v0), (1, .int v1)]) [0, 1] rfl ?_
      exact bj_X9_comesIn_27 Y  h
    · have h := br_n c h
      refine g_aload_n (pc := 12) X 0 rfl dX9_comesIn_12 ?_
      refine g_iload_n (pc := 13) X 1 rfl dX9_comesIn_13 ?_
      refine g_iconst (pc := 14) X (v := 1) dX9_comesIn_14 rfl ?_
      obtain ⟨r42, w43, h44, h⟩ := bd2_i h
      refine g_callV (pc := 15) X FcX9 k1 mk_X9_of q_1142 q_24 q_1140 (c_X9_of h44) rfl rfl (by rw [Y.2.1]; decide)  rfl (rest := []) rfl (Nat.le_of_ble_eq_true rfl) (by rw [Y.2.1]; exact ⟨Nat.le_of_ble_eq_true rfl, Nat.le_of_ble_eq_true rfl⟩) dX9_comesIn_15 (st' := [.int r42]) rfl ?_
      refine g_if_lt (pc := 18) X (tgt := 27) dX9_comesIn_18 rfl (fun c => ?_) (fun c => ?_)
      · have h := br_y c h
        refine g_sub (lv' := [(0, rf V v0), (1, .int v1)]) [0, 1] rfl ?_
        exact bj_X9_comesIn_27 Y  h
      · have h := br_n c h
        obtain ⟨x45, e46, h⟩ := lb_i h
        refine g_iinc (pc := 21) X 1 rfl dX9_comesIn_21 (v := x45) e46.symm (by decide) (lv' := [(1, .int x45), (0, rf V v0)]) rfl ?_
        refine g_goto (pc := 24) X (tgt := 2) dX9_comesIn_24 rfl ?_
        refine g_sub (lv' := [(0, rf V v0), (1, .int x45)]) [1, 0] rfl ?_
        exact ih _ _ _ h

def f_X9_comesIn (v0 : Nat) (w : Wd) : Option (Unit × Wd) := L_X9_comesIn_2 FU v0 0 w
theorem c_X9_comesIn {l : Launch} {V : Vt} {v0 : Nat} {w w' : Wd} {r : Unit} (h : f_X9_comesIn v0 w = some (r, w')) : MetW l V yX9_comesIn cX9_comesIn 5 (none) { frames := 6, cells := 0, slots := 0, locals := 141 } w [rf V v0] none w' 0 0 := by
  refine g_start (by decide) (Nat.le_of_ble_eq_true rfl) ?_
  intro t _ hrm X hret hnm
  have Y : Hd_ t V cX9_comesIn 5 RX9 { frames := 6, cells := 0, slots := 0, locals := 141 } (none) "comesIn" := ⟨X, hrm, hret, hnm⟩
  refine g_as (lv' := [(0, rf V v0)]) (st' := []) rfl rfl ?_
  unfold f_X9_comesIn at h
  refine g_iconst (pc := 0) X (v := 0) dX9_comesIn_0 rfl ?_
  refine g_istore_n (pc := 1) X (lv' := [(1, .int 0), (0, rf V v0)]) dX9_comesIn_1 (by decide) rfl ?_
  refine g_sub (lv' := [(0, rf V v0), (1, .int 0)]) [1, 0] rfl ?_
  exact bL_X9_comesIn_2 Y  h

def j_X9_minute_74  (v0 : Nat) (w : Wd) : Option (Unit × Wd) := (if wK w v0 = 9 then
 (bd1 (wR w v0 0) fun a20 =>
 (if aK 11 w a20 5 = true then
 (if aK 11 w a20 5 = true then
 (lb_ (sI w a20 (nx 5) ((wI w a20 (nx 5)) + 1)) fun w24 =>
 some ((), w24))
 else none)
 else none))
 else none)
theorem bj_X9_minute_74 {t : Ct} {V : Vt} {r : Unit} {w' : Wd} (Y : Hd_ t V cX9_minute 2 RX9 { frames := 7, cells := 0, slots := 0, locals := 165 } (none) "minute") {v0 : Nat} {w : Wd} (h : j_X9_minute_74  v0 w = some (r, w')) : Gd t V 2 0 0 (Qe t V none w' 0 0) 74 [(0, rf V v0)] [] w := by
  have X := Y.1
  unfold j_X9_minute_74 at h
  refine g_aload_n (pc := 74) X 0 rfl dX9_minute_74 ?_
  obtain ⟨k19, h⟩ := gd_i h
  obtain ⟨a20, e21, h⟩ := bd1_i h
  refine g_getR (pc := 75) X FcX9 k19 0 e21 (by decide) rfl q_1020 dX9_minute_75 ?_
  refine g_iconst (pc := 78) X (v := 5) dX9_minute_78 rfl ?_
  refine g_dup2 (pc := 79) X rfl rfl dX9_minute_79 ?_
  obtain ⟨k22, h⟩ := gd_i h
  refine g_iald (pc := 80) X k22 dX9_minute_80 ?_
  refine g_iconst (pc := 81) X (v := 1) dX9_minute_81 rfl ?_
  refine g_iadd (pc := 82) X dX9_minute_82 ?_
  obtain ⟨k23, h⟩ := gd_i h
  refine g_iast (pc := 83) X k23 dX9_minute_83 ?_
  obtain ⟨w24, e25, h⟩ := lb_i h
  refine g_w e25 ?_
  obtain ⟨e1, e2⟩ := rt_i h
  exact g_vret (pc := 84) X Y.2.2.1 (Nat.le_of_ble_eq_true rfl) (Nat.le_of_ble_eq_true rfl) e2 dX9_minute_84

def j_X9_minute_21  (v0 : Nat) (w : Wd) : Option (Unit × Wd) := (if wK w v0 = 9 then
 (bd2 (f_X9_draw v0 w) fun r10 w11 =>
 (if wK w11 v0 = 9 then
 (bd1 (wR w11 v0 0) fun a14 =>
 (if aK 11 w11 a14 9 = true then
 (lb_ (if (wI w11 a14 (nx 9)) ≤ (irem r10 100) then 0 else 1 : Int32) fun x17 =>
 (if x17 = 0 then
 j_X9_minute_74 v0 w11
 else
 (bd1 (wR w11 v0 0) fun a26 =>
 (if aK 11 w11 a26 1 = true then
 (if (wI w11 a26 (nx 1)) ≤ 0 then
 j_X9_minute_74 v0 w11
 else
 (bd2 (f_X9_draw v0 w11) fun r29 w30 =>
 (if wK w30 v0 = 9 then
 (bd1 (wR w30 v0 0) fun a33 =>
 (if aK 11 w30 a33 1 = true then
 (if ¬ (wI w30 a33 (nx 1)) = 0 then
 (bd2 (f_X9_put v0 (irem r29 (wI w30 a33 (nx 1))) 1 (-1) w30) fun r37 w38 =>
 j_X9_minute_74 v0 w38)
 else none)
 else none))
 else none)))
 else none))))
 else none))
 else none))
 else none)
theorem bj_X9_minute_21 {t : Ct} {V : Vt} {r : Unit} {w' : Wd} (Y : Hd_ t V cX9_minute 2 RX9 { frames := 7, cells := 0, slots := 0, locals := 165 } (none) "minute") {v0 : Nat} {w : Wd} (h : j_X9_minute_21  v0 w = some (r, w')) : Gd t V 2 0 0 (Qe t V none w' 0 0) 21 [(0, rf V v0)] [] w := by
  have X := Y.1
  unfold j_X9_minute_21 at h
  refine g_aload_n (pc := 21) X 0 rfl dX9_minute_21 ?_
  obtain ⟨k9, h⟩ := gd_i h
  obtain ⟨r10, w11, h12, h⟩ := bd2_i h
  refine g_callV (pc := 22) X FcX9 k9 mk_X9_draw q_1276 q_42 q_1274 (c_X9_draw h12) rfl rfl (by rw [Y.2.1]; decide)  rfl (rest := []) rfl (Nat.le_of_ble_eq_true rfl) (by rw [Y.2.1]; exact ⟨Nat.le_of_ble_eq_true rfl, Nat.le_of_ble_eq_true rfl⟩) dX9_minute_22 (st' := [.int r10]) rfl ?_
  refine g_bipush (pc := 25) X (v := 100) dX9_minute_25 rfl ?_
  refine g_irem (pc := 27) X (by decide) dX9_minute_27 ?_
  refine g_aload_n (pc := 28) X 0 rfl dX9_minute_28 ?_
  obtain ⟨k13, h⟩ := gd_i h
  obtain ⟨a14, e15, h⟩ := bd1_i h
  refine g_getR (pc := 29) X FcX9 k13 0 e15 (by decide) rfl q_1020 dX9_minute_29 ?_
  refine g_bipush (pc := 32) X (v := 9) dX9_minute_32 rfl ?_
  obtain ⟨k16, h⟩ := gd_i h
  refine g_iald (pc := 34) X k16 dX9_minute_34 ?_
  have kJ : Gd t V 2 0 0 (Qe t V none w' 0 0) 43 [(0, rf V v0)] [.int (if (wI w11 a14 (nx 9)) ≤ (irem r10 100) then 0 else 1 : Int32)] w11 := by
    obtain ⟨x17, e18, h⟩ := lb_i h
    refine g_top e18 ?_
    refine g_istore_n (pc := 43) X (lv' := [(1, .int x17), (0, rf V v0)]) dX9_minute_43 (by decide) rfl ?_
    refine g_iload_n (pc := 44) X 0 rfl dX9_minute_44 ?_
    refine g_if_eq (pc := 45) X (tgt := 74) dX9_minute_45 rfl (fun c => ?_) (fun c => ?_)
    · have h := br_y c h
      refine g_sub (lv' := [(0, rf V v0)]) [1] rfl ?_
      exact bj_X9_minute_74 Y  h
    · have h := br_n c h
      refine g_aload_n (pc := 48) X 1 rfl dX9_minute_48 ?_
      obtain ⟨a26, e27, h⟩ := bd1_i h
      refine g_getR (pc := 49) X FcX9 k13 0 e27 (by decide) rfl q_1020 dX9_minute_49 ?_
      refine g_iconst (pc := 52) X (v := 1) dX9_minute_52 rfl ?_
      obtain ⟨k28, h⟩ := gd_i h
      refine g_iald (pc := 53) X k28 dX9_minute_53 ?_
      refine g_if_le (pc := 54) X (tgt := 74) dX9_minute_54 rfl (fun c => ?_) (fun c => ?_)
      · have h := br_y c h
        refine g_sub (lv' := [(0, rf V v0)]) [1] rfl ?_
        exact bj_X9_minute_74 Y  h
      · have h := br_n c h
        refine g_aload_n (pc := 57) X 1 rfl dX9_minute_57 ?_
        refine g_aload_n (pc := 58) X 1 rfl dX9_minute_58 ?_
        obtain ⟨r29, w30, h31, h⟩ := bd2_i h
        refine g_callV (pc := 59) X FcX9 k13 mk_X9_draw q_1276 q_42 q_1274 (c_X9_draw h31) rfl rfl (by rw [Y.2.1]; decide)  rfl (rest := [rf V v0]) rfl (Nat.le_of_ble_eq_true rfl) (by rw [Y.2.1]; exact ⟨Nat.le_of_ble_eq_true rfl, Nat.le_of_ble_eq_true rfl⟩) dX9_minute_59 (st' := [.int r29, rf V v0]) rfl ?_
        refine g_aload_n (pc := 62) X 1 rfl dX9_minute_62 ?_
        obtain ⟨k32, h⟩ := gd_i h
        obtain ⟨a33, e34, h⟩ := bd1_i h
        refine g_getR (pc := 63) X FcX9 k32 0 e34 (by decide) rfl q_1020 dX9_minute_63 ?_
        refine g_iconst (pc := 66) X (v := 1) dX9_minute_66 rfl ?_
        obtain ⟨k35, h⟩ := gd_i h
        refine g_iald (pc := 67) X k35 dX9_minute_67 ?_
        obtain ⟨k36, h⟩ := gd_i h
        refine g_irem (pc := 68) X k36 dX9_minute_68 ?_
        refine g_iconst (pc := 69) X (v := 1) dX9_minute_69 rfl ?_
        refine g_iconst (pc := 70) X (v := (-1)) dX9_minute_70 rfl ?_
        obtain ⟨r37, w38, h39, h⟩ := bd2_i h
        refine g_callV (pc := 71) X FcX9 k32 mk_X9_put q_1146 q_25 q_1144 (c_X9_put h39) rfl rfl (by rw [Y.2.1]; decide)  rfl (rest := []) rfl (Nat.le_of_ble_eq_true rfl) (by rw [Y.2.1]; exact ⟨Nat.le_of_ble_eq_true rfl, Nat.le_of_ble_eq_true rfl⟩) dX9_minute_71 (st' := []) rfl ?_
        refine g_sub (lv' := [(0, rf V v0)]) [1] rfl ?_
        exact bj_X9_minute_74 Y  h
  refine g_icmp_ge (pc := 35) X (tgt := 42) dX9_minute_35 rfl (fun c0 => ?_) (fun c0 => ?_)
  · refine g_iconst (pc := 42) X (v := 0) dX9_minute_42 rfl ?_
    exact g_top (by rw [if_pos c0]) kJ
  · refine g_iconst (pc := 38) X (v := 1) dX9_minute_38 rfl ?_
    refine g_goto (pc := 39) X (tgt := 43) dX9_minute_39 rfl ?_
    exact g_top (by rw [if_neg c0]) kJ

def f_X9_minute (v0 : Nat) (w : Wd) : Option (Unit × Wd) := (if wK w v0 = 9 then
 (bd2 (f_X9_draw v0 w) fun r2 w3 =>
 (if wK w3 v0 = 9 then
 (bd1 (wR w3 v0 0) fun a6 =>
 (if aK 11 w3 a6 8 = true then
 (if (wI w3 a6 (nx 8)) ≤ (irem r2 100) then
 j_X9_minute_21 v0 w3
 else
 (bd2 (f_X9_comesIn v0 w3) fun r40 w41 =>
 j_X9_minute_21 v0 w41))
 else none))
 else none))
 else none)
theorem c_X9_minute {l : Launch} {V : Vt} {v0 : Nat} {w w' : Wd} {r : Unit} (h : f_X9_minute v0 w = some (r, w')) : MetW l V yX9_minute cX9_minute 2 (none) { frames := 7, cells := 0, slots := 0, locals := 165 } w [rf V v0] none w' 0 0 := by
  refine g_start (by decide) (Nat.le_of_ble_eq_true rfl) ?_
  intro t _ hrm X hret hnm
  have Y : Hd_ t V cX9_minute 2 RX9 { frames := 7, cells := 0, slots := 0, locals := 165 } (none) "minute" := ⟨X, hrm, hret, hnm⟩
  refine g_as (lv' := [(0, rf V v0)]) (st' := []) rfl rfl ?_
  unfold f_X9_minute at h
  refine g_aload_n (pc := 0) X 0 rfl dX9_minute_0 ?_
  obtain ⟨k1, h⟩ := gd_i h
  obtain ⟨r2, w3, h4, h⟩ := bd2_i h
  refine g_callV (pc := 1) X FcX9 k1 mk_X9_draw q_1276 q_42 q_1274 (c_X9_draw h4) rfl rfl (by rw [Y.2.1]; decide)  rfl (rest := []) rfl (Nat.le_of_ble_eq_true rfl) (by rw [Y.2.1]; exact ⟨Nat.le_of_ble_eq_true rfl, Nat.le_of_ble_eq_true rfl⟩) dX9_minute_1 (st' := [.int r2]) rfl ?_
  refine g_bipush (pc := 4) X (v := 100) dX9_minute_4 rfl ?_
  refine g_irem (pc := 6) X (by decide) dX9_minute_6 ?_
  refine g_aload_n (pc := 7) X 0 rfl dX9_minute_7 ?_
  obtain ⟨k5, h⟩ := gd_i h
  obtain ⟨a6, e7, h⟩ := bd1_i h
  refine g_getR (pc := 8) X FcX9 k5 0 e7 (by decide) rfl q_1020 dX9_minute_8 ?_
  refine g_bipush (pc := 11) X (v := 8) dX9_minute_11 rfl ?_
  obtain ⟨k8, h⟩ := gd_i h
  refine g_iald (pc := 13) X k8 dX9_minute_13 ?_
  refine g_icmp_ge (pc := 14) X (tgt := 21) dX9_minute_14 rfl (fun c => ?_) (fun c => ?_)
  · have h := br_y c h
    refine g_sub (lv' := [(0, rf V v0)]) [0] rfl ?_
    exact bj_X9_minute_21 Y  h
  · have h := br_n c h
    refine g_aload_n (pc := 17) X 0 rfl dX9_minute_17 ?_
    obtain ⟨r40, w41, h42, h⟩ := bd2_i h
    refine g_callV (pc := 18) X FcX9 k5 mk_X9_comesIn q_1297 q_45 q_1295 (c_X9_comesIn h42) rfl rfl (by rw [Y.2.1]; decide)  rfl (rest := []) rfl (Nat.le_of_ble_eq_true rfl) (by rw [Y.2.1]; exact ⟨Nat.le_of_ble_eq_true rfl, Nat.le_of_ble_eq_true rfl⟩) dX9_minute_18 (st' := []) rfl ?_
    refine g_sub (lv' := [(0, rf V v0)]) [0] rfl ?_
    exact bj_X9_minute_21 Y  h

def L_X9_goesOn_2  (n : Nat) (v0 : Nat) (v1 : Int32) (v2 : Int32) (w : Wd) : Option (Unit × Wd) := match n with
  | 0 => none
  | n + 1 => (if v1 ≤ v2 then
 some ((), w)
 else
 (if wK w v0 = 9 then
 (bd2 (f_X9_minute v0 w) fun r2 w3 =>
 (lb_ (v2 + 1) fun x5 =>
 L_X9_goesOn_2 n v0 v1 x5 w3))
 else none))
theorem bL_X9_goesOn_2 {t : Ct} {V : Vt} {r : Unit} {w' : Wd} (Y : Hd_ t V cX9_goesOn 3 RX9 { frames := 8, cells := 0, slots := 0, locals := 186 } (none) "goesOn") : ∀ {n : Nat} {v0 : Nat} {v1 : Int32} {v2 : Int32} {w : Wd}, L_X9_goesOn_2  n v0 v1 v2 w = some (r, w') → Gd t V 3 0 0 (Qe t V none w' 0 0) 2 [(0, rf V v0), (1, .int v1), (2, .int v2)] [] w := by
  have X := Y.1
  intro n
  induction n with
  | zero => intro v0 v1 v2 w h; cases h
  | succ n ih0 =>
    have ih : ∀ (v0 : Nat) (v1 : Int32) (v2 : Int32) (w : Wd), L_X9_goesOn_2  n v0 v1 v2 w = some (r, w') → Gd t V 3 0 0 (Qe t V none w' 0 0) 2 [(0, rf V v0), (1, .int v1), (2, .int v2)] [] w := fun v0 v1 v2 w h => ih0 h
    clear ih0
    intro v0 v1 v2 w h
    unfold L_X9_goesOn_2 at h
    refine g_iload_n (pc := 2) X 2 rfl dX9_goesOn_2 ?_
    refine g_iload_n (pc := 3) X 1 rfl dX9_goesOn_3 ?_
    refine g_icmp_ge (pc := 4) X (tgt := 17) dX9_goesOn_4 rfl (fun c => ?_) (fun c => ?_)
    · have h := br_y c h
      obtain ⟨e1, e2⟩ := rt_i h
      exact g_vret (pc := 17) X Y.2.2.1 (Nat.le_of_ble_eq_true rfl) (Nat.le_of_ble_eq_true rfl) e2 dX9_goesOn_17
    · have h := br_n c h
      refine g_aload_n (pc := 7) X 0 rfl dX9_goesOn_7 ?_
      obtain ⟨k1, h⟩ := gd_i h
      obtain ⟨r2, w3, h4, h⟩ := bd2_i h
      refine g_callV (pc := 8) X FcX9 k1 mk_X9_minute q_1293 q_44 q_1291 (c_X9_minute h4) rfl rfl (by rw [Y.2.1]; decide)  rfl (rest := []) rfl (Nat.le_of_ble_eq_true rfl) (by rw [Y.2.1]; exact ⟨Nat.le_of_ble_eq_true rfl, Nat.le_of_ble_eq_true rfl⟩) dX9_goesOn_8 (st' := []) rfl ?_
      obtain ⟨x5, e6, h⟩ := lb_i h
      refine g_iinc (pc := 11) X 2 rfl dX9_goesOn_11 (v := x5) e6.symm (by decide) (lv' := [(2, .int x5), (0, rf V v0), (1, .int v1)]) rfl ?_
      refine g_goto (pc := 14) X (tgt := 2) dX9_goesOn_14 rfl ?_
      refine g_sub (lv' := [(0, rf V v0), (1, .int v1), (2, .int x5)]) [1, 2, 0] rfl ?_
      exact ih _ _ _ _ h

def f_X9_goesOn (v0 : Nat) (v1 : Int32) (w : Wd) : Option (Unit × Wd) := L_X9_goesOn_2 FU v0 v1 0 w
theorem c_X9_goesOn {l : Launch} {V : Vt} {v0 : Nat} {v1 : Int32} {w w' : Wd} {r : Unit} (h : f_X9_goesOn v0 v1 w = some (r, w')) : MetW l V yX9_goesOn cX9_goesOn 3 (none) { frames := 8, cells := 0, slots := 0, locals := 186 } w [rf V v0, .int v1] none w' 0 0 := by
  refine g_start (by decide) (Nat.le_of_ble_eq_true rfl) ?_
  intro t _ hrm X hret hnm
  have Y : Hd_ t V cX9_goesOn 3 RX9 { frames := 8, cells := 0, slots := 0, locals := 186 } (none) "goesOn" := ⟨X, hrm, hret, hnm⟩
  refine g_as (lv' := [(0, rf V v0), (1, .int v1)]) (st' := []) rfl rfl ?_
  unfold f_X9_goesOn at h
  refine g_iconst (pc := 0) X (v := 0) dX9_goesOn_0 rfl ?_
  refine g_istore_n (pc := 1) X (lv' := [(2, .int 0), (0, rf V v0), (1, .int v1)]) dX9_goesOn_1 (by decide) rfl ?_
  refine g_sub (lv' := [(0, rf V v0), (1, .int v1), (2, .int 0)]) [1, 2, 0] rfl ?_
  exact bL_X9_goesOn_2 Y  h

def f_X9_minutes (v0 : Nat) (v1 : Int32) (w : Wd) : Option (Int32 × Wd) := (bd2 (f_X9_in v1 1 100 w) fun r1 w2 =>
 (if r1 = 0 then
 some ((-1000000001), w2)
 else
 (if wK w2 v0 = 9 then
 (lb_ (sI w2 v0 4 0) fun w5 =>
 (bd1 (wR w5 v0 0) fun a7 =>
 (if aK 11 w5 a7 5 = true then
 (bd2 (f_X9_within (9999 - (wI w5 a7 (nx 5))) 0 v1 w5) fun r10 w11 =>
 (if wK w11 v0 = 9 then
 (bd2 (f_X9_goesOn v0 r10 w11) fun r14 w15 =>
 (if wK w15 v0 = 9 then
 some (wI w15 v0 4, w15)
 else none))
 else none))
 else none)))
 else none)))
theorem c_X9_minutes {l : Launch} {V : Vt} {v0 : Nat} {v1 : Int32} {w w' : Wd} {r : Int32} (h : f_X9_minutes v0 v1 w = some (r, w')) : MetW l V yX9_minutes cX9_minutes 2 (some .int) { frames := 9, cells := 0, slots := 0, locals := 208 } w [rf V v0, .int v1] (some (.int r)) w' 0 0 := by
  refine g_start (by decide) (Nat.le_of_ble_eq_true rfl) ?_
  intro t _ hrm X hret hnm
  have Y : Hd_ t V cX9_minutes 2 RX9 { frames := 9, cells := 0, slots := 0, locals := 208 } (some .int) "minutes" := ⟨X, hrm, hret, hnm⟩
  refine g_as (lv' := [(0, rf V v0), (1, .int v1)]) (st' := []) rfl rfl ?_
  unfold f_X9_minutes at h
  refine g_iload_n (pc := 0) X 1 rfl dX9_minutes_0 ?_
  refine g_iconst (pc := 1) X (v := 1) dX9_minutes_1 rfl ?_
  refine g_bipush (pc := 2) X (v := 100) dX9_minutes_2 rfl ?_
  obtain ⟨r1, w2, h3, h⟩ := bd2_i h
  refine g_callS (pc := 4) X mk_X9_in q_1133 q_1132 (c_X9_in h3) rfl rfl (by rw [Y.2.1]; decide)  rfl (rest := []) rfl (Nat.le_of_ble_eq_true rfl) (by rw [Y.2.1]; exact ⟨Nat.le_of_ble_eq_true rfl, Nat.le_of_ble_eq_true rfl⟩) dX9_minutes_4 (st' := [.int r1]) rfl ?_
  refine g_if_ne (pc := 7) X (tgt := 13) dX9_minutes_7 rfl (fun c => ?_) (fun c => ?_)
  · have h := br_n c h
    refine g_aload_n (pc := 13) X 0 rfl dX9_minutes_13 ?_
    refine g_iconst (pc := 14) X (v := 0) dX9_minutes_14 rfl ?_
    obtain ⟨k4, h⟩ := gd_i h
    refine g_putI (pc := 15) X FcX9 k4 4 (by decide) rfl q_1024 rfl rfl rfl dX9_minutes_15 ?_
    obtain ⟨w5, e6, h⟩ := lb_i h
    refine g_w e6 ?_
    refine g_aload_n (pc := 18) X 0 rfl dX9_minutes_18 ?_
    refine g_sipush (pc := 19) X (v := 9999) dX9_minutes_19 rfl ?_
    refine g_aload_n (pc := 22) X 0 rfl dX9_minutes_22 ?_
    obtain ⟨a7, e8, h⟩ := bd1_i h
    refine g_getR (pc := 23) X FcX9 (kd_I e6 k4) 0 e8 (by decide) rfl q_1020 dX9_minutes_23 ?_
    refine g_iconst (pc := 26) X (v := 5) dX9_minutes_26 rfl ?_
    obtain ⟨k9, h⟩ := gd_i h
    refine g_iald (pc := 27) X k9 dX9_minutes_27 ?_
    refine g_isub (pc := 28) X dX9_minutes_28 ?_
    refine g_iconst (pc := 29) X (v := 0) dX9_minutes_29 rfl ?_
    refine g_iload_n (pc := 30) X 1 rfl dX9_minutes_30 ?_
    obtain ⟨r10, w11, h12, h⟩ := bd2_i h
    refine g_callS (pc := 31) X mk_X9_within q_1248 q_1247 (c_X9_within h12) rfl rfl (by rw [Y.2.1]; decide)  rfl (rest := [rf V v0]) rfl (Nat.le_of_ble_eq_true rfl) (by rw [Y.2.1]; exact ⟨Nat.le_of_ble_eq_true rfl, Nat.le_of_ble_eq_true rfl⟩) dX9_minutes_31 (st' := [.int r10, rf V v0]) rfl ?_
    obtain ⟨k13, h⟩ := gd_i h
    obtain ⟨r14, w15, h16, h⟩ := bd2_i h
    refine g_callV (pc := 34) X FcX9 k13 mk_X9_goesOn q_1289 q_43 q_1287 (c_X9_goesOn h16) rfl rfl (by rw [Y.2.1]; decide)  rfl (rest := []) rfl (Nat.le_of_ble_eq_true rfl) (by rw [Y.2.1]; exact ⟨Nat.le_of_ble_eq_true rfl, Nat.le_of_ble_eq_true rfl⟩) dX9_minutes_34 (st' := []) rfl ?_
    refine g_aload_n (pc := 37) X 0 rfl dX9_minutes_37 ?_
    obtain ⟨k17, h⟩ := gd_i h
    refine g_getI (pc := 38) X FcX9 k17 4 (by decide) rfl q_1024 dX9_minutes_38 ?_
    obtain ⟨e1, e2⟩ := rt_i h
    exact g_iret (pc := 41) X Y.2.2.1 (Nat.le_of_ble_eq_true rfl) (Nat.le_of_ble_eq_true rfl) e1 e2 dX9_minutes_41
  · have h := br_y c h
    refine g_ldc (pc := 10) X q_1135 dX9_minutes_10 ?_
    obtain ⟨e1, e2⟩ := rt_i h
    exact g_iret (pc := 12) X Y.2.2.1 (Nat.le_of_ble_eq_true rfl) (Nat.le_of_ble_eq_true rfl) e1 e2 dX9_minutes_12

def L_X9_inn_54  (n : Nat) (v0 : Nat) (v2 : Int32) (v3 : Int32) (w : Wd) : Option (Int32 × Wd) := match n with
  | 0 => none
  | n + 1 => (if wK w v0 = 9 then
 (bd1 (wR w v0 0) fun a18 =>
 (if aK 11 w a18 1 = true then
 (if (wI w a18 (nx 1)) ≤ v3 then
 some (v2, w)
 else
 (bd2 (f_X9_of v0 v3 1 w) fun r21 w22 =>
 (lb_ (v2 ||| (if 0 ≤ r21 then 0 else 1 <<< (v3 &&& 31) : Int32)) fun x24 =>
 (lb_ (v3 + 1) fun x26 =>
 L_X9_inn_54 n v0 x24 x26 w22))))
 else none))
 else none)
theorem bL_X9_inn_54 {t : Ct} {V : Vt} {r : Int32} {w' : Wd} (Y : Hd_ t V cX9_inn 4 RX9 { frames := 4, cells := 0, slots := 0, locals := 86 } (some .int) "inn") : ∀ {n : Nat} {v0 : Nat} {v2 : Int32} {v3 : Int32} {w : Wd}, L_X9_inn_54  n v0 v2 v3 w = some (r, w') → Gd t V 4 0 0 (Qe t V (some (.int r)) w' 0 0) 54 [(0, rf V v0), (2, .int v2), (3, .int v3)] [] w := by
  have X := Y.1
  intro n
  induction n with
  | zero => intro v0 v2 v3 w h; cases h
  | succ n ih0 =>
    have ih : ∀ (v0 : Nat) (v2 : Int32) (v3 : Int32) (w : Wd), L_X9_inn_54  n v0 v2 v3 w = some (r, w') → Gd t V 4 0 0 (Qe t V (some (.int r)) w' 0 0) 54 [(0, rf V v0), (2, .int v2), (3, .int v3)] [] w := fun v0 v2 v3 w h => ih0 h
    clear ih0
    intro v0 v2 v3 w h
    unfold L_X9_inn_54 at h
    refine g_iload_n (pc := 54) X 2 rfl dX9_inn_54 ?_
    refine g_aload_n (pc := 55) X 0 rfl dX9_inn_55 ?_
    obtain ⟨k17, h⟩ := gd_i h
    obtain ⟨a18, e19, h⟩ := bd1_i h
    refine g_getR (pc := 56) X FcX9 k17 0 e19 (by decide) rfl q_1020 dX9_inn_56 ?_
    refine g_iconst (pc := 59) X (v := 1) dX9_inn_59 rfl ?_
    obtain ⟨k20, h⟩ := gd_i h
    refine g_iald (pc := 60) X k20 dX9_inn_60 ?_
    refine g_icmp_ge (pc := 61) X (tgt := 89) dX9_inn_61 rfl (fun c => ?_) (fun c => ?_)
    · have h := br_y c h
      refine g_iload_n (pc := 89) X 1 rfl dX9_inn_89 ?_
      obtain ⟨e1, e2⟩ := rt_i h
      exact g_iret (pc := 90) X Y.2.2.1 (Nat.le_of_ble_eq_true rfl) (Nat.le_of_ble_eq_true rfl) e1 e2 dX9_inn_90
    · have h := br_n c h
      refine g_iload_n (pc := 64) X 1 rfl dX9_inn_64 ?_
      refine g_aload_n (pc := 65) X 0 rfl dX9_inn_65 ?_
      refine g_iload_n (pc := 66) X 2 rfl dX9_inn_66 ?_
      refine g_iconst (pc := 67) X (v := 1) dX9_inn_67 rfl ?_
      obtain ⟨r21, w22, h23, h⟩ := bd2_i h
      refine g_callV (pc := 68) X FcX9 k17 mk_X9_of q_1142 q_24 q_1140 (c_X9_of h23) rfl rfl (by rw [Y.2.1]; decide)  rfl (rest := [.int v2]) rfl (Nat.le_of_ble_eq_true rfl) (by rw [Y.2.1]; exact ⟨Nat.le_of_ble_eq_true rfl, Nat.le_of_ble_eq_true rfl⟩) dX9_inn_68 (st' := [.int r21, .int v2]) rfl ?_
      have kJ : Gd t V 4 0 0 (Qe t V (some (.int r)) w' 0 0) 81 [(0, rf V v0), (2, .int v2), (3, .int v3)] [.int (if 0 ≤ r21 then 0 else 1 <<< (v3 &&& 31) : Int32), .int v2] w22 := by
        refine g_ior (pc := 81) X dX9_inn_81 ?_
        obtain ⟨x24, e25, h⟩ := lb_i h
        refine g_top e25 ?_
        refine g_istore_n (pc := 82) X (lv' := [(2, .int x24), (0, rf V v0), (3, .int v3)]) dX9_inn_82 (by decide) rfl ?_
        obtain ⟨x26, e27, h⟩ := lb_i h
        refine g_iinc (pc := 83) X 2 rfl dX9_inn_83 (v := x26) e27.symm (by decide) (lv' := [(3, .int x26), (2, .int x24), (0, rf V v0)]) rfl ?_
        refine g_goto (pc := 86) X (tgt := 54) dX9_inn_86 rfl ?_
        refine g_sub (lv' := [(0, rf V v0), (2, .int x24), (3, .int x26)]) [2, 1, 0] rfl ?_
        exact ih _ _ _ _ h
      refine g_if_ge (pc := 71) X (tgt := 80) dX9_inn_71 rfl (fun c0 => ?_) (fun c0 => ?_)
      · refine g_iconst (pc := 80) X (v := 0) dX9_inn_80 rfl ?_
        exact g_top (by rw [if_pos c0]) kJ
      · refine g_iconst (pc := 74) X (v := 1) dX9_inn_74 rfl ?_
        refine g_iload_n (pc := 75) X 2 rfl dX9_inn_75 ?_
        refine g_ishl (pc := 76) X dX9_inn_76 ?_
        refine g_goto (pc := 77) X (tgt := 81) dX9_inn_77 rfl ?_
        exact g_top (by rw [if_neg c0]) kJ

def f_X9_inn (v0 : Nat) (v1 : Int32) (w : Wd) : Option (Int32 × Wd) := (if v1 = 0 then
 (if wK w v0 = 9 then
 (bd2 (f_X9_taken v0 w) fun r3 w4 =>
 some (r3, w4))
 else none)
 else
 (if v1 = 1 then
 (if wK w v0 = 9 then
 (bd1 (wR w v0 0) fun a8 =>
 (if aK 11 w a8 10 = true then
 some (wI w a8 (nx 10), w)
 else none))
 else none)
 else
 (if v1 = 2 then
 (if wK w v0 = 9 then
 (bd2 (f_X9_manySit v0 w) fun r13 w14 =>
 some (r13, w14))
 else none)
 else
 (if v1 = 3 then
 L_X9_inn_54 FU v0 0 0 w
 else
 some ((-1000000001), w)))))
theorem c_X9_inn {l : Launch} {V : Vt} {v0 : Nat} {v1 : Int32} {w w' : Wd} {r : Int32} (h : f_X9_inn v0 v1 w = some (r, w')) : MetW l V yX9_inn cX9_inn 4 (some .int) { frames := 4, cells := 0, slots := 0, locals := 86 } w [rf V v0, .int v1] (some (.int r)) w' 0 0 := by
  refine g_start (by decide) (Nat.le_of_ble_eq_true rfl) ?_
  intro t _ hrm X hret hnm
  have Y : Hd_ t V cX9_inn 4 RX9 { frames := 4, cells := 0, slots := 0, locals := 86 } (some .int) "inn" := ⟨X, hrm, hret, hnm⟩
  refine g_as (lv' := [(0, rf V v0), (1, .int v1)]) (st' := []) rfl rfl ?_
  unfold f_X9_inn at h
  refine g_iload_n (pc := 0) X 1 rfl dX9_inn_0 ?_
  by_cases c1 : v1 = 0
  · have h := br_y c1 h
    refine g_tswI (pc := 1) X 0 (tgt := 32) dX9_inn_1 c1 (by decide) (by decide) rfl rfl ?_
    refine g_aload_n (pc := 32) X 0 rfl dX9_inn_32 ?_
    obtain ⟨k2, h⟩ := gd_i h
    obtain ⟨r3, w4, h5, h⟩ := bd2_i h
    refine g_callV (pc := 33) X FcX9 k2 mk_X9_taken q_1182 q_31 q_1180 (c_X9_taken h5) rfl rfl (by rw [Y.2.1]; decide)  rfl (rest := []) rfl (Nat.le_of_ble_eq_true rfl) (by rw [Y.2.1]; exact ⟨Nat.le_of_ble_eq_true rfl, Nat.le_of_ble_eq_true rfl⟩) dX9_inn_33 (st' := [.int r3]) rfl ?_
    obtain ⟨e1, e2⟩ := rt_i h
    exact g_iret (pc := 36) X Y.2.2.1 (Nat.le_of_ble_eq_true rfl) (Nat.le_of_ble_eq_true rfl) e1 e2 dX9_inn_36
  · have h := br_n c1 h
    by_cases c6 : v1 = 1
    · have h := br_y c6 h
      refine g_tswI (pc := 1) X 1 (tgt := 37) dX9_inn_1 c6 (by decide) (by decide) rfl rfl ?_
      refine g_aload_n (pc := 37) X 0 rfl dX9_inn_37 ?_
      obtain ⟨k7, h⟩ := gd_i h
      obtain ⟨a8, e9, h⟩ := bd1_i h
      refine g_getR (pc := 38) X FcX9 k7 0 e9 (by decide) rfl q_1020 dX9_inn_38 ?_
      refine g_bipush (pc := 41) X (v := 10) dX9_inn_41 rfl ?_
      obtain ⟨k10, h⟩ := gd_i h
      refine g_iald (pc := 43) X k10 dX9_inn_43 ?_
      obtain ⟨e1, e2⟩ := rt_i h
      exact g_iret (pc := 44) X Y.2.2.1 (Nat.le_of_ble_eq_true rfl) (Nat.le_of_ble_eq_true rfl) e1 e2 dX9_inn_44
    · have h := br_n c6 h
      by_cases c11 : v1 = 2
      · have h := br_y c11 h
        refine g_tswI (pc := 1) X 2 (tgt := 45) dX9_inn_1 c11 (by decide) (by decide) rfl rfl ?_
        refine g_aload_n (pc := 45) X 0 rfl dX9_inn_45 ?_
        obtain ⟨k12, h⟩ := gd_i h
        obtain ⟨r13, w14, h15, h⟩ := bd2_i h
        refine g_callV (pc := 46) X FcX9 k12 mk_X9_manySit q_1138 q_23 q_1136 (c_X9_manySit h15) rfl rfl (by rw [Y.2.1]; decide)  rfl (rest := []) rfl (Nat.le_of_ble_eq_true rfl) (by rw [Y.2.1]; exact ⟨Nat.le_of_ble_eq_true rfl, Nat.le_of_ble_eq_true rfl⟩) dX9_inn_46 (st' := [.int r13]) rfl ?_
        obtain ⟨e1, e2⟩ := rt_i h
        exact g_iret (pc := 49) X Y.2.2.1 (Nat.le_of_ble_eq_true rfl) (Nat.le_of_ble_eq_true rfl) e1 e2 dX9_inn_49
      · have h := br_n c11 h
        by_cases c16 : v1 = 3
        · have h := br_y c16 h
          refine g_tswI (pc := 1) X 3 (tgt := 50) dX9_inn_1 c16 (by decide) (by decide) rfl rfl ?_
          refine g_iconst (pc := 50) X (v := 0) dX9_inn_50 rfl ?_
          refine g_istore_n (pc := 51) X (lv' := [(2, .int 0), (0, rf V v0), (1, .int v1)]) dX9_inn_51 (by decide) rfl ?_
          refine g_iconst (pc := 52) X (v := 0) dX9_inn_52 rfl ?_
          refine g_istore_n (pc := 53) X (lv' := [(3, .int 0), (2, .int 0), (0, rf V v0), (1, .int v1)]) dX9_inn_53 (by decide) rfl ?_
          refine g_sub (lv' := [(0, rf V v0), (2, .int 0), (3, .int 0)]) [2, 1, 0] rfl ?_
          exact bL_X9_inn_54 Y  h
        · have h := br_n c16 h
          refine g_tswO (pc := 1) X (tgt := 91) dX9_inn_1 (by have n0 : Int32.toInt v1 ≠ 0 := nt_ c1; have n1 : Int32.toInt v1 ≠ 1 := nt_ c6; have n2 : Int32.toInt v1 ≠ 2 := nt_ c11; have n3 : Int32.toInt v1 ≠ 3 := nt_ c16; omega) rfl ?_
          refine g_ldc (pc := 91) X q_1135 dX9_inn_91 ?_
          obtain ⟨e1, e2⟩ := rt_i h
          exact g_iret (pc := 93) X Y.2.2.1 (Nat.le_of_ble_eq_true rfl) (Nat.le_of_ble_eq_true rfl) e1 e2 dX9_inn_93

def f_X9_mayOrdinary (v0 : Nat) (v1 : Int32) (v2 : Int32) (w : Wd) : Option (Int32 × Wd) := (if ((v1 >>> (v2 &&& 31)) &&& 1) = 0 then
 (if wK w v0 = 9 then
 (bd2 (f_X9_isSome v0 v1 (v2 - 1) w) fun r2 w3 =>
 (if wK w3 v0 = 9 then
 (bd2 (f_X9_isSome v0 v1 (v2 + 1) w3) fun r6 w7 =>
 some ((if r2 = r6 then 1 else 0 : Int32), w7))
 else none))
 else none)
 else
 some (0, w))
theorem c_X9_mayOrdinary {l : Launch} {V : Vt} {v0 : Nat} {v1 : Int32} {v2 : Int32} {w w' : Wd} {r : Int32} (h : f_X9_mayOrdinary v0 v1 v2 w = some (r, w')) : MetW l V yX9_mayOrdinary cX9_mayOrdinary 3 (some .boolean) { frames := 3, cells := 0, slots := 0, locals := 65 } w [rf V v0, .int v1, .int v2] (some (.int r)) w' 0 0 := by
  refine g_start (by decide) (Nat.le_of_ble_eq_true rfl) ?_
  intro t _ hrm X hret hnm
  have Y : Hd_ t V cX9_mayOrdinary 3 RX9 { frames := 3, cells := 0, slots := 0, locals := 65 } (some .boolean) "mayOrdinary" := ⟨X, hrm, hret, hnm⟩
  refine g_as (lv' := [(0, rf V v0), (1, .int v1), (2, .int v2)]) (st' := []) rfl rfl ?_
  unfold f_X9_mayOrdinary at h
  refine g_iload_n (pc := 0) X 1 rfl dX9_mayOrdinary_0 ?_
  refine g_iload_n (pc := 1) X 2 rfl dX9_mayOrdinary_1 ?_
  refine g_ishr (pc := 2) X dX9_mayOrdinary_2 ?_
  refine g_iconst (pc := 3) X (v := 1) dX9_mayOrdinary_3 rfl ?_
  refine g_iand (pc := 4) X dX9_mayOrdinary_4 ?_
  refine g_if_ne (pc := 5) X (tgt := 31) dX9_mayOrdinary_5 rfl (fun c => ?_) (fun c => ?_)
  · have h := br_n c h
    refine g_iconst (pc := 31) X (v := 0) dX9_mayOrdinary_31 rfl ?_
    obtain ⟨e1, e2⟩ := rt_i h
    exact g_zret (pc := 32) X Y.2.2.1 (Or.inl rfl) (Nat.le_of_ble_eq_true rfl) (Nat.le_of_ble_eq_true rfl) e1 e2 dX9_mayOrdinary_32
  · have h := br_y c h
    refine g_aload_n (pc := 8) X 0 rfl dX9_mayOrdinary_8 ?_
    refine g_iload_n (pc := 9) X 1 rfl dX9_mayOrdinary_9 ?_
    refine g_iload_n (pc := 10) X 2 rfl dX9_mayOrdinary_10 ?_
    refine g_iconst (pc := 11) X (v := 1) dX9_mayOrdinary_11 rfl ?_
    refine g_isub (pc := 12) X dX9_mayOrdinary_12 ?_
    obtain ⟨k1, h⟩ := gd_i h
    obtain ⟨r2, w3, h4, h⟩ := bd2_i h
    refine g_callV (pc := 13) X FcX9 k1 mk_X9_isSome q_1190 q_33 q_1188 (c_X9_isSome h4) rfl rfl (by rw [Y.2.1]; decide)  rfl (rest := []) rfl (Nat.le_of_ble_eq_true rfl) (by rw [Y.2.1]; exact ⟨Nat.le_of_ble_eq_true rfl, Nat.le_of_ble_eq_true rfl⟩) dX9_mayOrdinary_13 (st' := [.int r2]) rfl ?_
    refine g_aload_n (pc := 16) X 0 rfl dX9_mayOrdinary_16 ?_
    refine g_iload_n (pc := 17) X 1 rfl dX9_mayOrdinary_17 ?_
    refine g_iload_n (pc := 18) X 2 rfl dX9_mayOrdinary_18 ?_
    refine g_iconst (pc := 19) X (v := 1) dX9_mayOrdinary_19 rfl ?_
    refine g_iadd (pc := 20) X dX9_mayOrdinary_20 ?_
    obtain ⟨k5, h⟩ := gd_i h
    obtain ⟨r6, w7, h8, h⟩ := bd2_i h
    refine g_callV (pc := 21) X FcX9 k5 mk_X9_isSome q_1190 q_33 q_1188 (c_X9_isSome h8) rfl rfl (by rw [Y.2.1]; decide)  rfl (rest := [.int r2]) rfl (Nat.le_of_ble_eq_true rfl) (by rw [Y.2.1]; exact ⟨Nat.le_of_ble_eq_true rfl, Nat.le_of_ble_eq_true rfl⟩) dX9_mayOrdinary_21 (st' := [.int r6, .int r2]) rfl ?_
    have kJ : Gd t V 3 0 0 (Qe t V (some (.int r)) w' 0 0) 32 [(0, rf V v0), (1, .int v1), (2, .int v2)] [.int (if r2 = r6 then 1 else 0 : Int32)] w7 := by
      obtain ⟨e1, e2⟩ := rt_i h
      exact g_zret (pc := 32) X Y.2.2.1 (bz_ite (Or.inr rfl) (Or.inl rfl)) (Nat.le_of_ble_eq_true rfl) (Nat.le_of_ble_eq_true rfl) e1 e2 dX9_mayOrdinary_32
    refine g_icmp_ne (pc := 24) X (tgt := 31) dX9_mayOrdinary_24 rfl (fun c0 => ?_) (fun c0 => ?_)
    · refine g_iconst (pc := 31) X (v := 0) dX9_mayOrdinary_31 rfl ?_
      exact g_top (by rw [if_neg c0]) kJ
    · refine g_iconst (pc := 27) X (v := 1) dX9_mayOrdinary_27 rfl ?_
      refine g_goto (pc := 28) X (tgt := 32) dX9_mayOrdinary_28 rfl ?_
      exact g_top (by rw [if_pos c0]) kJ

def j_X9_worksSet_79 (kk18 : Nat → Int32 → Int32 → Int32 → Int32 → Int32 → Int64 → Int32 → Int32 → Wd → Option (Int32 × Wd)) (v0 : Nat) (v1 : Int32) (v2 : Int32) (v3 : Int32) (v4 : Int32) (v5 : Int32) (v6 : Int64) (v8 : Int32) (v9 : Int32) (v10 : Int32) (s0 : Int32) (w : Wd) : Option (Int32 × Wd) := (lb_ (v3 + 1) fun x19 =>
 (lb_ (if (v10 + s0) ≤ v4 then v4 else v10 + s0 : Int32) fun x21 =>
 (lb_ (if v5 ≤ (v10 + s0) then v5 else v10 + s0 : Int32) fun x23 =>
 (lb_ (v6 + (Int32.toInt64 v10)) fun x25 =>
 (lb_ (if v10 = 0 then 1 else v8 : Int32) fun x27 =>
 (lb_ (v9 + 1) fun x29 =>
 kk18 v0 v1 v2 x19 x21 x23 x25 x27 x29 w))))))
theorem bj_X9_worksSet_79 {t : Ct} {V : Vt} {r : Int32} {w' : Wd} {kk18 : Nat → Int32 → Int32 → Int32 → Int32 → Int32 → Int64 → Int32 → Int32 → Wd → Option (Int32 × Wd)} (Y : Hd_ t V cX9_worksSet 12 RX9 { frames := 4, cells := 0, slots := 0, locals := 87 } (some .int) "worksSet") (hk18 : ∀ (u0 : Nat) (u1 : Int32) (u2 : Int32) (u3 : Int32) (u4 : Int32) (u5 : Int32) (u6 : Int64) (u8 : Int32) (u9 : Int32) (w : Wd), kk18 u0 u1 u2 u3 u4 u5 u6 u8 u9 w = some (r, w') → Gd t V 12 0 0 (Qe t V (some (.int r)) w' 0 0) 18 [(0, rf V u0), (1, .int u1), (2, .int u2), (3, .int u3), (4, .int u4), (5, .int u5), (6, .long u6), (8, .int u8), (9, .int u9)] [] w) {v0 : Nat} {v1 : Int32} {v2 : Int32} {v3 : Int32} {v4 : Int32} {v5 : Int32} {v6 : Int64} {v8 : Int32} {v9 : Int32} {v10 : Int32} {s0 : Int32} {w : Wd} (h : j_X9_worksSet_79 kk18 v0 v1 v2 v3 v4 v5 v6 v8 v9 v10 s0 w = some (r, w')) : Gd t V 12 0 0 (Qe t V (some (.int r)) w' 0 0) 79 [(0, rf V v0), (1, .int v1), (2, .int v2), (3, .int v3), (4, .int v4), (5, .int v5), (6, .long v6), (8, .int v8), (9, .int v9), (10, .int v10)] [.int s0] w := by
  have X := Y.1
  unfold j_X9_worksSet_79 at h
  refine g_istore (pc := 79) X (lv' := [(11, .int s0), (0, rf V v0), (1, .int v1), (2, .int v2), (3, .int v3), (4, .int v4), (5, .int v5), (6, .long v6), (8, .int v8), (9, .int v9), (10, .int v10)]) dX9_worksSet_79 (by decide) rfl ?_
  obtain ⟨x19, e20, h⟩ := lb_i h
  refine g_iinc (pc := 81) X 4 rfl dX9_worksSet_81 (v := x19) e20.symm (by decide) (lv' := [(3, .int x19), (11, .int s0), (0, rf V v0), (1, .int v1), (2, .int v2), (4, .int v4), (5, .int v5), (6, .long v6), (8, .int v8), (9, .int v9), (10, .int v10)]) rfl ?_
  refine g_iload (pc := 84) X 10 rfl dX9_worksSet_84 ?_
  refine g_iload (pc := 86) X 1 rfl dX9_worksSet_86 ?_
  refine g_iadd (pc := 88) X dX9_worksSet_88 ?_
  refine g_iload (pc := 89) X 5 rfl dX9_worksSet_89 ?_
  have kJ : Gd t V 12 0 0 (Qe t V (some (.int r)) w' 0 0) 104 [(3, .int x19), (11, .int s0), (0, rf V v0), (1, .int v1), (2, .int v2), (4, .int v4), (5, .int v5), (6, .long v6), (8, .int v8), (9, .int v9), (10, .int v10)] [.int (if (v10 + s0) ≤ v4 then v4 else v10 + s0 : Int32)] w := by
    obtain ⟨x21, e22, h⟩ := lb_i h
    refine g_top e22 ?_
    refine g_istore (pc := 104) X (lv' := [(4, .int x21), (3, .int x19), (11, .int s0), (0, rf V v0), (1, .int v1), (2, .int v2), (5, .int v5), (6, .long v6), (8, .int v8), (9, .int v9), (10, .int v10)]) dX9_worksSet_104 (by decide) rfl ?_
    refine g_iload (pc := 106) X 10 rfl dX9_worksSet_106 ?_
    refine g_iload (pc := 108) X 2 rfl dX9_worksSet_108 ?_
    refine g_iadd (pc := 110) X dX9_worksSet_110 ?_
    refine g_iload (pc := 111) X 6 rfl dX9_worksSet_111 ?_
    have kJ : Gd t V 12 0 0 (Qe t V (some (.int r)) w' 0 0) 126 [(4, .int x21), (3, .int x19), (11, .int s0), (0, rf V v0), (1, .int v1), (2, .int v2), (5, .int v5), (6, .long v6), (8, .int v8), (9, .int v9), (10, .int v10)] [.int (if v5 ≤ (v10 + s0) then v5 else v10 + s0 : Int32)] w := by
      obtain ⟨x23, e24, h⟩ := lb_i h
      refine g_top e24 ?_
      refine g_istore (pc := 126) X (lv' := [(5, .int x23), (4, .int x21), (3, .int x19), (11, .int s0), (0, rf V v0), (1, .int v1), (2, .int v2), (6, .long v6), (8, .int v8), (9, .int v9), (10, .int v10)]) dX9_worksSet_126 (by decide) rfl ?_
      refine g_lload (pc := 128) X 7 rfl dX9_worksSet_128 ?_
      refine g_iload (pc := 130) X 10 rfl dX9_worksSet_130 ?_
      refine g_i2l (pc := 132) X dX9_worksSet_132 ?_
      refine g_ladd (pc := 133) X dX9_worksSet_133 ?_
      obtain ⟨x25, e26, h⟩ := lb_i h
      refine g_topl e26 ?_
      refine g_lstore (pc := 134) X (lv' := [(6, .long x25), (5, .int x23), (4, .int x21), (3, .int x19), (11, .int s0), (0, rf V v0), (1, .int v1), (2, .int v2), (8, .int v8), (9, .int v9), (10, .int v10)]) dX9_worksSet_134 (by decide) rfl ?_
      refine g_iload (pc := 136) X 10 rfl dX9_worksSet_136 ?_
      have kJ : Gd t V 12 0 0 (Qe t V (some (.int r)) w' 0 0) 147 [(6, .long x25), (5, .int x23), (4, .int x21), (3, .int x19), (11, .int s0), (0, rf V v0), (1, .int v1), (2, .int v2), (8, .int v8), (9, .int v9), (10, .int v10)] [.int (if v10 = 0 then 1 else v8 : Int32)] w := by
        obtain ⟨x27, e28, h⟩ := lb_i h
        refine g_top e28 ?_
        refine g_istore (pc := 147) X (lv' := [(8, .int x27), (6, .long x25), (5, .int x23), (4, .int x21), (3, .int x19), (11, .int s0), (0, rf V v0), (1, .int v1), (2, .int v2), (9, .int v9), (10, .int v10)]) dX9_worksSet_147 (by decide) rfl ?_
        obtain ⟨x29, e30, h⟩ := lb_i h
        refine g_iinc (pc := 149) X 9 rfl dX9_worksSet_149 (v := x29) e30.symm (by decide) (lv' := [(9, .int x29), (8, .int x27), (6, .long x25), (5, .int x23), (4, .int x21), (3, .int x19), (11, .int s0), (0, rf V v0), (1, .int v1), (2, .int v2), (10, .int v10)]) rfl ?_
        refine g_goto (pc := 152) X (tgt := 18) dX9_worksSet_152 rfl ?_
        refine g_sub (lv' := [(0, rf V v0), (1, .int v1), (2, .int v2), (3, .int x19), (4, .int x21), (5, .int x23), (6, .long x25), (8, .int x27), (9, .int x29)]) [7, 8, 9, 5, 4, 3, 2, 1, 0] rfl ?_
        exact hk18 _ _ _ _ _ _ _ _ _ _ h
      refine g_if_ne (pc := 138) X (tgt := 145) dX9_worksSet_138 rfl (fun c0 => ?_) (fun c0 => ?_)
      · refine g_iload (pc := 145) X 8 rfl dX9_worksSet_145 ?_
        exact g_top (by rw [if_neg c0]) kJ
      · refine g_iconst (pc := 141) X (v := 1) dX9_worksSet_141 rfl ?_
        refine g_goto (pc := 142) X (tgt := 147) dX9_worksSet_142 rfl ?_
        exact g_top (by rw [if_pos c0]) kJ
    refine g_icmp_ge (pc := 113) X (tgt := 124) dX9_worksSet_113 rfl (fun c0 => ?_) (fun c0 => ?_)
    · refine g_iload (pc := 124) X 6 rfl dX9_worksSet_124 ?_
      exact g_top (by rw [if_pos c0]) kJ
    · refine g_iload (pc := 116) X 10 rfl dX9_worksSet_116 ?_
      refine g_iload (pc := 118) X 2 rfl dX9_worksSet_118 ?_
      refine g_iadd (pc := 120) X dX9_worksSet_120 ?_
      refine g_goto (pc := 121) X (tgt := 126) dX9_worksSet_121 rfl ?_
      exact g_top (by rw [if_neg c0]) kJ
  refine g_icmp_le (pc := 91) X (tgt := 102) dX9_worksSet_91 rfl (fun c0 => ?_) (fun c0 => ?_)
  · refine g_iload (pc := 102) X 5 rfl dX9_worksSet_102 ?_
    exact g_top (by rw [if_pos c0]) kJ
  · refine g_iload (pc := 94) X 10 rfl dX9_worksSet_94 ?_
    refine g_iload (pc := 96) X 1 rfl dX9_worksSet_96 ?_
    refine g_iadd (pc := 98) X dX9_worksSet_98 ?_
    refine g_goto (pc := 99) X (tgt := 104) dX9_worksSet_99 rfl ?_
    exact g_top (by rw [if_neg c0]) kJ

def L_X9_worksSet_18  (n : Nat) (v0 : Nat) (v1 : Int32) (v2 : Int32) (v3 : Int32) (v4 : Int32) (v5 : Int32) (v6 : Int64) (v8 : Int32) (v9 : Int32) (w : Wd) : Option (Int32 × Wd) := match n with
  | 0 => none
  | n + 1 => (if wK w v0 = 9 then
 (bd1 (wR w v0 0) fun a2 =>
 (if aK 11 w a2 2 = true then
 (if (wI w a2 (nx 2)) ≤ v9 then
 (if v2 = 1 then
 some ((if v3 = 0 then 0 else v5 : Int32), w)
 else
 (if v2 = 2 then
 (if v3 = 0 then
 some (1, w)
 else
 some (Int64.toInt32 (lrem v6 1000000007), w))
 else
 (if v2 = 3 then
 some (v8, w)
 else
 some (v4, w))))
 else
 (bd2 (f_X9_mayOrdinary v0 v1 v9 w) fun r8 w9 =>
 (if r8 = 0 then
 (lb_ (v9 + 1) fun x11 =>
 L_X9_worksSet_18 n v0 v1 v2 v3 v4 v5 v6 v8 x11 w9)
 else
 (if wK w9 v0 = 9 then
 (bd1 (wR w9 v0 5) fun a14 =>
 (if aK 11 w9 a14 (v1 ||| (1 <<< (v9 &&& 31))) = true then
 (lb_ (wI w9 a14 (nx (v1 ||| (1 <<< (v9 &&& 31))))) fun x17 =>
 (if v2 = 4 then
 (bd1 (wR w9 v0 0) fun a31 =>
 (if aK 11 w9 a31 6 = true then
 (bd1 (wR w9 v0 0) fun a34 =>
 (if aK 11 w9 a34 (12 + v9) = true then
 j_X9_worksSet_79 (L_X9_worksSet_18 n) v0 v1 v2 v3 v4 v5 v6 v8 v9 x17 ((wI w9 a31 (nx 6)) + (wI w9 a34 (nx (12 + v9)))) w9
 else none))
 else none))
 else
 j_X9_worksSet_79 (L_X9_worksSet_18 n) v0 v1 v2 v3 v4 v5 v6 v8 v9 x17 1 w9))
 else none))
 else none))))
 else none))
 else none)
theorem bL_X9_worksSet_18 {t : Ct} {V : Vt} {r : Int32} {w' : Wd} (Y : Hd_ t V cX9_worksSet 12 RX9 { frames := 4, cells := 0, slots := 0, locals := 87 } (some .int) "worksSet") : ∀ {n : Nat} {v0 : Nat} {v1 : Int32} {v2 : Int32} {v3 : Int32} {v4 : Int32} {v5 : Int32} {v6 : Int64} {v8 : Int32} {v9 : Int32} {w : Wd}, L_X9_worksSet_18  n v0 v1 v2 v3 v4 v5 v6 v8 v9 w = some (r, w') → Gd t V 12 0 0 (Qe t V (some (.int r)) w' 0 0) 18 [(0, rf V v0), (1, .int v1), (2, .int v2), (3, .int v3), (4, .int v4), (5, .int v5), (6, .long v6), (8, .int v8), (9, .int v9)] [] w := by
  have X := Y.1
  intro n
  induction n with
  | zero => intro v0 v1 v2 v3 v4 v5 v6 v8 v9 w h; cases h
  | succ n ih0 =>
    have ih : ∀ (v0 : Nat) (v1 : Int32) (v2 : Int32) (v3 : Int32) (v4 : Int32) (v5 : Int32) (v6 : Int64) (v8 : Int32) (v9 : Int32) (w : Wd), L_X9_worksSet_18  n v0 v1 v2 v3 v4 v5 v6 v8 v9 w = some (r, w') → Gd t V 12 0 0 (Qe t V (some (.int r)) w' 0 0) 18 [(0, rf V v0), (1, .int v1), (2, .int v2), (3, .int v3), (4, .int v4), (5, .int v5), (6, .long v6), (8, .int v8), (9, .int v9)] [] w := fun v0 v1 v2 v3 v4 v5 v6 v8 v9 w h => ih0 h
    clear ih0
    intro v0 v1 v2 v3 v4 v5 v6 v8 v9 w h
    unfold L_X9_worksSet_18 at h
    refine g_iload (pc := 18) X 8 rfl dX9_worksSet_18 ?_
    refine g_aload_n (pc := 20) X 0 rfl dX9_worksSet_20 ?_
    obtain ⟨k1, h⟩ := gd_i h
    obtain ⟨a2, e3, h⟩ := bd1_i h
    refine g_getR (pc := 21) X FcX9 k1 0 e3 (by decide) rfl q_1020 dX9_worksSet_21 ?_
    refine g_iconst (pc := 24) X (v := 2) dX9_worksSet_24 rfl ?_
    obtain ⟨k4, h⟩ := gd_i h
    refine g_iald (pc := 25) X k4 dX9_worksSet_25 ?_
    refine g_icmp_ge (pc := 26) X (tgt := 155) dX9_worksSet_26 rfl (fun c => ?_) (fun c => ?_)
    · have h := br_y c h
      refine g_iload_n (pc := 155) X 2 rfl dX9_worksSet_155 ?_
      by_cases c5 : v2 = 1
      · have h := br_y c5 h
        refine g_tswI (pc := 156) X 1 (tgt := 184) dX9_worksSet_156 c5 (by decide) (by decide) rfl rfl ?_
        refine g_iload_n (pc := 184) X 3 rfl dX9_worksSet_184 ?_
        have kJ : Gd t V 12 0 0 (Qe t V (some (.int r)) w' 0 0) 194 [(0, rf V v0), (1, .int v1), (2, .int v2), (3, .int v3), (4, .int v4), (5, .int v5), (6, .long v6), (8, .int v8), (9, .int v9)] [.int (if v3 = 0 then 0 else v5 : Int32)] w := by
          obtain ⟨e1, e2⟩ := rt_i h
          exact g_iret (pc := 194) X Y.2.2.1 (Nat.le_of_ble_eq_true rfl) (Nat.le_of_ble_eq_true rfl) e1 e2 dX9_worksSet_194
        refine g_if_ne (pc := 185) X (tgt := 192) dX9_worksSet_185 rfl (fun c0 => ?_) (fun c0 => ?_)
        · refine g_iload (pc := 192) X 5 rfl dX9_worksSet_192 ?_
          exact g_top (by rw [if_neg c0]) kJ
        · refine g_iconst (pc := 188) X (v := 0) dX9_worksSet_188 rfl ?_
          refine g_goto (pc := 189) X (tgt := 194) dX9_worksSet_189 rfl ?_
          exact g_top (by rw [if_pos c0]) kJ
      · have h := br_n c5 h
        by_cases c6 : v2 = 2
        · have h := br_y c6 h
          refine g_tswI (pc := 156) X 2 (tgt := 195) dX9_worksSet_156 c6 (by decide) (by decide) rfl rfl ?_
          refine g_iload_n (pc := 195) X 3 rfl dX9_worksSet_195 ?_
          refine g_if_ne (pc := 196) X (tgt := 203) dX9_worksSet_196 rfl (fun c => ?_) (fun c => ?_)
          · have h := br_n c h
            refine g_lload (pc := 203) X 6 rfl dX9_worksSet_203 ?_
            refine g_ldc2 (pc := 205) X q_1329 dX9_worksSet_205 ?_
            refine g_lrem (pc := 208) X (by decide) dX9_worksSet_208 ?_
            refine g_l2i (pc := 209) X dX9_worksSet_209 ?_
            obtain ⟨e1, e2⟩ := rt_i h
            exact g_iret (pc := 210) X Y.2.2.1 (Nat.le_of_ble_eq_true rfl) (Nat.le_of_ble_eq_true rfl) e1 e2 dX9_worksSet_210
          · have h := br_y c h
            refine g_iconst (pc := 199) X (v := 1) dX9_worksSet_199 rfl ?_
            refine g_goto (pc := 200) X (tgt := 210) dX9_worksSet_200 rfl ?_
            obtain ⟨e1, e2⟩ := rt_i h
            exact g_iret (pc := 210) X Y.2.2.1 (Nat.le_of_ble_eq_true rfl) (Nat.le_of_ble_eq_true rfl) e1 e2 dX9_worksSet_210
        · have h := br_n c6 h
          by_cases c7 : v2 = 3
          · have h := br_y c7 h
            refine g_tswI (pc := 156) X 3 (tgt := 211) dX9_worksSet_156 c7 (by decide) (by decide) rfl rfl ?_
            refine g_iload (pc := 211) X 7 rfl dX9_worksSet_211 ?_
            obtain ⟨e1, e2⟩ := rt_i h
            exact g_iret (pc := 213) X Y.2.2.1 (Nat.le_of_ble_eq_true rfl) (Nat.le_of_ble_eq_true rfl) e1 e2 dX9_worksSet_213
          · have h := br_n c7 h
            refine g_tswO (pc := 156) X (tgt := 214) dX9_worksSet_156 (by have n0 : Int32.toInt v2 ≠ 1 := nt_ c5; have n1 : Int32.toInt v2 ≠ 2 := nt_ c6; have n2 : Int32.toInt v2 ≠ 3 := nt_ c7; omega) rfl ?_
            refine g_iload (pc := 214) X 4 rfl dX9_worksSet_214 ?_
            obtain ⟨e1, e2⟩ := rt_i h
            exact g_iret (pc := 216) X Y.2.2.1 (Nat.le_of_ble_eq_true rfl) (Nat.le_of_ble_eq_true rfl) e1 e2 dX9_worksSet_216
    · have h := br_n c h
      refine g_aload_n (pc := 29) X 0 rfl dX9_worksSet_29 ?_
      refine g_iload_n (pc := 30) X 1 rfl dX9_worksSet_30 ?_
      refine g_iload (pc := 31) X 8 rfl dX9_worksSet_31 ?_
      obtain ⟨r8, w9, h10, h⟩ := bd2_i h
      refine g_callV (pc := 33) X FcX9 k1 mk_X9_mayOrdinary q_1327 q_49 q_1325 (c_X9_mayOrdinary h10) rfl rfl (by rw [Y.2.1]; decide)  rfl (rest := []) rfl (Nat.le_of_ble_eq_true rfl) (by rw [Y.2.1]; exact ⟨Nat.le_of_ble_eq_true rfl, Nat.le_of_ble_eq_true rfl⟩) dX9_worksSet_33 (st' := [.int r8]) rfl ?_
      refine g_if_eq (pc := 36) X (tgt := 149) dX9_worksSet_36 rfl (fun c => ?_) (fun c => ?_)
      · have h := br_y c h
        obtain ⟨x11, e12, h⟩ := lb_i h
        refine g_iinc (pc := 149) X 8 rfl dX9_worksSet_149 (v := x11) e12.symm (by decide) (lv' := [(9, .int x11), (0, rf V v0), (1, .int v1), (2, .int v2), (3, .int v3), (4, .int v4), (5, .int v5), (6, .long v6), (8, .int v8)]) rfl ?_
        refine g_goto (pc := 152) X (tgt := 18) dX9_worksSet_152 rfl ?_
        refine g_sub (lv' := [(0, rf V v0), (1, .int v1), (2, .int v2), (3, .int v3), (4, .int v4), (5, .int v5), (6, .long v6), (8, .int v8), (9, .int x11)]) [1, 2, 3, 4, 5, 6, 7, 8, 0] rfl ?_
        exact ih _ _ _ _ _ _ _ _ _ _ h
      · have h := br_n c h
        refine g_aload_n (pc := 39) X 0 rfl dX9_worksSet_39 ?_
        obtain ⟨k13, h⟩ := gd_i h
        obtain ⟨a14, e15, h⟩ := bd1_i h
        refine g_getR (pc := 40) X FcX9 k13 5 e15 (by decide) rfl q_1025 dX9_worksSet_40 ?_
        refine g_iload_n (pc := 43) X 1 rfl dX9_worksSet_43 ?_
        refine g_iconst (pc := 44) X (v := 1) dX9_worksSet_44 rfl ?_
        refine g_iload (pc := 45) X 8 rfl dX9_worksSet_45 ?_
        refine g_ishl (pc := 47) X dX9_worksSet_47 ?_
        refine g_ior (pc := 48) X dX9_worksSet_48 ?_
        obtain ⟨k16, h⟩ := gd_i h
        refine g_iald (pc := 49) X k16 dX9_worksSet_49 ?_
        obtain ⟨x17, e18, h⟩ := lb_i h
        refine g_top e18 ?_
        refine g_istore (pc := 50) X (lv' := [(10, .int x17), (0, rf V v0), (1, .int v1), (2, .int v2), (3, .int v3), (4, .int v4), (5, .int v5), (6, .long v6), (8, .int v8), (9, .int v9)]) dX9_worksSet_50 (by decide) rfl ?_
        refine g_iload_n (pc := 52) X 3 rfl dX9_worksSet_52 ?_
        refine g_iconst (pc := 53) X (v := 4) dX9_worksSet_53 rfl ?_
        refine g_icmp_ne (pc := 54) X (tgt := 78) dX9_worksSet_54 rfl (fun c => ?_) (fun c => ?_)
        · have h := br_n c h
          refine g_iconst (pc := 78) X (v := 1) dX9_worksSet_78 rfl ?_
          refine g_sub (lv' := [(0, rf V v0), (1, .int v1), (2, .int v2), (3, .int v3), (4, .int v4), (5, .int v5), (6, .long v6), (8, .int v8), (9, .int v9), (10, .int x17)]) [1, 2, 3, 4, 5, 6, 7, 8, 9, 0] rfl ?_
          exact bj_X9_worksSet_79 Y (ih) h
        · have h := br_y c h
          refine g_aload_n (pc := 57) X 1 rfl dX9_worksSet_57 ?_
          obtain ⟨a31, e32, h⟩ := bd1_i h
          refine g_getR (pc := 58) X FcX9 k13 0 e32 (by decide) rfl q_1020 dX9_worksSet_58 ?_
          refine g_bipush (pc := 61) X (v := 6) dX9_worksSet_61 rfl ?_
          obtain ⟨k33, h⟩ := gd_i h
          refine g_iald (pc := 63) X k33 dX9_worksSet_63 ?_
          refine g_aload_n (pc := 64) X 1 rfl dX9_worksSet_64 ?_
          obtain ⟨a34, e35, h⟩ := bd1_i h
          refine g_getR (pc := 65) X FcX9 k13 0 e35 (by decide) rfl q_1020 dX9_worksSet_65 ?_
          refine g_bipush (pc := 68) X (v := 12) dX9_worksSet_68 rfl ?_
          refine g_iload (pc := 70) X 9 rfl dX9_worksSet_70 ?_
          refine g_iadd (pc := 72) X dX9_worksSet_72 ?_
          obtain ⟨k36, h⟩ := gd_i h
          refine g_iald (pc := 73) X k36 dX9_worksSet_73 ?_
          refine g_iadd (pc := 74) X dX9_worksSet_74 ?_
          refine g_goto (pc := 75) X (tgt := 79) dX9_worksSet_75 rfl ?_
          refine g_sub (lv' := [(0, rf V v0), (1, .int v1), (2, .int v2), (3, .int v3), (4, .int v4), (5, .int v5), (6, .long v6), (8, .int v8), (9, .int v9), (10, .int x17)]) [1, 2, 3, 4, 5, 6, 7, 8, 9, 0] rfl ?_
          exact bj_X9_worksSet_79 Y (ih) h

def f_X9_worksSet (v0 : Nat) (v1 : Int32) (v2 : Int32) (w : Wd) : Option (Int32 × Wd) := L_X9_worksSet_18 FU v0 v1 v2 0 0 99 0 0 0 w
theorem c_X9_worksSet {l : Launch} {V : Vt} {v0 : Nat} {v1 : Int32} {v2 : Int32} {w w' : Wd} {r : Int32} (h : f_X9_worksSet v0 v1 v2 w = some (r, w')) : MetW l V yX9_worksSet cX9_worksSet 12 (some .int) { frames := 4, cells := 0, slots := 0, locals := 87 } w [rf V v0, .int v1, .int v2] (some (.int r)) w' 0 0 := by
  refine g_start (by decide) (Nat.le_of_ble_eq_true rfl) ?_
  intro t _ hrm X hret hnm
  have Y : Hd_ t V cX9_worksSet 12 RX9 { frames := 4, cells := 0, slots := 0, locals := 87 } (some .int) "worksSet" := ⟨X, hrm, hret, hnm⟩
  refine g_as (lv' := [(0, rf V v0), (1, .int v1), (2, .int v2)]) (st' := []) rfl rfl ?_
  unfold f_X9_worksSet at h
  refine g_iconst (pc := 0) X (v := 0) dX9_worksSet_0 rfl ?_
  refine g_istore_n (pc := 1) X (lv' := [(3, .int 0), (0, rf V v0), (1, .int v1), (2, .int v2)]) dX9_worksSet_1 (by decide) rfl ?_
  refine g_iconst (pc := 2) X (v := 0) dX9_worksSet_2 rfl ?_
  refine g_istore (pc := 3) X (lv' := [(4, .int 0), (3, .int 0), (0, rf V v0), (1, .int v1), (2, .int v2)]) dX9_worksSet_3 (by decide) rfl ?_
  refine g_bipush (pc := 5) X (v := 99) dX9_worksSet_5 rfl ?_
  refine g_istore (pc := 7) X (lv' := [(5, .int 99), (4, .int 0), (3, .int 0), (0, rf V v0), (1, .int v1), (2, .int v2)]) dX9_worksSet_7 (by decide) rfl ?_
  refine g_lconst (pc := 9) X (v := 0) dX9_worksSet_9 rfl ?_
  refine g_lstore (pc := 10) X (lv' := [(6, .long 0), (5, .int 99), (4, .int 0), (3, .int 0), (0, rf V v0), (1, .int v1), (2, .int v2)]) dX9_worksSet_10 (by decide) rfl ?_
  refine g_iconst (pc := 12) X (v := 0) dX9_worksSet_12 rfl ?_
  refine g_istore (pc := 13) X (lv' := [(8, .int 0), (6, .long 0), (5, .int 99), (4, .int 0), (3, .int 0), (0, rf V v0), (1, .int v1), (2, .int v2)]) dX9_worksSet_13 (by decide) rfl ?_
  refine g_iconst (pc := 15) X (v := 0) dX9_worksSet_15 rfl ?_
  refine g_istore (pc := 16) X (lv' := [(9, .int 0), (8, .int 0), (6, .long 0), (5, .int 99), (4, .int 0), (3, .int 0), (0, rf V v0), (1, .int v1), (2, .int v2)]) dX9_worksSet_16 (by decide) rfl ?_
  refine g_sub (lv' := [(0, rf V v0), (1, .int v1), (2, .int v2), (3, .int 0), (4, .int 0), (5, .int 99), (6, .long 0), (8, .int 0), (9, .int 0)]) [6, 7, 8, 5, 4, 3, 2, 1, 0] rfl ?_
  exact bL_X9_worksSet_18 Y  h

def L_X9_works_16  (n : Nat) (v0 : Nat) (v1 : Int32) (v2 : Int32) (v3 : Int32) (w : Wd) : Option (Int32 × Wd) := match n with
  | 0 => none
  | n + 1 => (if v3 < v2 then
 (if wK w v0 = 9 then
 (bd1 (wR w v0 5) fun a12 =>
 (if aK 11 w a12 v2 = true then
 some (wI w a12 (nx v2), w)
 else none))
 else none)
 else
 (if wK w v0 = 9 then
 (bd1 (wR w v0 5) fun a16 =>
 (bd2 (f_X9_worksSet v0 v3 v1 w) fun r18 w19 =>
 (if aK 11 w19 a16 v3 = true then
 (lb_ (sI w19 a16 (nx v3) r18) fun w22 =>
 (lb_ (v3 + (-1)) fun x24 =>
 L_X9_works_16 n v0 v1 v2 x24 w22))
 else none)))
 else none))
theorem bL_X9_works_16 {t : Ct} {V : Vt} {r : Int32} {w' : Wd} (Y : Hd_ t V cX9_works 4 RX9 { frames := 5, cells := 0, slots := 0, locals := 118 } (some .int) "works") : ∀ {n : Nat} {v0 : Nat} {v1 : Int32} {v2 : Int32} {v3 : Int32} {w : Wd}, L_X9_works_16  n v0 v1 v2 v3 w = some (r, w') → Gd t V 4 0 0 (Qe t V (some (.int r)) w' 0 0) 16 [(0, rf V v0), (1, .int v1), (2, .int v2), (3, .int v3)] [] w := by
  have X := Y.1
  intro n
  induction n with
  | zero => intro v0 v1 v2 v3 w h; cases h
  | succ n ih0 =>
    have ih : ∀ (v0 : Nat) (v1 : Int32) (v2 : Int32) (v3 : Int32) (w : Wd), L_X9_works_16  n v0 v1 v2 v3 w = some (r, w') → Gd t V 4 0 0 (Qe t V (some (.int r)) w' 0 0) 16 [(0, rf V v0), (1, .int v1), (2, .int v2), (3, .int v3)] [] w := fun v0 v1 v2 v3 w h => ih0 h
    clear ih0
    intro v0 v1 v2 v3 w h
    unfold L_X9_works_16 at h
    refine g_iload_n (pc := 16) X 3 rfl dX9_works_16 ?_
    refine g_iload_n (pc := 17) X 2 rfl dX9_works_17 ?_
    refine g_icmp_lt (pc := 18) X (tgt := 39) dX9_works_18 rfl (fun c => ?_) (fun c => ?_)
    · have h := br_y c h
      refine g_aload_n (pc := 39) X 0 rfl dX9_works_39 ?_
      obtain ⟨k11, h⟩ := gd_i h
      obtain ⟨a12, e13, h⟩ := bd1_i h
      refine g_getR (pc := 40) X FcX9 k11 5 e13 (by decide) rfl q_1025 dX9_works_40 ?_
      refine g_iload_n (pc := 43) X 2 rfl dX9_works_43 ?_
      obtain ⟨k14, h⟩ := gd_i h
      refine g_iald (pc := 44) X k14 dX9_works_44 ?_
      obtain ⟨e1, e2⟩ := rt_i h
      exact g_iret (pc := 45) X Y.2.2.1 (Nat.le_of_ble_eq_true rfl) (Nat.le_of_ble_eq_true rfl) e1 e2 dX9_works_45
    · have h := br_n c h
      refine g_aload_n (pc := 21) X 0 rfl dX9_works_21 ?_
      obtain ⟨k15, h⟩ := gd_i h
      obtain ⟨a16, e17, h⟩ := bd1_i h
      refine g_getR (pc := 22) X FcX9 k15 5 e17 (by decide) rfl q_1025 dX9_works_22 ?_
      refine g_iload_n (pc := 25) X 3 rfl dX9_works_25 ?_
      refine g_aload_n (pc := 26) X 0 rfl dX9_works_26 ?_
      refine g_iload_n (pc := 27) X 3 rfl dX9_works_27 ?_
      refine g_iload_n (pc := 28) X 1 rfl dX9_works_28 ?_
      obtain ⟨r18, w19, h20, h⟩ := bd2_i h
      refine g_callV (pc := 29) X FcX9 k15 mk_X9_worksSet q_1323 q_48 q_1321 (c_X9_worksSet h20) rfl rfl (by rw [Y.2.1]; decide)  rfl (rest := [.int v3, rf V a16]) rfl (Nat.le_of_ble_eq_true rfl) (by rw [Y.2.1]; exact ⟨Nat.le_of_ble_eq_true rfl, Nat.le_of_ble_eq_true rfl⟩) dX9_works_29 (st' := [.int r18, .int v3, rf V a16]) rfl ?_
      obtain ⟨k21, h⟩ := gd_i h
      refine g_iast (pc := 32) X k21 dX9_works_32 ?_
      obtain ⟨w22, e23, h⟩ := lb_i h
      refine g_w e23 ?_
      obtain ⟨x24, e25, h⟩ := lb_i h
      refine g_iinc (pc := 33) X 3 rfl dX9_works_33 (v := x24) e25.symm (by decide) (lv' := [(3, .int x24), (0, rf V v0), (1, .int v1), (2, .int v2)]) rfl ?_
      refine g_goto (pc := 36) X (tgt := 16) dX9_works_36 rfl ?_
      refine g_sub (lv' := [(0, rf V v0), (1, .int v1), (2, .int v2), (3, .int x24)]) [1, 2, 3, 0] rfl ?_
      exact ih _ _ _ _ _ h

def f_X9_works (v0 : Nat) (v1 : Int32) (w : Wd) : Option (Int32 × Wd) := (if wK w v0 = 9 then
 (bd2 (f_X9_taken v0 w) fun r2 w3 =>
 (if wK w3 v0 = 9 then
 (bd1 (wR w3 v0 0) fun a6 =>
 (if aK 11 w3 a6 2 = true then
 (lb_ ((1 <<< ((wI w3 a6 (nx 2)) &&& 31)) - 1) fun x9 =>
 L_X9_works_16 FU v0 v1 r2 x9 w3)
 else none))
 else none))
 else none)
theorem c_X9_works {l : Launch} {V : Vt} {v0 : Nat} {v1 : Int32} {w w' : Wd} {r : Int32} (h : f_X9_works v0 v1 w = some (r, w')) : MetW l V yX9_works cX9_works 4 (some .int) { frames := 5, cells := 0, slots := 0, locals := 118 } w [rf V v0, .int v1] (some (.int r)) w' 0 0 := by
  refine g_start (by decide) (Nat.le_of_ble_eq_true rfl) ?_
  intro t _ hrm X hret hnm
  have Y : Hd_ t V cX9_works 4 RX9 { frames := 5, cells := 0, slots := 0, locals := 118 } (some .int) "works" := ⟨X, hrm, hret, hnm⟩
  refine g_as (lv' := [(0, rf V v0), (1, .int v1)]) (st' := []) rfl rfl ?_
  unfold f_X9_works at h
  refine g_aload_n (pc := 0) X 0 rfl dX9_works_0 ?_
  obtain ⟨k1, h⟩ := gd_i h
  obtain ⟨r2, w3, h4, h⟩ := bd2_i h
  refine g_callV (pc := 1) X FcX9 k1 mk_X9_taken q_1182 q_31 q_1180 (c_X9_taken h4) rfl rfl (by rw [Y.2.1]; decide)  rfl (rest := []) rfl (Nat.le_of_ble_eq_true rfl) (by rw [Y.2.1]; exact ⟨Nat.le_of_ble_eq_true rfl, Nat.le_of_ble_eq_true rfl⟩) dX9_works_1 (st' := [.int r2]) rfl ?_
  refine g_istore_n (pc := 4) X (lv' := [(2, .int r2), (0, rf V v0), (1, .int v1)]) dX9_works_4 (by decide) rfl ?_
  refine g_iconst (pc := 5) X (v := 1) dX9_works_5 rfl ?_
  refine g_aload_n (pc := 6) X 1 rfl dX9_works_6 ?_
  obtain ⟨k5, h⟩ := gd_i h
  obtain ⟨a6, e7, h⟩ := bd1_i h
  refine g_getR (pc := 7) X FcX9 k5 0 e7 (by decide) rfl q_1020 dX9_works_7 ?_
  refine g_iconst (pc := 10) X (v := 2) dX9_works_10 rfl ?_
  obtain ⟨k8, h⟩ := gd_i h
  refine g_iald (pc := 11) X k8 dX9_works_11 ?_
  refine g_ishl (pc := 12) X dX9_works_12 ?_
  refine g_iconst (pc := 13) X (v := 1) dX9_works_13 rfl ?_
  refine g_isub (pc := 14) X dX9_works_14 ?_
  obtain ⟨x9, e10, h⟩ := lb_i h
  refine g_top e10 ?_
  refine g_istore_n (pc := 15) X (lv' := [(3, .int x9), (2, .int r2), (0, rf V v0), (1, .int v1)]) dX9_works_15 (by decide) rfl ?_
  refine g_sub (lv' := [(0, rf V v0), (1, .int v1), (2, .int r2), (3, .int x9)]) [2, 3, 1, 0] rfl ?_
  exact bL_X9_works_16 Y  h

def f_X9_goes (v0 : Nat) (v1 : Int32) (w : Wd) : Option (Int32 × Wd) := (bd2 (f_X9_in v1 0 2 w) fun r1 w2 =>
 (if r1 = 0 then
 some ((-1000000001), w2)
 else
 (if wK w2 v0 = 9 then
 (bd2 (f_X9_works v0 v1 w2) fun r5 w6 =>
 some (r5, w6))
 else none)))
theorem c_X9_goes {l : Launch} {V : Vt} {v0 : Nat} {v1 : Int32} {w w' : Wd} {r : Int32} (h : f_X9_goes v0 v1 w = some (r, w')) : MetW l V yX9_goes cX9_goes 2 (some .int) { frames := 6, cells := 0, slots := 0, locals := 141 } w [rf V v0, .int v1] (some (.int r)) w' 0 0 := by
  refine g_start (by decide) (Nat.le_of_ble_eq_true rfl) ?_
  intro t _ hrm X hret hnm
  have Y : Hd_ t V cX9_goes 2 RX9 { frames := 6, cells := 0, slots := 0, locals := 141 } (some .int) "goes" := ⟨X, hrm, hret, hnm⟩
  refine g_as (lv' := [(0, rf V v0), (1, .int v1)]) (st' := []) rfl rfl ?_
  unfold f_X9_goes at h
  refine g_iload_n (pc := 0) X 1 rfl dX9_goes_0 ?_
  refine g_iconst (pc := 1) X (v := 0) dX9_goes_1 rfl ?_
  refine g_iconst (pc := 2) X (v := 2) dX9_goes_2 rfl ?_
  obtain ⟨r1, w2, h3, h⟩ := bd2_i h
  refine g_callS (pc := 3) X mk_X9_in q_1133 q_1132 (c_X9_in h3) rfl rfl (by rw [Y.2.1]; decide)  rfl (rest := []) rfl (Nat.le_of_ble_eq_true rfl) (by rw [Y.2.1]; exact ⟨Nat.le_of_ble_eq_true rfl, Nat.le_of_ble_eq_true rfl⟩) dX9_goes_3 (st' := [.int r1]) rfl ?_
  refine g_if_eq (pc := 6) X (tgt := 17) dX9_goes_6 rfl (fun c => ?_) (fun c => ?_)
  · have h := br_y c h
    refine g_ldc (pc := 17) X q_1135 dX9_goes_17 ?_
    obtain ⟨e1, e2⟩ := rt_i h
    exact g_iret (pc := 19) X Y.2.2.1 (Nat.le_of_ble_eq_true rfl) (Nat.le_of_ble_eq_true rfl) e1 e2 dX9_goes_19
  · have h := br_n c h
    refine g_aload_n (pc := 9) X 0 rfl dX9_goes_9 ?_
    refine g_iload_n (pc := 10) X 1 rfl dX9_goes_10 ?_
    obtain ⟨k4, h⟩ := gd_i h
    obtain ⟨r5, w6, h7, h⟩ := bd2_i h
    refine g_callV (pc := 11) X FcX9 k4 mk_X9_works q_1319 q_47 q_1317 (c_X9_works h7) rfl rfl (by rw [Y.2.1]; decide)  rfl (rest := []) rfl (Nat.le_of_ble_eq_true rfl) (by rw [Y.2.1]; exact ⟨Nat.le_of_ble_eq_true rfl, Nat.le_of_ble_eq_true rfl⟩) dX9_goes_11 (st' := [.int r5]) rfl ?_
    refine g_goto (pc := 14) X (tgt := 19) dX9_goes_14 rfl ?_
    obtain ⟨e1, e2⟩ := rt_i h
    exact g_iret (pc := 19) X Y.2.2.1 (Nat.le_of_ble_eq_true rfl) (Nat.le_of_ble_eq_true rfl) e1 e2 dX9_goes_19

def j_X9_game_73 (kk29 : Nat → Int32 → Int32 → Int32 → Int32 → Int32 → Wd → Option (Int32 × Wd)) (v0 : Nat) (v1 : Int32) (v2 : Int32) (v3 : Int32) (v5 : Int32) (s0 : Int32) (w : Wd) : Option (Int32 × Wd) := (lb_ (s0 ||| 0) fun x19 =>
 (lb_ (v5 + 1) fun x21 =>
 kk29 v0 v1 v2 v3 x19 x21 w))
theorem bj_X9_game_73 {t : Ct} {V : Vt} {r : Int32} {w' : Wd} {kk29 : Nat → Int32 → Int32 → Int32 → Int32 → Int32 → Wd → Option (Int32 × Wd)} (Y : Hd_ t V cX9_game 6 RX9 { frames := 6, cells := 0, slots := 0, locals := 141 } (some .int) "game") (hk29 : ∀ (u0 : Nat) (u1 : Int32) (u2 : Int32) (u3 : Int32) (u4 : Int32) (u5 : Int32) (w : Wd), kk29 u0 u1 u2 u3 u4 u5 w = some (r, w') → Gd t V 6 0 0 (Qe t V (some (.int r)) w' 0 0) 29 [(0, rf V u0), (1, .int u1), (2, .int u2), (3, .int u3), (4, .int u4), (5, .int u5)] [] w) {v0 : Nat} {v1 : Int32} {v2 : Int32} {v3 : Int32} {v5 : Int32} {s0 : Int32} {w : Wd} (h : j_X9_game_73 kk29 v0 v1 v2 v3 v5 s0 w = some (r, w')) : Gd t V 6 0 0 (Qe t V (some (.int r)) w' 0 0) 73 [(0, rf V v0), (1, .int v1), (2, .int v2), (3, .int v3), (5, .int v5)] [.int s0] w := by
  have X := Y.1
  unfold j_X9_game_73 at h
  refine g_iconst (pc := 73) X (v := 0) dX9_game_73 rfl ?_
  refine g_ior (pc := 74) X dX9_game_74 ?_
  obtain ⟨x19, e20, h⟩ := lb_i h
  refine g_top e20 ?_
  refine g_istore (pc := 75) X (lv' := [(4, .int x19), (0, rf V v0), (1, .int v1), (2, .int v2), (3, .int v3), (5, .int v5)]) dX9_game_75 (by decide) rfl ?_
  obtain ⟨x21, e22, h⟩ := lb_i h
  refine g_iinc (pc := 77) X 5 rfl dX9_game_77 (v := x21) e22.symm (by decide) (lv' := [(5, .int x21), (4, .int x19), (0, rf V v0), (1, .int v1), (2, .int v2), (3, .int v3)]) rfl ?_
  refine g_goto (pc := 80) X (tgt := 29) dX9_game_80 rfl ?_
  refine g_sub (lv' := [(0, rf V v0), (1, .int v1), (2, .int v2), (3, .int v3), (4, .int x19), (5, .int x21)]) [2, 3, 4, 5, 1, 0] rfl ?_
  exact hk29 _ _ _ _ _ _ _ h

def L_X9_game_29  (n : Nat) (v0 : Nat) (v1 : Int32) (v2 : Int32) (v3 : Int32) (v4 : Int32) (v5 : Int32) (w : Wd) : Option (Int32 × Wd) := match n with
  | 0 => none
  | n + 1 => (if wK w v0 = 9 then
 (bd1 (wR w v0 0) fun a13 =>
 (if aK 11 w a13 2 = true then
 (if (wI w a13 (nx 2)) ≤ v5 then
 some ((if v1 = 0 then v2 else v4 : Int32), w)
 else
 (bd2 (f_X9_mayOrdinary v0 v3 v5 w) fun r16 w17 =>
 (if r16 = 0 then
 j_X9_game_73 (L_X9_game_29 n) v0 v1 v2 v3 v5 v4 w17
 else
 (if wK w17 v0 = 9 then
 (bd1 (wR w17 v0 5) fun a24 =>
 (if aK 11 w17 a24 (v3 ||| (1 <<< (v5 &&& 31))) = true then
 (lb_ (v4 ||| (if (wI w17 a24 (nx (v3 ||| (1 <<< (v5 &&& 31))))) = 0 then 1 <<< (v5 &&& 31) else 0 : Int32)) fun x27 =>
 (lb_ (v5 + 1) fun x29 =>
 L_X9_game_29 n v0 v1 v2 v3 x27 x29 w17))
 else none))
 else none))))
 else none))
 else none)
theorem bL_X9_game_29 {t : Ct} {V : Vt} {r : Int32} {w' : Wd} (Y : Hd_ t V cX9_game 6 RX9 { frames := 6, cells := 0, slots := 0, locals := 141 } (some .int) "game") : ∀ {n : Nat} {v0 : Nat} {v1 : Int32} {v2 : Int32} {v3 : Int32} {v4 : Int32} {v5 : Int32} {w : Wd}, L_X9_game_29  n v0 v1 v2 v3 v4 v5 w = some (r, w') → Gd t V 6 0 0 (Qe t V (some (.int r)) w' 0 0) 29 [(0, rf V v0), (1, .int v1), (2, .int v2), (3, .int v3), (4, .int v4), (5, .int v5)] [] w := by
  have X := Y.1
  intro n
  induction n with
  | zero => intro v0 v1 v2 v3 v4 v5 w h; cases h
  | succ n ih0 =>
    have ih : ∀ (v0 : Nat) (v1 : Int32) (v2 : Int32) (v3 : Int32) (v4 : Int32) (v5 : Int32) (w : Wd), L_X9_game_29  n v0 v1 v2 v3 v4 v5 w = some (r, w') → Gd t V 6 0 0 (Qe t V (some (.int r)) w' 0 0) 29 [(0, rf V v0), (1, .int v1), (2, .int v2), (3, .int v3), (4, .int v4), (5, .int v5)] [] w := fun v0 v1 v2 v3 v4 v5 w h => ih0 h
    clear ih0
    intro v0 v1 v2 v3 v4 v5 w h
    unfold L_X9_game_29 at h
    refine g_iload (pc := 29) X 5 rfl dX9_game_29 ?_
    refine g_aload_n (pc := 31) X 0 rfl dX9_game_31 ?_
    obtain ⟨k12, h⟩ := gd_i h
    obtain ⟨a13, e14, h⟩ := bd1_i h
    refine g_getR (pc := 32) X FcX9 k12 0 e14 (by decide) rfl q_1020 dX9_game_32 ?_
    refine g_iconst (pc := 35) X (v := 2) dX9_game_35 rfl ?_
    obtain ⟨k15, h⟩ := gd_i h
    refine g_iald (pc := 36) X k15 dX9_game_36 ?_
    refine g_icmp_ge (pc := 37) X (tgt := 83) dX9_game_37 rfl (fun c => ?_) (fun c => ?_)
    · have h := br_y c h
      refine g_iload_n (pc := 83) X 1 rfl dX9_game_83 ?_
      have kJ : Gd t V 6 0 0 (Qe t V (some (.int r)) w' 0 0) 93 [(0, rf V v0), (1, .int v1), (2, .int v2), (3, .int v3), (4, .int v4), (5, .int v5)] [.int (if v1 = 0 then v2 else v4 : Int32)] w := by
        obtain ⟨e1, e2⟩ := rt_i h
        exact g_iret (pc := 93) X Y.2.2.1 (Nat.le_of_ble_eq_true rfl) (Nat.le_of_ble_eq_true rfl) e1 e2 dX9_game_93
      refine g_if_ne (pc := 84) X (tgt := 91) dX9_game_84 rfl (fun c0 => ?_) (fun c0 => ?_)
      · refine g_iload (pc := 91) X 4 rfl dX9_game_91 ?_
        exact g_top (by rw [if_neg c0]) kJ
      · refine g_iload_n (pc := 87) X 2 rfl dX9_game_87 ?_
        refine g_goto (pc := 88) X (tgt := 93) dX9_game_88 rfl ?_
        exact g_top (by rw [if_pos c0]) kJ
    · have h := br_n c h
      refine g_iload (pc := 40) X 4 rfl dX9_game_40 ?_
      refine g_aload_n (pc := 42) X 0 rfl dX9_game_42 ?_
      refine g_iload_n (pc := 43) X 3 rfl dX9_game_43 ?_
      refine g_iload (pc := 44) X 5 rfl dX9_game_44 ?_
      obtain ⟨r16, w17, h18, h⟩ := bd2_i h
      refine g_callV (pc := 46) X FcX9 k12 mk_X9_mayOrdinary q_1327 q_49 q_1325 (c_X9_mayOrdinary h18) rfl rfl (by rw [Y.2.1]; decide)  rfl (rest := [.int v4]) rfl (Nat.le_of_ble_eq_true rfl) (by rw [Y.2.1]; exact ⟨Nat.le_of_ble_eq_true rfl, Nat.le_of_ble_eq_true rfl⟩) dX9_game_46 (st' := [.int r16, .int v4]) rfl ?_
      refine g_if_eq (pc := 49) X (tgt := 73) dX9_game_49 rfl (fun c => ?_) (fun c => ?_)
      · have h := br_y c h
        refine g_sub (lv' := [(0, rf V v0), (1, .int v1), (2, .int v2), (3, .int v3), (5, .int v5)]) [0, 1, 2, 3, 5] rfl ?_
        exact bj_X9_game_73 Y (ih) h
      · have h := br_n c h
        refine g_aload_n (pc := 52) X 0 rfl dX9_game_52 ?_
        obtain ⟨k23, h⟩ := gd_i h
        obtain ⟨a24, e25, h⟩ := bd1_i h
        refine g_getR (pc := 53) X FcX9 k23 5 e25 (by decide) rfl q_1025 dX9_game_53 ?_
        refine g_iload_n (pc := 56) X 3 rfl dX9_game_56 ?_
        refine g_iconst (pc := 57) X (v := 1) dX9_game_57 rfl ?_
        refine g_iload (pc := 58) X 5 rfl dX9_game_58 ?_
        refine g_ishl (pc := 60) X dX9_game_60 ?_
        refine g_ior (pc := 61) X dX9_game_61 ?_
        obtain ⟨k26, h⟩ := gd_i h
        refine g_iald (pc := 62) X k26 dX9_game_62 ?_
        have kJ : Gd t V 6 0 0 (Qe t V (some (.int r)) w' 0 0) 74 [(0, rf V v0), (1, .int v1), (2, .int v2), (3, .int v3), (4, .int v4), (5, .int v5)] [.int (if (wI w17 a24 (nx (v3 ||| (1 <<< (v5 &&& 31))))) = 0 then 1 <<< (v5 &&& 31) else 0 : Int32), .int v4] w17 := by
          refine g_ior (pc := 74) X dX9_game_74 ?_
          obtain ⟨x27, e28, h⟩ := lb_i h
          refine g_top e28 ?_
          refine g_istore (pc := 75) X (lv' := [(4, .int x27), (0, rf V v0), (1, .int v1), (2, .int v2), (3, .int v3), (5, .int v5)]) dX9_game_75 (by decide) rfl ?_
          obtain ⟨x29, e30, h⟩ := lb_i h
          refine g_iinc (pc := 77) X 5 rfl dX9_game_77 (v := x29) e30.symm (by decide) (lv' := [(5, .int x29), (4, .int x27), (0, rf V v0), (1, .int v1), (2, .int v2), (3, .int v3)]) rfl ?_
          refine g_goto (pc := 80) X (tgt := 29) dX9_game_80 rfl ?_
          refine g_sub (lv' := [(0, rf V v0), (1, .int v1), (2, .int v2), (3, .int v3), (4, .int x27), (5, .int x29)]) [2, 3, 4, 5, 1, 0] rfl ?_
          exact ih _ _ _ _ _ _ _ h
        refine g_if_ne (pc := 63) X (tgt := 73) dX9_game_63 rfl (fun c0 => ?_) (fun c0 => ?_)
        · refine g_iconst (pc := 73) X (v := 0) dX9_game_73 rfl ?_
          exact g_top (by rw [if_neg c0]) kJ
        · refine g_iconst (pc := 66) X (v := 1) dX9_game_66 rfl ?_
          refine g_iload (pc := 67) X 5 rfl dX9_game_67 ?_
          refine g_ishl (pc := 69) X dX9_game_69 ?_
          refine g_goto (pc := 70) X (tgt := 74) dX9_game_70 rfl ?_
          exact g_top (by rw [if_pos c0]) kJ

def f_X9_game (v0 : Nat) (v1 : Int32) (w : Wd) : Option (Int32 × Wd) := (bd2 (f_X9_in v1 0 1 w) fun r1 w2 =>
 (if r1 = 0 then
 some ((-1000000001), w2)
 else
 (if wK w2 v0 = 9 then
 (bd2 (f_X9_works v0 3 w2) fun r5 w6 =>
 (if wK w6 v0 = 9 then
 (bd2 (f_X9_taken v0 w6) fun r9 w10 =>
 L_X9_game_29 FU v0 v1 r5 r9 0 0 w10)
 else none))
 else none)))
theorem c_X9_game {l : Launch} {V : Vt} {v0 : Nat} {v1 : Int32} {w w' : Wd} {r : Int32} (h : f_X9_game v0 v1 w = some (r, w')) : MetW l V yX9_game cX9_game 6 (some .int) { frames := 6, cells := 0, slots := 0, locals := 141 } w [rf V v0, .int v1] (some (.int r)) w' 0 0 := by
  refine g_start (by decide) (Nat.le_of_ble_eq_true rfl) ?_
  intro t _ hrm X hret hnm
  have Y : Hd_ t V cX9_game 6 RX9 { frames := 6, cells := 0, slots := 0, locals := 141 } (some .int) "game" := ⟨X, hrm, hret, hnm⟩
  refine g_as (lv' := [(0, rf V v0), (1, .int v1)]) (st' := []) rfl rfl ?_
  unfold f_X9_game at h
  refine g_iload_n (pc := 0) X 1 rfl dX9_game_0 ?_
  refine g_iconst (pc := 1) X (v := 0) dX9_game_1 rfl ?_
  refine g_iconst (pc := 2) X (v := 1) dX9_game_2 rfl ?_
  obtain ⟨r1, w2, h3, h⟩ := bd2_i h
  refine g_callS (pc := 3) X mk_X9_in q_1133 q_1132 (c_X9_in h3) rfl rfl (by rw [Y.2.1]; decide)  rfl (rest := []) rfl (Nat.le_of_ble_eq_true rfl) (by rw [Y.2.1]; exact ⟨Nat.le_of_ble_eq_true rfl, Nat.le_of_ble_eq_true rfl⟩) dX9_game_3 (st' := [.int r1]) rfl ?_
  refine g_if_ne (pc := 6) X (tgt := 12) dX9_game_6 rfl (fun c => ?_) (fun c => ?_)
  · have h := br_n c h
    refine g_aload_n (pc := 12) X 0 rfl dX9_game_12 ?_
    refine g_iconst (pc := 13) X (v := 3) dX9_game_13 rfl ?_
    obtain ⟨k4, h⟩ := gd_i h
    obtain ⟨r5, w6, h7, h⟩ := bd2_i h
    refine g_callV (pc := 14) X FcX9 k4 mk_X9_works q_1319 q_47 q_1317 (c_X9_works h7) rfl rfl (by rw [Y.2.1]; decide)  rfl (rest := []) rfl (Nat.le_of_ble_eq_true rfl) (by rw [Y.2.1]; exact ⟨Nat.le_of_ble_eq_true rfl, Nat.le_of_ble_eq_true rfl⟩) dX9_game_14 (st' := [.int r5]) rfl ?_
    refine g_istore_n (pc := 17) X (lv' := [(2, .int r5), (0, rf V v0), (1, .int v1)]) dX9_game_17 (by decide) rfl ?_
    refine g_aload_n (pc := 18) X 1 rfl dX9_game_18 ?_
    obtain ⟨k8, h⟩ := gd_i h
    obtain ⟨r9, w10, h11, h⟩ := bd2_i h
    refine g_callV (pc := 19) X FcX9 k8 mk_X9_taken q_1182 q_31 q_1180 (c_X9_taken h11) rfl rfl (by rw [Y.2.1]; decide)  rfl (rest := []) rfl (Nat.le_of_ble_eq_true rfl) (by rw [Y.2.1]; exact ⟨Nat.le_of_ble_eq_true rfl, Nat.le_of_ble_eq_true rfl⟩) dX9_game_19 (st' := [.int r9]) rfl ?_
    refine g_istore_n (pc := 22) X (lv' := [(3, .int r9), (2, .int r5), (0, rf V v0), (1, .int v1)]) dX9_game_22 (by decide) rfl ?_
    refine g_iconst (pc := 23) X (v := 0) dX9_game_23 rfl ?_
    refine g_istore (pc := 24) X (lv' := [(4, .int 0), (3, .int r9), (2, .int r5), (0, rf V v0), (1, .int v1)]) dX9_game_24 (by decide) rfl ?_
    refine g_iconst (pc := 26) X (v := 0) dX9_game_26 rfl ?_
    refine g_istore (pc := 27) X (lv' := [(5, .int 0), (4, .int 0), (3, .int r9), (2, .int r5), (0, rf V v0), (1, .int v1)]) dX9_game_27 (by decide) rfl ?_
    refine g_sub (lv' := [(0, rf V v0), (1, .int v1), (2, .int r5), (3, .int r9), (4, .int 0), (5, .int 0)]) [4, 5, 3, 2, 1, 0] rfl ?_
    exact bL_X9_game_29 Y  h
  · have h := br_y c h
    refine g_ldc (pc := 9) X q_1135 dX9_game_9 ?_
    obtain ⟨e1, e2⟩ := rt_i h
    exact g_iret (pc := 11) X Y.2.2.1 (Nat.le_of_ble_eq_true rfl) (Nat.le_of_ble_eq_true rfl) e1 e2 dX9_game_11

def j_X9_worthy_93 (kk25 : Nat → Int32 → Int32 → Int32 → Int32 → Int32 → Wd → Option (Int32 × Wd)) (v0 : Nat) (v1 : Int32) (v2 : Int32) (v5 : Int32) (v6 : Int32) (w : Wd) : Option (Int32 × Wd) := (lb_ (v5 + 1) fun x30 =>
 kk25 v0 v1 v2 v5 v6 x30 w)
theorem bj_X9_worthy_93 {t : Ct} {V : Vt} {r : Int32} {w' : Wd} {kk25 : Nat → Int32 → Int32 → Int32 → Int32 → Int32 → Wd → Option (Int32 × Wd)} (Y : Hd_ t V cX9_worthy 7 RX9 { frames := 6, cells := 0, slots := 0, locals := 141 } (some .int) "worthy") (hk25 : ∀ (u0 : Nat) (u1 : Int32) (u2 : Int32) (u3 : Int32) (u4 : Int32) (u5 : Int32) (w : Wd), kk25 u0 u1 u2 u3 u4 u5 w = some (r, w') → Gd t V 7 0 0 (Qe t V (some (.int r)) w' 0 0) 25 [(0, rf V u0), (1, .int u1), (2, .int u2), (3, .int u3), (4, .int u4), (5, .int u5)] [] w) {v0 : Nat} {v1 : Int32} {v2 : Int32} {v5 : Int32} {v6 : Int32} {w : Wd} (h : j_X9_worthy_93 kk25 v0 v1 v2 v5 v6 w = some (r, w')) : Gd t V 7 0 0 (Qe t V (some (.int r)) w' 0 0) 93 [(0, rf V v0), (1, .int v1), (2, .int v2), (5, .int v5), (6, .int v6)] [] w := by
  have X := Y.1
  unfold j_X9_worthy_93 at h
  refine g_iload (pc := 93) X 3 rfl dX9_worthy_93 ?_
  refine g_istore_n (pc := 95) X (lv' := [(3, .int v5), (0, rf V v0), (1, .int v1), (2, .int v2), (5, .int v5), (6, .int v6)]) dX9_worthy_95 (by decide) rfl ?_
  refine g_iload (pc := 96) X 5 rfl dX9_worthy_96 ?_
  refine g_istore (pc := 98) X (lv' := [(4, .int v6), (3, .int v5), (0, rf V v0), (1, .int v1), (2, .int v2), (5, .int v5), (6, .int v6)]) dX9_worthy_98 (by decide) rfl ?_
  obtain ⟨x30, e31, h⟩ := lb_i h
  refine g_iinc (pc := 100) X 5 rfl dX9_worthy_100 (v := x30) e31.symm (by decide) (lv' := [(5, .int x30), (4, .int v6), (3, .int v5), (0, rf V v0), (1, .int v1), (2, .int v2), (6, .int v6)]) rfl ?_
  refine g_goto (pc := 103) X (tgt := 25) dX9_worthy_103 rfl ?_
  refine g_sub (lv' := [(0, rf V v0), (1, .int v1), (2, .int v2), (3, .int v5), (4, .int v6), (5, .int x30)]) [3, 4, 5, 2, 1, 0] rfl ?_
  exact hk25 _ _ _ _ _ _ _ h

def L_X9_worthy_25  (n : Nat) (v0 : Nat) (v1 : Int32) (v2 : Int32) (v3 : Int32) (v4 : Int32) (v5 : Int32) (w : Wd) : Option (Int32 × Wd) := match n with
  | 0 => none
  | n + 1 => (if wK w v0 = 9 then
 (bd1 (wR w v0 0) fun a9 =>
 (if aK 11 w a9 2 = true then
 (if (wI w a9 (nx 2)) ≤ v5 then
 some ((if 0 ≤ v3 then (if v1 = 0 then v3 else v4 : Int32) else (-1000000005) : Int32), w)
 else
 (if ((v2 >>> (v5 &&& 31)) &&& 1) = 0 then
 (bd1 (wR w v0 0) fun a14 =>
 (if aK 11 w a14 (12 + v5) = true then
 (if aK 11 w a14 (12 + v5) = true then
 (lb_ (sI w a14 (nx (12 + v5)) ((wI w a14 (nx (12 + v5))) + 50)) fun w18 =>
 (bd2 (f_X9_works v0 4 w18) fun r20 w21 =>
 (if wK w21 v0 = 9 then
 (bd1 (wR w21 v0 0) fun a24 =>
 (if aK 11 w21 a24 (12 + v5) = true then
 (if aK 11 w21 a24 (12 + v5) = true then
 (lb_ (sI w21 a24 (nx (12 + v5)) ((wI w21 a24 (nx (12 + v5))) - 50)) fun w28 =>
 (if v3 < 0 then
 j_X9_worthy_93 (L_X9_worthy_25 n) v0 v1 v2 v5 r20 w28
 else
 (if r20 ≤ v4 then
 (lb_ (v5 + 1) fun x32 =>
 L_X9_worthy_25 n v0 v1 v2 v3 v4 x32 w28)
 else
 j_X9_worthy_93 (L_X9_worthy_25 n) v0 v1 v2 v5 r20 w28)))
 else none)
 else none))
 else none)))
 else none)
 else none))
 else
 (lb_ (v5 + 1) fun x12 =>
 L_X9_worthy_25 n v0 v1 v2 v3 v4 x12 w)))
 else none))
 else none)
theorem bL_X9_worthy_25 {t : Ct} {V : Vt} {r : Int32} {w' : Wd} (Y : Hd_ t V cX9_worthy 7 RX9 { frames := 6, cells := 0, slots := 0, locals := 141 } (some .int) "worthy") : ∀ {n : Nat} {v0 : Nat} {v1 : Int32} {v2 : Int32} {v3 : Int32} {v4 : Int32} {v5 : Int32} {w : Wd}, L_X9_worthy_25  n v0 v1 v2 v3 v4 v5 w = some (r, w') → Gd t V 7 0 0 (Qe t V (some (.int r)) w' 0 0) 25 [(0, rf V v0), (1, .int v1), (2, .int v2), (3, .int v3), (4, .int v4), (5, .int v5)] [] w := by
  have X := Y.1
  intro n
  induction n with
  | zero => intro v0 v1 v2 v3 v4 v5 w h; cases h
  | succ n ih0 =>
    have ih : ∀ (v0 : Nat) (v1 : Int32) (v2 : Int32) (v3 : Int32) (v4 : Int32) (v5 : Int32) (w : Wd), L_X9_worthy_25  n v0 v1 v2 v3 v4 v5 w = some (r, w') → Gd t V 7 0 0 (Qe t V (some (.int r)) w' 0 0) 25 [(0, rf V v0), (1, .int v1), (2, .int v2), (3, .int v3), (4, .int v4), (5, .int v5)] [] w := fun v0 v1 v2 v3 v4 v5 w h => ih0 h
    clear ih0
    intro v0 v1 v2 v3 v4 v5 w h
    unfold L_X9_worthy_25 at h
    refine g_iload (pc := 25) X 5 rfl dX9_worthy_25 ?_
    refine g_aload_n (pc := 27) X 0 rfl dX9_worthy_27 ?_
    obtain ⟨k8, h⟩ := gd_i h
    obtain ⟨a9, e10, h⟩ := bd1_i h
    refine g_getR (pc := 28) X FcX9 k8 0 e10 (by decide) rfl q_1020 dX9_worthy_28 ?_
    refine g_iconst (pc := 31) X (v := 2) dX9_worthy_31 rfl ?_
    obtain ⟨k11, h⟩ := gd_i h
    refine g_iald (pc := 32) X k11 dX9_worthy_32 ?_
    refine g_icmp_ge (pc := 33) X (tgt := 106) dX9_worthy_33 rfl (fun c => ?_) (fun c => ?_)
    · have h := br_y c h
      refine g_iload_n (pc := 106) X 3 rfl dX9_worthy_106 ?_
      have kJ : Gd t V 7 0 0 (Qe t V (some (.int r)) w' 0 0) 125 [(0, rf V v0), (1, .int v1), (2, .int v2), (3, .int v3), (4, .int v4), (5, .int v5)] [.int (if 0 ≤ v3 then (if v1 = 0 then v3 else v4 : Int32) else (-1000000005) : Int32)] w := by
        obtain ⟨e1, e2⟩ := rt_i h
        exact g_iret (pc := 125) X Y.2.2.1 (Nat.le_of_ble_eq_true rfl) (Nat.le_of_ble_eq_true rfl) e1 e2 dX9_worthy_125
      refine g_if_ge (pc := 107) X (tgt := 115) dX9_worthy_107 rfl (fun c0 => ?_) (fun c0 => ?_)
      · refine g_iload_n (pc := 115) X 1 rfl dX9_worthy_115 ?_
        refine g_if_ne (pc := 116) X (tgt := 123) dX9_worthy_116 rfl (fun c1 => ?_) (fun c1 => ?_)
        · refine g_iload (pc := 123) X 4 rfl dX9_worthy_123 ?_
          exact g_top (by rw [if_pos c0, if_neg c1]) kJ
        · refine g_iload_n (pc := 119) X 3 rfl dX9_worthy_119 ?_
          refine g_goto (pc := 120) X (tgt := 125) dX9_worthy_120 rfl ?_
          exact g_top (by rw [if_pos c0, if_pos c1]) kJ
      · refine g_ldc (pc := 110) X q_1261 dX9_worthy_110 ?_
        refine g_goto (pc := 112) X (tgt := 125) dX9_worthy_112 rfl ?_
        exact g_top (by rw [if_neg c0]) kJ
    · have h := br_n c h
      refine g_iload_n (pc := 36) X 2 rfl dX9_worthy_36 ?_
      refine g_iload (pc := 37) X 5 rfl dX9_worthy_37 ?_
      refine g_ishr (pc := 39) X dX9_worthy_39 ?_
      refine g_iconst (pc := 40) X (v := 1) dX9_worthy_40 rfl ?_
      refine g_iand (pc := 41) X dX9_worthy_41 ?_
      refine g_if_ne (pc := 42) X (tgt := 100) dX9_worthy_42 rfl (fun c => ?_) (fun c => ?_)
      · have h := br_n c h
        obtain ⟨x12, e13, h⟩ := lb_i h
        refine g_iinc (pc := 100) X 5 rfl dX9_worthy_100 (v := x12) e13.symm (by decide) (lv' := [(5, .int x12), (0, rf V v0), (1, .int v1), (2, .int v2), (3, .int v3), (4, .int v4)]) rfl ?_
        refine g_goto (pc := 103) X (tgt := 25) dX9_worthy_103 rfl ?_
        refine g_sub (lv' := [(0, rf V v0), (1, .int v1), (2, .int v2), (3, .int v3), (4, .int v4), (5, .int x12)]) [1, 2, 3, 4, 5, 0] rfl ?_
        exact ih _ _ _ _ _ _ _ h
      · have h := br_y c h
        refine g_aload_n (pc := 45) X 0 rfl dX9_worthy_45 ?_
        obtain ⟨a14, e15, h⟩ := bd1_i h
        refine g_getR (pc := 46) X FcX9 k8 0 e15 (by decide) rfl q_1020 dX9_worthy_46 ?_
        refine g_bipush (pc := 49) X (v := 12) dX9_worthy_49 rfl ?_
        refine g_iload (pc := 51) X 5 rfl dX9_worthy_51 ?_
        refine g_iadd (pc := 53) X dX9_worthy_53 ?_
        refine g_dup2 (pc := 54) X rfl rfl dX9_worthy_54 ?_
        obtain ⟨k16, h⟩ := gd_i h
        refine g_iald (pc := 55) X k16 dX9_worthy_55 ?_
        refine g_bipush (pc := 56) X (v := 50) dX9_worthy_56 rfl ?_
        refine g_iadd (pc := 58) X dX9_worthy_58 ?_
        obtain ⟨k17, h⟩ := gd_i h
        refine g_iast (pc := 59) X k17 dX9_worthy_59 ?_
        obtain ⟨w18, e19, h⟩ := lb_i h
        refine g_w e19 ?_
        refine g_aload_n (pc := 60) X 0 rfl dX9_worthy_60 ?_
        refine g_iconst (pc := 61) X (v := 4) dX9_worthy_61 rfl ?_
        obtain ⟨r20, w21, h22, h⟩ := bd2_i h
        refine g_callV (pc := 62) X FcX9 (kd_I e19 k8) mk_X9_works q_1319 q_47 q_1317 (c_X9_works h22) rfl rfl (by rw [Y.2.1]; decide)  rfl (rest := []) rfl (Nat.le_of_ble_eq_true rfl) (by rw [Y.2.1]; exact ⟨Nat.le_of_ble_eq_true rfl, Nat.le_of_ble_eq_true rfl⟩) dX9_worthy_62 (st' := [.int r20]) rfl ?_
        refine g_istore (pc := 65) X (lv' := [(6, .int r20), (0, rf V v0), (1, .int v1), (2, .int v2), (3, .int v3), (4, .int v4), (5, .int v5)]) dX9_worthy_65 (by decide) rfl ?_
        refine g_aload_n (pc := 67) X 1 rfl dX9_worthy_67 ?_
        obtain ⟨k23, h⟩ := gd_i h
        obtain ⟨a24, e25, h⟩ := bd1_i h
        refine g_getR (pc := 68) X FcX9 k23 0 e25 (by decide) rfl q_1020 dX9_worthy_68 ?_
        refine g_bipush (pc := 71) X (v := 12) dX9_worthy_71 rfl ?_
        refine g_iload (pc := 73) X 6 rfl dX9_worthy_73 ?_
        refine g_iadd (pc := 75) X dX9_worthy_75 ?_
        refine g_dup2 (pc := 76) X rfl rfl dX9_worthy_76 ?_
        obtain ⟨k26, h⟩ := gd_i h
        refine g_iald (pc := 77) X k26 dX9_worthy_77 ?_
        refine g_bipush (pc := 78) X (v := 50) dX9_worthy_78 rfl ?_
        refine g_isub (pc := 80) X dX9_worthy_80 ?_
        obtain ⟨k27, h⟩ := gd_i h
        refine g_iast (pc := 81) X k27 dX9_worthy_81 ?_
        obtain ⟨w28, e29, h⟩ := lb_i h
        refine g_w e29 ?_
        refine g_iload_n (pc := 82) X 4 rfl dX9_worthy_82 ?_
        refine g_if_lt (pc := 83) X (tgt := 93) dX9_worthy_83 rfl (fun c => ?_) (fun c => ?_)
        · have h := br_y c h
          refine g_sub (lv' := [(0, rf V v0), (1, .int v1), (2, .int v2), (5, .int v5), (6, .int r20)]) [1, 2, 3, 6, 0] rfl ?_
          exact bj_X9_worthy_93 Y (ih) h
        · have h := br_n c h
          refine g_iload (pc := 86) X 0 rfl dX9_worthy_86 ?_
          refine g_iload (pc := 88) X 5 rfl dX9_worthy_88 ?_
          refine g_icmp_le (pc := 90) X (tgt := 100) dX9_worthy_90 rfl (fun c => ?_) (fun c => ?_)
          · have h := br_y c h
            obtain ⟨x32, e33, h⟩ := lb_i h
            refine g_iinc (pc := 100) X 6 rfl dX9_worthy_100 (v := x32) e33.symm (by decide) (lv' := [(5, .int x32), (6, .int r20), (0, rf V v0), (1, .int v1), (2, .int v2), (3, .int v3), (4, .int v4)]) rfl ?_
            refine g_goto (pc := 103) X (tgt := 25) dX9_worthy_103 rfl ?_
            refine g_sub (lv' := [(0, rf V v0), (1, .int v1), (2, .int v2), (3, .int v3), (4, .int v4), (5, .int x32)]) [2, 3, 4, 5, 6, 0] rfl ?_
            exact ih _ _ _ _ _ _ _ h
          · have h := br_n c h
            refine g_sub (lv' := [(0, rf V v0), (1, .int v1), (2, .int v2), (5, .int v5), (6, .int r20)]) [1, 2, 3, 6, 0] rfl ?_
            exact bj_X9_worthy_93 Y (ih) h

def f_X9_worthy (v0 : Nat) (v1 : Int32) (w : Wd) : Option (Int32 × Wd) := (bd2 (f_X9_in v1 0 1 w) fun r1 w2 =>
 (if r1 = 0 then
 some ((-1000000001), w2)
 else
 (if wK w2 v0 = 9 then
 (bd2 (f_X9_taken v0 w2) fun r5 w6 =>
 L_X9_worthy_25 FU v0 v1 r5 (-1) 0 0 w6)
 else none)))
theorem c_X9_worthy {l : Launch} {V : Vt} {v0 : Nat} {v1 : Int32} {w w' : Wd} {r : Int32} (h : f_X9_worthy v0 v1 w = some (r, w')) : MetW l V yX9_worthy cX9_worthy 7 (some .int) { frames := 6, cells := 0, slots := 0, locals := 141 } w [rf V v0, .int v1] (some (.int r)) w' 0 0 := by
  refine g_start (by decide) (Nat.le_of_ble_eq_true rfl) ?_
  intro t _ hrm X hret hnm
  have Y : Hd_ t V cX9_worthy 7 RX9 { frames := 6, cells := 0, slots := 0, locals := 141 } (some .int) "worthy" := ⟨X, hrm, hret, hnm⟩
  refine g_as (lv' := [(0, rf V v0), (1, .int v1)]) (st' := []) rfl rfl ?_
  unfold f_X9_worthy at h
  refine g_iload_n (pc := 0) X 1 rfl dX9_worthy_0 ?_
  refine g_iconst (pc := 1) X (v := 0) dX9_worthy_1 rfl ?_
  refine g_iconst (pc := 2) X (v := 1) dX9_worthy_2 rfl ?_
  obtain ⟨r1, w2, h3, h⟩ := bd2_i h
  refine g_callS (pc := 3) X mk_X9_in q_1133 q_1132 (c_X9_in h3) rfl rfl (by rw [Y.2.1]; decide)  rfl (rest := []) rfl (Nat.le_of_ble_eq_true rfl) (by rw [Y.2.1]; exact ⟨Nat.le_of_ble_eq_true rfl, Nat.le_of_ble_eq_true rfl⟩) dX9_worthy_3 (st' := [.int r1]) rfl ?_
  refine g_if_ne (pc := 6) X (tgt := 12) dX9_worthy_6 rfl (fun c => ?_) (fun c => ?_)
  · have h := br_n c h
    refine g_aload_n (pc := 12) X 0 rfl dX9_worthy_12 ?_
    obtain ⟨k4, h⟩ := gd_i h
    obtain ⟨r5, w6, h7, h⟩ := bd2_i h
    refine g_callV (pc := 13) X FcX9 k4 mk_X9_taken q_1182 q_31 q_1180 (c_X9_taken h7) rfl rfl (by rw [Y.2.1]; decide)  rfl (rest := []) rfl (Nat.le_of_ble_eq_true rfl) (by rw [Y.2.1]; exact ⟨Nat.le_of_ble_eq_true rfl, Nat.le_of_ble_eq_true rfl⟩) dX9_worthy_13 (st' := [.int r5]) rfl ?_
    refine g_istore_n (pc := 16) X (lv' := [(2, .int r5), (0, rf V v0), (1, .int v1)]) dX9_worthy_16 (by decide) rfl ?_
    refine g_iconst (pc := 17) X (v := (-1)) dX9_worthy_17 rfl ?_
    refine g_istore_n (pc := 18) X (lv' := [(3, .int (-1)), (2, .int r5), (0, rf V v0), (1, .int v1)]) dX9_worthy_18 (by decide) rfl ?_
    refine g_iconst (pc := 19) X (v := 0) dX9_worthy_19 rfl ?_
    refine g_istore (pc := 20) X (lv' := [(4, .int 0), (3, .int (-1)), (2, .int r5), (0, rf V v0), (1, .int v1)]) dX9_worthy_20 (by decide) rfl ?_
    refine g_iconst (pc := 22) X (v := 0) dX9_worthy_22 rfl ?_
    refine g_istore (pc := 23) X (lv' := [(5, .int 0), (4, .int 0), (3, .int (-1)), (2, .int r5), (0, rf V v0), (1, .int v1)]) dX9_worthy_23 (by decide) rfl ?_
    refine g_sub (lv' := [(0, rf V v0), (1, .int v1), (2, .int r5), (3, .int (-1)), (4, .int 0), (5, .int 0)]) [4, 5, 3, 2, 1, 0] rfl ?_
    exact bL_X9_worthy_25 Y  h
  · have h := br_y c h
    refine g_ldc (pc := 9) X q_1135 dX9_worthy_9 ?_
    obtain ⟨e1, e2⟩ := rt_i h
    exact g_iret (pc := 11) X Y.2.2.1 (Nat.le_of_ble_eq_true rfl) (Nat.le_of_ble_eq_true rfl) e1 e2 dX9_worthy_11

def L_X9_thinks_2  (n : Nat) (v0 : Nat) (v1 : Int32) (w : Wd) : Option (Unit × Wd) := match n with
  | 0 => none
  | n + 1 => (if 72 ≤ v1 then
 some ((), w)
 else
 (if wK w v0 = 9 then
 (bd1 (wR w v0 6) fun a2 =>
 (bd1 (wR w v0 0) fun a4 =>
 (if aK 11 w a4 v1 = true then
 (if aK 11 w a2 v1 = true then
 (lb_ (sI w a2 (nx v1) (wI w a4 (nx v1))) fun w8 =>
 (lb_ (v1 + 1) fun x10 =>
 L_X9_thinks_2 n v0 x10 w8))
 else none)
 else none)))
 else none))
theorem bL_X9_thinks_2 {t : Ct} {V : Vt} {r : Unit} {w' : Wd} (Y : Hd_ t V cX9_thinks 2 RX9 { frames := 0, cells := 0, slots := 0, locals := 0 } (none) "thinks") : ∀ {n : Nat} {v0 : Nat} {v1 : Int32} {w : Wd}, L_X9_thinks_2  n v0 v1 w = some (r, w') → Gd t V 2 0 0 (Qe t V none w' 0 0) 2 [(0, rf V v0), (1, .int v1)] [] w := by
  have X := Y.1
  intro n
  induction n with
  | zero => intro v0 v1 w h; cases h
  | succ n ih0 =>
    have ih : ∀ (v0 : Nat) (v1 : Int32) (w : Wd), L_X9_thinks_2  n v0 v1 w = some (r, w') → Gd t V 2 0 0 (Qe t V none w' 0 0) 2 [(0, rf V v0), (1, .int v1)] [] w := fun v0 v1 w h => ih0 h
    clear ih0
    intro v0 v1 w h
    unfold L_X9_thinks_2 at h
    refine g_iload_n (pc := 2) X 1 rfl dX9_thinks_2 ?_
    refine g_bipush (pc := 3) X (v := 72) dX9_thinks_3 rfl ?_
    refine g_icmp_ge (pc := 5) X (tgt := 26) dX9_thinks_5 rfl (fun c => ?_) (fun c => ?_)
    · have h := br_y c h
      obtain ⟨e1, e2⟩ := rt_i h
      exact g_vret (pc := 26) X Y.2.2.1 (Nat.le_of_ble_eq_true rfl) (Nat.le_of_ble_eq_true rfl) e2 dX9_thinks_26
    · have h := br_n c h
      refine g_aload_n (pc := 8) X 0 rfl dX9_thinks_8 ?_
      obtain ⟨k1, h⟩ := gd_i h
      obtain ⟨a2, e3, h⟩ := bd1_i h
      refine g_getR (pc := 9) X FcX9 k1 6 e3 (by decide) rfl q_1026 dX9_thinks_9 ?_
      refine g_iload_n (pc := 12) X 1 rfl dX9_thinks_12 ?_
      refine g_aload_n (pc := 13) X 0 rfl dX9_thinks_13 ?_
      obtain ⟨a4, e5, h⟩ := bd1_i h
      refine g_getR (pc := 14) X FcX9 k1 0 e5 (by decide) rfl q_1020 dX9_thinks_14 ?_
      refine g_iload_n (pc := 17) X 1 rfl dX9_thinks_17 ?_
      obtain ⟨k6, h⟩ := gd_i h
      refine g_iald (pc := 18) X k6 dX9_thinks_18 ?_
      obtain ⟨k7, h⟩ := gd_i h
      refine g_iast (pc := 19) X k7 dX9_thinks_19 ?_
      obtain ⟨w8, e9, h⟩ := lb_i h
      refine g_w e9 ?_
      obtain ⟨x10, e11, h⟩ := lb_i h
      refine g_iinc (pc := 20) X 1 rfl dX9_thinks_20 (v := x10) e11.symm (by decide) (lv' := [(1, .int x10), (0, rf V v0)]) rfl ?_
      refine g_goto (pc := 23) X (tgt := 2) dX9_thinks_23 rfl ?_
      refine g_sub (lv' := [(0, rf V v0), (1, .int x10)]) [1, 0] rfl ?_
      exact ih _ _ _ h

def f_X9_thinks (v0 : Nat) (w : Wd) : Option (Unit × Wd) := L_X9_thinks_2 FU v0 0 w
theorem c_X9_thinks {l : Launch} {V : Vt} {v0 : Nat} {w w' : Wd} {r : Unit} (h : f_X9_thinks v0 w = some (r, w')) : MetW l V yX9_thinks cX9_thinks 2 (none) { frames := 0, cells := 0, slots := 0, locals := 0 } w [rf V v0] none w' 0 0 := by
  refine g_start (by decide) (Nat.le_of_ble_eq_true rfl) ?_
  intro t _ hrm X hret hnm
  have Y : Hd_ t V cX9_thinks 2 RX9 { frames := 0, cells := 0, slots := 0, locals := 0 } (none) "thinks" := ⟨X, hrm, hret, hnm⟩
  refine g_as (lv' := [(0, rf V v0)]) (st' := []) rfl rfl ?_
  unfold f_X9_thinks at h
  refine g_iconst (pc := 0) X (v := 0) dX9_thinks_0 rfl ?_
  refine g_istore_n (pc := 1) X (lv' := [(1, .int 0), (0, rf V v0)]) dX9_thinks_1 (by decide) rfl ?_
  refine g_sub (lv' := [(0, rf V v0), (1, .int 0)]) [1, 0] rfl ?_
  exact bL_X9_thinks_2 Y  h

def L_X9_putsBack_2  (n : Nat) (v0 : Nat) (v1 : Int32) (w : Wd) : Option (Unit × Wd) := match n with
  | 0 => none
  | n + 1 => (if 72 ≤ v1 then
 some ((), w)
 else
 (if wK w v0 = 9 then
 (bd1 (wR w v0 0) fun a2 =>
 (bd1 (wR w v0 6) fun a4 =>
 (if aK 11 w a4 v1 = true then
 (if aK 11 w a2 v1 = true then
 (lb_ (sI w a2 (nx v1) (wI w a4 (nx v1))) fun w8 =>
 (lb_ (v1 + 1) fun x10 =>
 L_X9_putsBack_2 n v0 x10 w8))
 else none)
 else none)))
 else none))
theorem bL_X9_putsBack_2 {t : Ct} {V : Vt} {r : Unit} {w' : Wd} (Y : Hd_ t V cX9_putsBack 2 RX9 { frames := 0, cells := 0, slots := 0, locals := 0 } (none) "putsBack") : ∀ {n : Nat} {v0 : Nat} {v1 : Int32} {w : Wd}, L_X9_putsBack_2  n v0 v1 w = some (r, w') → Gd t V 2 0 0 (Qe t V none w' 0 0) 2 [(0, rf V v0), (1, .int v1)] [] w := by
  have X := Y.1
  intro n
  induction n with
  | zero => intro v0 v1 w h; cases h
  | succ n ih0 =>
    have ih : ∀ (v0 : Nat) (v1 : Int32) (w : Wd), L_X9_putsBack_2  n v0 v1 w = some (r, w') → Gd t V 2 0 0 (Qe t V none w' 0 0) 2 [(0, rf V v0), (1, .int v1)] [] w := fun v0 v1 w h => ih0 h
    clear ih0
    intro v0 v1 w h
    unfold L_X9_putsBack_2 at h
    refine g_iload_n (pc := 2) X 1 rfl dX9_putsBack_2 ?_
    refine g_bipush (pc := 3) X (v := 72) dX9_putsBack_3 rfl ?_
    refine g_icmp_ge (pc := 5) X (tgt := 26) dX9_putsBack_5 rfl (fun c => ?_) (fun c => ?_)
    · have h := br_y c h
      obtain ⟨e1, e2⟩ := rt_i h
      exact g_vret (pc := 26) X Y.2.2.1 (Nat.le_of_ble_eq_true rfl) (Nat.le_of_ble_eq_true rfl) e2 dX9_putsBack_26
    · have h := br_n c h
      refine g_aload_n (pc := 8) X 0 rfl dX9_putsBack_8 ?_
      obtain ⟨k1, h⟩ := gd_i h
      obtain ⟨a2, e3, h⟩ := bd1_i h
      refine g_getR (pc := 9) X FcX9 k1 0 e3 (by decide) rfl q_1020 dX9_putsBack_9 ?_
      refine g_iload_n (pc := 12) X 1 rfl dX9_putsBack_12 ?_
      refine g_aload_n (pc := 13) X 0 rfl dX9_putsBack_13 ?_
      obtain ⟨a4, e5, h⟩ := bd1_i h
      refine g_getR (pc := 14) X FcX9 k1 6 e5 (by decide) rfl q_1026 dX9_putsBack_14 ?_
      refine g_iload_n (pc := 17) X 1 rfl dX9_putsBack_17 ?_
      obtain ⟨k6, h⟩ := gd_i h
      refine g_iald (pc := 18) X k6 dX9_putsBack_18 ?_
      obtain ⟨k7, h⟩ := gd_i h
      refine g_iast (pc := 19) X k7 dX9_putsBack_19 ?_
      obtain ⟨w8, e9, h⟩ := lb_i h
      refine g_w e9 ?_
      obtain ⟨x10, e11, h⟩ := lb_i h
      refine g_iinc (pc := 20) X 1 rfl dX9_putsBack_20 (v := x10) e11.symm (by decide) (lv' := [(1, .int x10), (0, rf V v0)]) rfl ?_
      refine g_goto (pc := 23) X (tgt := 2) dX9_putsBack_23 rfl ?_
      refine g_sub (lv' := [(0, rf V v0), (1, .int x10)]) [1, 0] rfl ?_
      exact ih _ _ _ h

def f_X9_putsBack (v0 : Nat) (w : Wd) : Option (Unit × Wd) := L_X9_putsBack_2 FU v0 0 w
theorem c_X9_putsBack {l : Launch} {V : Vt} {v0 : Nat} {w w' : Wd} {r : Unit} (h : f_X9_putsBack v0 w = some (r, w')) : MetW l V yX9_putsBack cX9_putsBack 2 (none) { frames := 0, cells := 0, slots := 0, locals := 0 } w [rf V v0] none w' 0 0 := by
  refine g_start (by decide) (Nat.le_of_ble_eq_true rfl) ?_
  intro t _ hrm X hret hnm
  have Y : Hd_ t V cX9_putsBack 2 RX9 { frames := 0, cells := 0, slots := 0, locals := 0 } (none) "putsBack" := ⟨X, hrm, hret, hnm⟩
  refine g_as (lv' := [(0, rf V v0)]) (st' := []) rfl rfl ?_
  unfold f_X9_putsBack at h
  refine g_iconst (pc := 0) X (v := 0) dX9_putsBack_0 rfl ?_
  refine g_istore_n (pc := 1) X (lv' := [(1, .int 0), (0, rf V v0)]) dX9_putsBack_1 (by decide) rfl ?_
  refine g_sub (lv' := [(0, rf V v0), (1, .int 0)]) [1, 0] rfl ?_
  exact bL_X9_putsBack_2 Y  h

def j_X9_behind_62  (v0 : Nat) (s0 : Int32) (w : Wd) : Option (Int32 × Wd) := (if wK w v0 = 9 then
 (bd2 (f_X9_putsBack v0 w) fun r17 w18 =>
 some (s0, w18))
 else none)
theorem bj_X9_behind_62 {t : Ct} {V : Vt} {r : Int32} {w' : Wd} (Y : Hd_ t V cX9_behind 4 RX9 { frames := 9, cells := 0, slots := 0, locals := 208 } (some .int) "behind") {v0 : Nat} {s0 : Int32} {w : Wd} (h : j_X9_behind_62  v0 s0 w = some (r, w')) : Gd t V 4 0 0 (Qe t V (some (.int r)) w' 0 0) 62 [(0, rf V v0)] [.int s0] w := by
  have X := Y.1
  unfold j_X9_behind_62 at h
  refine g_istore_n (pc := 62) X (lv' := [(3, .int s0), (0, rf V v0)]) dX9_behind_62 (by decide) rfl ?_
  refine g_aload_n (pc := 63) X 1 rfl dX9_behind_63 ?_
  obtain ⟨k16, h⟩ := gd_i h
  obtain ⟨r17, w18, h19, h⟩ := bd2_i h
  refine g_callV (pc := 64) X FcX9 k16 mk_X9_putsBack q_1349 q_51 q_1347 (c_X9_putsBack h19) rfl rfl (by rw [Y.2.1]; decide)  rfl (rest := []) rfl (Nat.le_of_ble_eq_true rfl) (by rw [Y.2.1]; exact ⟨Nat.le_of_ble_eq_true rfl, Nat.le_of_ble_eq_true rfl⟩) dX9_behind_64 (st' := []) rfl ?_
  refine g_iload_n (pc := 67) X 0 rfl dX9_behind_67 ?_
  obtain ⟨e1, e2⟩ := rt_i h
  exact g_iret (pc := 68) X Y.2.2.1 (Nat.le_of_ble_eq_true rfl) (Nat.le_of_ble_eq_true rfl) e1 e2 dX9_behind_68

def j_X9_behind_32  (v0 : Nat) (v1 : Int32) (v2 : Int32) (w : Wd) : Option (Int32 × Wd) := (if wK w v0 = 9 then
 (bd2 (f_X9_thinks v0 w) fun r5 w6 =>
 (if wK w6 v0 = 9 then
 (bd2 (f_X9_goesOn v0 v1 w6) fun r9 w10 =>
 (if v2 ≤ 2 then
 (if wK w10 v0 = 9 then
 (bd2 (f_X9_inn v0 v2 w10) fun r13 w14 =>
 j_X9_behind_62 v0 r13 w14)
 else none)
 else
 (if wK w10 v0 = 9 then
 (bd2 (f_X9_of v0 (v2 - 3) 1 w10) fun r21 w22 =>
 j_X9_behind_62 v0 r21 w22)
 else none)))
 else none))
 else none)
theorem bj_X9_behind_32 {t : Ct} {V : Vt} {r : Int32} {w' : Wd} (Y : Hd_ t V cX9_behind 4 RX9 { frames := 9, cells := 0, slots := 0, locals := 208 } (some .int) "behind") {v0 : Nat} {v1 : Int32} {v2 : Int32} {w : Wd} (h : j_X9_behind_32  v0 v1 v2 w = some (r, w')) : Gd t V 4 0 0 (Qe t V (some (.int r)) w' 0 0) 32 [(0, rf V v0), (1, .int v1), (2, .int v2)] [] w := by
  have X := Y.1
  unfold j_X9_behind_32 at h
  refine g_aload_n (pc := 32) X 0 rfl dX9_behind_32 ?_
  obtain ⟨k4, h⟩ := gd_i h
  obtain ⟨r5, w6, h7, h⟩ := bd2_i h
  refine g_callV (pc := 33) X FcX9 k4 mk_X9_thinks q_1344 q_50 q_1342 (c_X9_thinks h7) rfl rfl (by rw [Y.2.1]; decide)  rfl (rest := []) rfl (Nat.le_of_ble_eq_true rfl) (by rw [Y.2.1]; exact ⟨Nat.le_of_ble_eq_true rfl, Nat.le_of_ble_eq_true rfl⟩) dX9_behind_33 (st' := []) rfl ?_
  refine g_aload_n (pc := 36) X 0 rfl dX9_behind_36 ?_
  refine g_iload_n (pc := 37) X 1 rfl dX9_behind_37 ?_
  obtain ⟨k8, h⟩ := gd_i h
  obtain ⟨r9, w10, h11, h⟩ := bd2_i h
  refine g_callV (pc := 38) X FcX9 k8 mk_X9_goesOn q_1289 q_43 q_1287 (c_X9_goesOn h11) rfl rfl (by rw [Y.2.1]; decide)  rfl (rest := []) rfl (Nat.le_of_ble_eq_true rfl) (by rw [Y.2.1]; exact ⟨Nat.le_of_ble_eq_true rfl, Nat.le_of_ble_eq_true rfl⟩) dX9_behind_38 (st' := []) rfl ?_
  refine g_iload_n (pc := 41) X 2 rfl dX9_behind_41 ?_
  refine g_iconst (pc := 42) X (v := 2) dX9_behind_42 rfl ?_
  refine g_icmp_le (pc := 43) X (tgt := 57) dX9_behind_43 rfl (fun c => ?_) (fun c => ?_)
  · have h := br_y c h
    refine g_aload_n (pc := 57) X 0 rfl dX9_behind_57 ?_
    refine g_iload_n (pc := 58) X 2 rfl dX9_behind_58 ?_
    obtain ⟨k12, h⟩ := gd_i h
    obtain ⟨r13, w14, h15, h⟩ := bd2_i h
    refine g_callV (pc := 59) X FcX9 k12 mk_X9_inn q_1310 q_1311 q_1346 (c_X9_inn h15) rfl rfl (by rw [Y.2.1]; decide)  rfl (rest := []) rfl (Nat.le_of_ble_eq_true rfl) (by rw [Y.2.1]; exact ⟨Nat.le_of_ble_eq_true rfl, Nat.le_of_ble_eq_true rfl⟩) dX9_behind_59 (st' := [.int r13]) rfl ?_
    refine g_sub (lv' := [(0, rf V v0)]) [0] rfl ?_
    exact bj_X9_behind_62 Y  h
  · have h := br_n c h
    refine g_aload_n (pc := 46) X 0 rfl dX9_behind_46 ?_
    refine g_iload_n (pc := 47) X 2 rfl dX9_behind_47 ?_
    refine g_iconst (pc := 48) X (v := 3) dX9_behind_48 rfl ?_
    refine g_isub (pc := 49) X dX9_behind_49 ?_
    refine g_iconst (pc := 50) X (v := 1) dX9_behind_50 rfl ?_
    obtain ⟨k20, h⟩ := gd_i h
    obtain ⟨r21, w22, h23, h⟩ := bd2_i h
    refine g_callV (pc := 51) X FcX9 k20 mk_X9_of q_1142 q_24 q_1140 (c_X9_of h23) rfl rfl (by rw [Y.2.1]; decide)  rfl (rest := []) rfl (Nat.le_of_ble_eq_true rfl) (by rw [Y.2.1]; exact ⟨Nat.le_of_ble_eq_true rfl, Nat.le_of_ble_eq_true rfl⟩) dX9_behind_51 (st' := [.int r21]) rfl ?_
    refine g_goto (pc := 54) X (tgt := 62) dX9_behind_54 rfl ?_
    refine g_sub (lv' := [(0, rf V v0)]) [0] rfl ?_
    exact bj_X9_behind_62 Y  h

def f_X9_behind (v0 : Nat) (v1 : Int32) (v2 : Int32) (w : Wd) : Option (Int32 × Wd) := (bd2 (f_X9_in v1 0 100 w) fun r1 w2 =>
 (if r1 = 0 then
 some ((-1000000001), w2)
 else
 (if v2 < 0 then
 some ((-1000000001), w2)
 else
 (if v2 ≤ 2 then
 j_X9_behind_32 v0 v1 v2 w2
 else
 (if wK w2 v0 = 9 then
 (bd2 (f_X9_isSitter v0 (v2 - 3) w2) fun r25 w26 =>
 (if r25 = 0 then
 some ((-1000000001), w26)
 else
 j_X9_behind_32 v0 v1 v2 w26))
 else none)))))
theorem c_X9_behind {l : Launch} {V : Vt} {v0 : Nat} {v1 : Int32} {v2 : Int32} {w w' : Wd} {r : Int32} (h : f_X9_behind v0 v1 v2 w = some (r, w')) : MetW l V yX9_behind cX9_behind 4 (some .int) { frames := 9, cells := 0, slots := 0, locals := 208 } w [rf V v0, .int v1, .int v2] (some (.int r)) w' 0 0 := by
  refine g_start (by decide) (Nat.le_of_ble_eq_true rfl) ?_
  intro t _ hrm X hret hnm
  have Y : Hd_ t V cX9_behind 4 RX9 { frames := 9, cells := 0, slots := 0, locals := 208 } (some .int) "behind" := ⟨X, hrm, hret, hnm⟩
  refine g_as (lv' := [(0, rf V v0), (1, .int v1), (2, .int v2)]) (st' := []) rfl rfl ?_
  unfold f_X9_behind at h
  refine g_iload_n (pc := 0) X 1 rfl dX9_behind_0 ?_
  refine g_iconst (pc := 1) X (v := 0) dX9_behind_1 rfl ?_
  refine g_bipush (pc := 2) X (v := 100) dX9_behind_2 rfl ?_
  obtain ⟨r1, w2, h3, h⟩ := bd2_i h
  refine g_callS (pc := 4) X mk_X9_in q_1133 q_1132 (c_X9_in h3) rfl rfl (by rw [Y.2.1]; decide)  rfl (rest := []) rfl (Nat.le_of_ble_eq_true rfl) (by rw [Y.2.1]; exact ⟨Nat.le_of_ble_eq_true rfl, Nat.le_of_ble_eq_true rfl⟩) dX9_behind_4 (st' := [.int r1]) rfl ?_
  refine g_if_eq (pc := 7) X (tgt := 29) dX9_behind_7 rfl (fun c => ?_) (fun c => ?_)
  · have h := br_y c h
    refine g_ldc (pc := 29) X q_1135 dX9_behind_29 ?_
    obtain ⟨e1, e2⟩ := rt_i h
    exact g_iret (pc := 31) X Y.2.2.1 (Nat.le_of_ble_eq_true rfl) (Nat.le_of_ble_eq_true rfl) e1 e2 dX9_behind_31
  · have h := br_n c h
    refine g_iload_n (pc := 10) X 2 rfl dX9_behind_10 ?_
    refine g_if_lt (pc := 11) X (tgt := 29) dX9_behind_11 rfl (fun c => ?_) (fun c => ?_)
    · have h := br_y c h
      refine g_ldc (pc := 29) X q_1135 dX9_behind_29 ?_
      obtain ⟨e1, e2⟩ := rt_i h
      exact g_iret (pc := 31) X Y.2.2.1 (Nat.le_of_ble_eq_true rfl) (Nat.le_of_ble_eq_true rfl) e1 e2 dX9_behind_31
    · have h := br_n c h
      refine g_iload_n (pc := 14) X 2 rfl dX9_behind_14 ?_
      refine g_iconst (pc := 15) X (v := 2) dX9_behind_15 rfl ?_
      refine g_icmp_le (pc := 16) X (tgt := 32) dX9_behind_16 rfl (fun c => ?_) (fun c => ?_)
      · have h := br_y c h
        refine g_sub (lv' := [(0, rf V v0), (1, .int v1), (2, .int v2)]) [0, 1, 2] rfl ?_
        exact bj_X9_behind_32 Y  h
      · have h := br_n c h
        refine g_aload_n (pc := 19) X 0 rfl dX9_behind_19 ?_
        refine g_iload_n (pc := 20) X 2 rfl dX9_behind_20 ?_
        refine g_iconst (pc := 21) X (v := 3) dX9_behind_21 rfl ?_
        refine g_isub (pc := 22) X dX9_behind_22 ?_
        obtain ⟨k24, h⟩ := gd_i h
        obtain ⟨r25, w26, h27, h⟩ := bd2_i h
        refine g_callV (pc := 23) X FcX9 k24 mk_X9_isSitter q_1163 q_27 q_1161 (c_X9_isSitter h27) rfl rfl (by rw [Y.2.1]; decide)  rfl (rest := []) rfl (Nat.le_of_ble_eq_true rfl) (by rw [Y.2.1]; exact ⟨Nat.le_of_ble_eq_true rfl, Nat.le_of_ble_eq_true rfl⟩) dX9_behind_23 (st' := [.int r25]) rfl ?_
        refine g_if_ne (pc := 26) X (tgt := 32) dX9_behind_26 rfl (fun c => ?_) (fun c => ?_)
        · have h := br_n c h
          refine g_sub (lv' := [(0, rf V v0), (1, .int v1), (2, .int v2)]) [0, 1, 2] rfl ?_
          exact bj_X9_behind_32 Y  h
        · have h := br_y c h
          refine g_ldc (pc := 29) X q_1135 dX9_behind_29 ?_
          obtain ⟨e1, e2⟩ := rt_i h
          exact g_iret (pc := 31) X Y.2.2.1 (Nat.le_of_ble_eq_true rfl) (Nat.le_of_ble_eq_true rfl) e1 e2 dX9_behind_31

def L_X9_isFullUp_4  (n : Nat) (v0 : Nat) (v1 : Int32) (v2 : Int32) (w : Wd) : Option (Int32 × Wd) := match n with
  | 0 => none
  | n + 1 => (if wK w v0 = 9 then
 (bd1 (wR w v0 0) fun a2 =>
 (if aK 11 w a2 1 = true then
 (if (wI w a2 (nx 1)) ≤ v2 then
 (if v1 = 0 ∨ v1 = 1 then
 some (v1, w)
 else none)
 else
 (if v1 = 0 then
 (lb_ (v2 + 1) fun x6 =>
 L_X9_isFullUp_4 n v0 0 x6 w)
 else
 (bd2 (f_X9_placesOf v0 v2 w) fun r8 w9 =>
 (lb_ (if r8 = 0 then 1 else 0 : Int32) fun x11 =>
 (lb_ (v2 + 1) fun x13 =>
 L_X9_isFullUp_4 n v0 x11 x13 w9)))))
 else none))
 else none)
theorem bL_X9_isFullUp_4 {t : Ct} {V : Vt} {r : Int32} {w' : Wd} (Y : Hd_ t V cX9_isFullUp 3 RX9 { frames := 6, cells := 0, slots := 0, locals := 141 } (some .boolean) "isFullUp") : ∀ {n : Nat} {v0 : Nat} {v1 : Int32} {v2 : Int32} {w : Wd}, L_X9_isFullUp_4  n v0 v1 v2 w = some (r, w') → Gd t V 3 0 0 (Qe t V (some (.int r)) w' 0 0) 4 [(0, rf V v0), (1, .int v1), (2, .int v2)] [] w := by
  have X := Y.1
  intro n
  induction n with
  | zero => intro v0 v1 v2 w h; cases h
  | succ n ih0 =>
    have ih : ∀ (v0 : Nat) (v1 : Int32) (v2 : Int32) (w : Wd), L_X9_isFullUp_4  n v0 v1 v2 w = some (r, w') → Gd t V 3 0 0 (Qe t V (some (.int r)) w' 0 0) 4 [(0, rf V v0), (1, .int v1), (2, .int v2)] [] w := fun v0 v1 v2 w h => ih0 h
    clear ih0
    intro v0 v1 v2 w h
    unfold L_X9_isFullUp_4 at h
    refine g_iload_n (pc := 4) X 2 rfl dX9_isFullUp_4 ?_
    refine g_aload_n (pc := 5) X 0 rfl dX9_isFullUp_5 ?_
    obtain ⟨k1, h⟩ := gd_i h
    obtain ⟨a2, e3, h⟩ := bd1_i h
    refine g_getR (pc := 6) X FcX9 k1 0 e3 (by decide) rfl q_1020 dX9_isFullUp_6 ?_
    refine g_iconst (pc := 9) X (v := 1) dX9_isFullUp_9 rfl ?_
    obtain ⟨k4, h⟩ := gd_i h
    refine g_iald (pc := 10) X k4 dX9_isFullUp_10 ?_
    refine g_icmp_ge (pc := 11) X (tgt := 38) dX9_isFullUp_11 rfl (fun c => ?_) (fun c => ?_)
    · have h := br_y c h
      refine g_iload_n (pc := 38) X 1 rfl dX9_isFullUp_38 ?_
      obtain ⟨k5, h⟩ := gd_i h
      obtain ⟨e1, e2⟩ := rt_i h
      exact g_zret (pc := 39) X Y.2.2.1 k5 (Nat.le_of_ble_eq_true rfl) (Nat.le_of_ble_eq_true rfl) e1 e2 dX9_isFullUp_39
    · have h := br_n c h
      refine g_iload_n (pc := 14) X 1 rfl dX9_isFullUp_14 ?_
      refine g_if_eq (pc := 15) X (tgt := 30) dX9_isFullUp_15 rfl (fun c => ?_) (fun c => ?_)
      · have h := br_y c h
        refine g_iconst (pc := 30) X (v := 0) dX9_isFullUp_30 rfl ?_
        refine g_istore_n (pc := 31) X (lv' := [(1, .int 0), (0, rf V v0), (2, .int v2)]) dX9_isFullUp_31 (by decide) rfl ?_
        obtain ⟨x6, e7, h⟩ := lb_i h
        refine g_iinc (pc := 32) X 2 rfl dX9_isFullUp_32 (v := x6) e7.symm (by decide) (lv' := [(2, .int x6), (1, .int 0), (0, rf V v0)]) rfl ?_
        refine g_goto (pc := 35) X (tgt := 4) dX9_isFullUp_35 rfl ?_
        refine g_sub (lv' := [(0, rf V v0), (1, .int 0), (2, .int x6)]) [2, 1, 0] rfl ?_
        exact ih _ _ _ _ h
      · have h := br_n c h
        refine g_aload_n (pc := 18) X 0 rfl dX9_isFullUp_18 ?_
        refine g_iload_n (pc := 19) X 2 rfl dX9_isFullUp_19 ?_
        obtain ⟨r8, w9, h10, h⟩ := bd2_i h
        refine g_callV (pc := 20) X FcX9 k1 mk_X9_placesOf q_1178 q_30 q_1176 (c_X9_placesOf h10) rfl rfl (by rw [Y.2.1]; decide)  rfl (rest := []) rfl (Nat.le_of_ble_eq_true rfl) (by rw [Y.2.1]; exact ⟨Nat.le_of_ble_eq_true rfl, Nat.le_of_ble_eq_true rfl⟩) dX9_isFullUp_20 (st' := [.int r8]) rfl ?_
        have kJ : Gd t V 3 0 0 (Qe t V (some (.int r)) w' 0 0) 31 [(0, rf V v0), (1, .int v1), (2, .int v2)] [.int (if r8 = 0 then 1 else 0 : Int32)] w9 := by
          obtain ⟨x11, e12, h⟩ := lb_i h
          refine g_top e12 ?_
          refine g_istore_n (pc := 31) X (lv' := [(1, .int x11), (0, rf V v0), (2, .int v2)]) dX9_isFullUp_31 (by decide) rfl ?_
          obtain ⟨x13, e14, h⟩ := lb_i h
          refine g_iinc (pc := 32) X 2 rfl dX9_isFullUp_32 (v := x13) e14.symm (by decide) (lv' := [(2, .int x13), (1, .int x11), (0, rf V v0)]) rfl ?_
          refine g_goto (pc := 35) X (tgt := 4) dX9_isFullUp_35 rfl ?_
          refine g_sub (lv' := [(0, rf V v0), (1, .int x11), (2, .int x13)]) [2, 1, 0] rfl ?_
          exact ih _ _ _ _ h
        refine g_if_ne (pc := 23) X (tgt := 30) dX9_isFullUp_23 rfl (fun c0 => ?_) (fun c0 => ?_)
        · refine g_iconst (pc := 30) X (v := 0) dX9_isFullUp_30 rfl ?_
          exact g_top (by rw [if_neg c0]) kJ
        · refine g_iconst (pc := 26) X (v := 1) dX9_isFullUp_26 rfl ?_
          refine g_goto (pc := 27) X (tgt := 31) dX9_isFullUp_27 rfl ?_
          exact g_top (by rw [if_pos c0]) kJ

def f_X9_isFullUp (v0 : Nat) (w : Wd) : Option (Int32 × Wd) := L_X9_isFullUp_4 FU v0 1 0 w
theorem c_X9_isFullUp {l : Launch} {V : Vt} {v0 : Nat} {w w' : Wd} {r : Int32} (h : f_X9_isFullUp v0 w = some (r, w')) : MetW l V yX9_isFullUp cX9_isFullUp 3 (some .boolean) { frames := 6, cells := 0, slots := 0, locals := 141 } w [rf V v0] (some (.int r)) w' 0 0 := by
  refine g_start (by decide) (Nat.le_of_ble_eq_true rfl) ?_
  intro t _ hrm X hret hnm
  have Y : Hd_ t V cX9_isFullUp 3 RX9 { frames := 6, cells := 0, slots := 0, locals := 141 } (some .boolean) "isFullUp" := ⟨X, hrm, hret, hnm⟩
  refine g_as (lv' := [(0, rf V v0)]) (st' := []) rfl rfl ?_
  unfold f_X9_isFullUp at h
  refine g_iconst (pc := 0) X (v := 1) dX9_isFullUp_0 rfl ?_
  refine g_istore_n (pc := 1) X (lv' := [(1, .int 1), (0, rf V v0)]) dX9_isFullUp_1 (by decide) rfl ?_
  refine g_iconst (pc := 2) X (v := 0) dX9_isFullUp_2 rfl ?_
  refine g_istore_n (pc := 3) X (lv' := [(2, .int 0), (1, .int 1), (0, rf V v0)]) dX9_isFullUp_3 (by decide) rfl ?_
  refine g_sub (lv' := [(0, rf V v0), (1, .int 1), (2, .int 0)]) [2, 1, 0] rfl ?_
  exact bL_X9_isFullUp_4 Y  h

