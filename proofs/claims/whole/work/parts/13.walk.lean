/-! by program: the pure functions of the methods, and their walks -/
def f_X8_bench (v0 : Nat) (v1 : Int32) (v2 : Int32) (v3 : Int32) (w : Wd) : Option (Int32 × Wd) := (bd2 (f_X8_isWithin v1 1 12 w) fun r1 w2 =>
 (if r1 = 0 then
 some ((-1000000001), w2)
 else
 (bd2 (f_X8_isWithin v2 0 1 w2) fun r4 w5 =>
 (if r4 = 0 then
 some ((-1000000001), w5)
 else
 (bd2 (f_X8_isWithin v3 0 1 w5) fun r7 w8 =>
 (if r7 = 0 then
 some ((-1000000001), w8)
 else
 (if wK w8 v0 = 8 then
 (bd1 (wR w8 v0 0) fun a11 =>
 (if wK w8 a11 = 1 then
 (bd2 (f_X1_setUp a11 v1 v2 v3 w8) fun r14 w15 =>
 some (r14, w15))
 else none))
 else none)))))))
theorem c_X8_bench {l : Launch} {V : Vt} {v0 : Nat} {v1 : Int32} {v2 : Int32} {v3 : Int32} {w w' : Wd} {r : Int32} (h : f_X8_bench v0 v1 v2 v3 w = some (r, w')) : MetW l V yX8_bench cX8_bench 4 (some .int) { frames := 4, cells := 0, slots := 0, locals := 87 } w [rf V v0, .int v1, .int v2, .int v3] (some (.int r)) w' 0 0 := by
  refine g_start (by decide) (Nat.le_of_ble_eq_true rfl) ?_
  intro t _ hrm X hret hnm
  have Y : Hd_ t V cX8_bench 4 RX8 { frames := 4, cells := 0, slots := 0, locals := 87 } (some .int) "bench" := ⟨X, hrm, hret, hnm⟩
  refine g_as (lv' := [(0, rf V v0), (1, .int v1), (2, .int v2), (3, .int v3)]) (st' := []) rfl rfl ?_
  unfold f_X8_bench at h
  refine g_iload_n (pc := 0) X 1 rfl dX8_bench_0 ?_
  refine g_iconst (pc := 1) X (v := 1) dX8_bench_1 rfl ?_
  refine g_bipush (pc := 2) X (v := 12) dX8_bench_2 rfl ?_
  obtain ⟨r1, w2, h3, h⟩ := bd2_i h
  refine g_callS (pc := 4) X mk_X8_isWithin q_357 q_356 (c_X8_isWithin h3) rfl rfl (by rw [Y.2.1]; decide)  rfl (rest := []) rfl (Nat.le_of_ble_eq_true rfl) (by rw [Y.2.1]; exact ⟨Nat.le_of_ble_eq_true rfl, Nat.le_of_ble_eq_true rfl⟩) dX8_bench_4 (st' := [.int r1]) rfl ?_
  refine g_if_eq (pc := 7) X (tgt := 28) dX8_bench_7 rfl (fun c => ?_) (fun c => ?_)
  · have h := br_y c h
    refine g_ldc (pc := 28) X q_359 dX8_bench_28 ?_
    obtain ⟨e1, e2⟩ := rt_i h
    exact g_iret (pc := 30) X Y.2.2.1 (Nat.le_of_ble_eq_true rfl) (Nat.le_of_ble_eq_true rfl) e1 e2 dX8_bench_30
  · have h := br_n c h
    refine g_iload_n (pc := 10) X 2 rfl dX8_bench_10 ?_
    refine g_iconst (pc := 11) X (v := 0) dX8_bench_11 rfl ?_
    refine g_iconst (pc := 12) X (v := 1) dX8_bench_12 rfl ?_
    obtain ⟨r4, w5, h6, h⟩ := bd2_i h
    refine g_callS (pc := 13) X mk_X8_isWithin q_357 q_356 (c_X8_isWithin h6) rfl rfl (by rw [Y.2.1]; decide)  rfl (rest := []) rfl (Nat.le_of_ble_eq_true rfl) (by rw [Y.2.1]; exact ⟨Nat.le_of_ble_eq_true rfl, Nat.le_of_ble_eq_true rfl⟩) dX8_bench_13 (st' := [.int r4]) rfl ?_
    refine g_if_eq (pc := 16) X (tgt := 28) dX8_bench_16 rfl (fun c => ?_) (fun c => ?_)
    · have h := br_y c h
      refine g_ldc (pc := 28) X q_359 dX8_bench_28 ?_
      obtain ⟨e1, e2⟩ := rt_i h
      exact g_iret (pc := 30) X Y.2.2.1 (Nat.le_of_ble_eq_true rfl) (Nat.le_of_ble_eq_true rfl) e1 e2 dX8_bench_30
    · have h := br_n c h
      refine g_iload_n (pc := 19) X 3 rfl dX8_bench_19 ?_
      refine g_iconst (pc := 20) X (v := 0) dX8_bench_20 rfl ?_
      refine g_iconst (pc := 21) X (v := 1) dX8_bench_21 rfl ?_
      obtain ⟨r7, w8, h9, h⟩ := bd2_i h
      refine g_callS (pc := 22) X mk_X8_isWithin q_357 q_356 (c_X8_isWithin h9) rfl rfl (by rw [Y.2.1]; decide)  rfl (rest := []) rfl (Nat.le_of_ble_eq_true rfl) (by rw [Y.2.1]; exact ⟨Nat.le_of_ble_eq_true rfl, Nat.le_of_ble_eq_true rfl⟩) dX8_bench_22 (st' := [.int r7]) rfl ?_
      refine g_if_ne (pc := 25) X (tgt := 31) dX8_bench_25 rfl (fun c => ?_) (fun c => ?_)
      · have h := br_n c h
        refine g_aload_n (pc := 31) X 0 rfl dX8_bench_31 ?_
        obtain ⟨k10, h⟩ := gd_i h
        obtain ⟨a11, e12, h⟩ := bd1_i h
        refine g_getR (pc := 32) X FcX8 k10 0 e12 (by decide) rfl q_321 dX8_bench_32 ?_
        refine g_iload_n (pc := 35) X 1 rfl dX8_bench_35 ?_
        refine g_iload_n (pc := 36) X 2 rfl dX8_bench_36 ?_
        refine g_iload_n (pc := 37) X 3 rfl dX8_bench_37 ?_
        obtain ⟨k13, h⟩ := gd_i h
        obtain ⟨r14, w15, h16, h⟩ := bd2_i h
        refine g_callV (pc := 38) X FcX1 k13 mk_X1_setUp q_361 q_362 q_360 (c_X1_setUp h16) rfl rfl (by rw [Y.2.1]; decide)  rfl (rest := []) rfl (Nat.le_of_ble_eq_true rfl) (by rw [Y.2.1]; exact ⟨Nat.le_of_ble_eq_true rfl, Nat.le_of_ble_eq_true rfl⟩) dX8_bench_38 (st' := [.int r14]) rfl ?_
        obtain ⟨e1, e2⟩ := rt_i h
        exact g_iret (pc := 41) X Y.2.2.1 (Nat.le_of_ble_eq_true rfl) (Nat.le_of_ble_eq_true rfl) e1 e2 dX8_bench_41
      · have h := br_y c h
        refine g_ldc (pc := 28) X q_359 dX8_bench_28 ?_
        obtain ⟨e1, e2⟩ := rt_i h
        exact g_iret (pc := 30) X Y.2.2.1 (Nat.le_of_ble_eq_true rfl) (Nat.le_of_ble_eq_true rfl) e1 e2 dX8_bench_30

def f_X8_isKind (v0 : Int32) (w : Wd) : Option (Int32 × Wd) := (bd2 (f_X8_isWithin v0 0 5 w) fun r1 w2 =>
 (if r1 = 0 ∨ r1 = 1 then
 some (r1, w2)
 else none))
theorem c_X8_isKind {l : Launch} {V : Vt} {v0 : Int32} {w w' : Wd} {r : Int32} (h : f_X8_isKind v0 w = some (r, w')) : MetW l V yX8_isKind cX8_isKind 1 (some .boolean) { frames := 1, cells := 0, slots := 0, locals := 22 } w [.int v0] (some (.int r)) w' 0 0 := by
  refine g_start (by decide) (Nat.le_of_ble_eq_true rfl) ?_
  intro t _ hrm X hret hnm
  have Y : Hd_ t V cX8_isKind 1 RX8 { frames := 1, cells := 0, slots := 0, locals := 22 } (some .boolean) "isKind" := ⟨X, hrm, hret, hnm⟩
  refine g_as (lv' := [(0, .int v0)]) (st' := []) rfl rfl ?_
  unfold f_X8_isKind at h
  refine g_iload_n (pc := 0) X 0 rfl dX8_isKind_0 ?_
  refine g_iconst (pc := 1) X (v := 0) dX8_isKind_1 rfl ?_
  refine g_iconst (pc := 2) X (v := 5) dX8_isKind_2 rfl ?_
  obtain ⟨r1, w2, h3, h⟩ := bd2_i h
  refine g_callS (pc := 3) X mk_X8_isWithin q_357 q_356 (c_X8_isWithin h3) rfl rfl (by rw [Y.2.1]; decide)  rfl (rest := []) rfl (Nat.le_of_ble_eq_true rfl) (by rw [Y.2.1]; exact ⟨Nat.le_of_ble_eq_true rfl, Nat.le_of_ble_eq_true rfl⟩) dX8_isKind_3 (st' := [.int r1]) rfl ?_
  obtain ⟨k4, h⟩ := gd_i h
  obtain ⟨e1, e2⟩ := rt_i h
  exact g_zret (pc := 6) X Y.2.2.1 k4 (Nat.le_of_ble_eq_true rfl) (Nat.le_of_ble_eq_true rfl) e1 e2 dX8_isKind_6

def f_X8_sitter (v0 : Nat) (v1 : Int32) (w : Wd) : Option (Int32 × Wd) := (bd2 (f_X8_isKind v1 w) fun r1 w2 =>
 (if r1 = 0 then
 some ((-1000000001), w2)
 else
 (if wK w2 v0 = 8 then
 (bd1 (wR w2 v0 0) fun a5 =>
 (if wK w2 a5 = 1 then
 (bd2 (f_X1_welcome a5 v1 w2) fun r8 w9 =>
 some (r8, w9))
 else none))
 else none)))
theorem c_X8_sitter {l : Launch} {V : Vt} {v0 : Nat} {v1 : Int32} {w w' : Wd} {r : Int32} (h : f_X8_sitter v0 v1 w = some (r, w')) : MetW l V yX8_sitter cX8_sitter 2 (some .int) { frames := 2, cells := 0, slots := 0, locals := 42 } w [rf V v0, .int v1] (some (.int r)) w' 0 0 := by
  refine g_start (by decide) (Nat.le_of_ble_eq_true rfl) ?_
  intro t _ hrm X hret hnm
  have Y : Hd_ t V cX8_sitter 2 RX8 { frames := 2, cells := 0, slots := 0, locals := 42 } (some .int) "sitter" := ⟨X, hrm, hret, hnm⟩
  refine g_as (lv' := [(0, rf V v0), (1, .int v1)]) (st' := []) rfl rfl ?_
  unfold f_X8_sitter at h
  refine g_iload_n (pc := 0) X 1 rfl dX8_sitter_0 ?_
  obtain ⟨r1, w2, h3, h⟩ := bd2_i h
  refine g_callS (pc := 1) X mk_X8_isKind q_391 q_390 (c_X8_isKind h3) rfl rfl (by rw [Y.2.1]; decide)  rfl (rest := []) rfl (Nat.le_of_ble_eq_true rfl) (by rw [Y.2.1]; exact ⟨Nat.le_of_ble_eq_true rfl, Nat.le_of_ble_eq_true rfl⟩) dX8_sitter_1 (st' := [.int r1]) rfl ?_
  refine g_if_eq (pc := 4) X (tgt := 18) dX8_sitter_4 rfl (fun c => ?_) (fun c => ?_)
  · have h := br_y c h
    refine g_ldc (pc := 18) X q_359 dX8_sitter_18 ?_
    obtain ⟨e1, e2⟩ := rt_i h
    exact g_iret (pc := 20) X Y.2.2.1 (Nat.le_of_ble_eq_true rfl) (Nat.le_of_ble_eq_true rfl) e1 e2 dX8_sitter_20
  · have h := br_n c h
    refine g_aload_n (pc := 7) X 0 rfl dX8_sitter_7 ?_
    obtain ⟨k4, h⟩ := gd_i h
    obtain ⟨a5, e6, h⟩ := bd1_i h
    refine g_getR (pc := 8) X FcX8 k4 0 e6 (by decide) rfl q_321 dX8_sitter_8 ?_
    refine g_iload_n (pc := 11) X 1 rfl dX8_sitter_11 ?_
    obtain ⟨k7, h⟩ := gd_i h
    obtain ⟨r8, w9, h10, h⟩ := bd2_i h
    refine g_callV (pc := 12) X FcX1 k7 mk_X1_welcome q_394 q_395 q_393 (c_X1_welcome h10) rfl rfl (by rw [Y.2.1]; decide)  rfl (rest := []) rfl (Nat.le_of_ble_eq_true rfl) (by rw [Y.2.1]; exact ⟨Nat.le_of_ble_eq_true rfl, Nat.le_of_ble_eq_true rfl⟩) dX8_sitter_12 (st' := [.int r8]) rfl ?_
    refine g_goto (pc := 15) X (tgt := 20) dX8_sitter_15 rfl ?_
    obtain ⟨e1, e2⟩ := rt_i h
    exact g_iret (pc := 20) X Y.2.2.1 (Nat.le_of_ble_eq_true rfl) (Nat.le_of_ble_eq_true rfl) e1 e2 dX8_sitter_20

def f_X8_isSitter (v0 : Nat) (v1 : Int32) (w : Wd) : Option (Int32 × Wd) := (if wK w v0 = 8 then
 (bd1 (wR w v0 0) fun a2 =>
 (if wK w a2 = 1 then
 (bd2 (f_X8_isWithin v1 0 ((wI w a2 2) - 1) w) fun r5 w6 =>
 (if r5 = 0 ∨ r5 = 1 then
 some (r5, w6)
 else none))
 else none))
 else none)
theorem c_X8_isSitter {l : Launch} {V : Vt} {v0 : Nat} {v1 : Int32} {w w' : Wd} {r : Int32} (h : f_X8_isSitter v0 v1 w = some (r, w')) : MetW l V yX8_isSitter cX8_isSitter 2 (some .boolean) { frames := 1, cells := 0, slots := 0, locals := 22 } w [rf V v0, .int v1] (some (.int r)) w' 0 0 := by
  refine g_start (by decide) (Nat.le_of_ble_eq_true rfl) ?_
  intro t _ hrm X hret hnm
  have Y : Hd_ t V cX8_isSitter 2 RX8 { frames := 1, cells := 0, slots := 0, locals := 22 } (some .boolean) "isSitter" := ⟨X, hrm, hret, hnm⟩
  refine g_as (lv' := [(0, rf V v0), (1, .int v1)]) (st' := []) rfl rfl ?_
  unfold f_X8_isSitter at h
  refine g_iload_n (pc := 0) X 1 rfl dX8_isSitter_0 ?_
  refine g_iconst (pc := 1) X (v := 0) dX8_isSitter_1 rfl ?_
  refine g_aload_n (pc := 2) X 0 rfl dX8_isSitter_2 ?_
  obtain ⟨k1, h⟩ := gd_i h
  obtain ⟨a2, e3, h⟩ := bd1_i h
  refine g_getR (pc := 3) X FcX8 k1 0 e3 (by decide) rfl q_321 dX8_isSitter_3 ?_
  obtain ⟨k4, h⟩ := gd_i h
  refine g_getI (pc := 6) X FcX1 k4 2 (by decide) rfl q_162 dX8_isSitter_6 ?_
  refine g_iconst (pc := 9) X (v := 1) dX8_isSitter_9 rfl ?_
  refine g_isub (pc := 10) X dX8_isSitter_10 ?_
  obtain ⟨r5, w6, h7, h⟩ := bd2_i h
  refine g_callS (pc := 11) X mk_X8_isWithin q_357 q_356 (c_X8_isWithin h7) rfl rfl (by rw [Y.2.1]; decide)  rfl (rest := []) rfl (Nat.le_of_ble_eq_true rfl) (by rw [Y.2.1]; exact ⟨Nat.le_of_ble_eq_true rfl, Nat.le_of_ble_eq_true rfl⟩) dX8_isSitter_11 (st' := [.int r5]) rfl ?_
  obtain ⟨k8, h⟩ := gd_i h
  obtain ⟨e1, e2⟩ := rt_i h
  exact g_zret (pc := 14) X Y.2.2.1 k8 (Nat.le_of_ble_eq_true rfl) (Nat.le_of_ble_eq_true rfl) e1 e2 dX8_isSitter_14

def f_X8_told (v0 : Nat) (v1 : Int32) (v2 : Int32) (w : Wd) : Option (Int32 × Wd) := (if wK w v0 = 8 then
 (bd2 (f_X8_isSitter v0 v1 w) fun r2 w3 =>
 (if r2 = 0 then
 some ((-1000000001), w3)
 else
 (if wK w3 v0 = 8 then
 (bd1 (wR w3 v0 0) fun a6 =>
 (if wK w3 a6 = 1 then
 (bd1 (wR w3 a6 1) fun a9 =>
 (if aK 14 w3 a9 v1 = true then
 (bd1 (wR w3 a9 (nx v1)) fun a12 =>
 (if v2 = 0 then
 (if wK w3 a12 = 4 then
 some (wI w3 a12 0, w3)
 else none)
 else
 (if v2 = 1 then
 (if wK w3 a12 = 4 then
 some (wI w3 a12 1, w3)
 else none)
 else
 (if v2 = 2 then
 (if wK w3 a12 = 4 then
 some (wI w3 a12 2, w3)
 else none)
 else
 (if v2 = 3 then
 (if wK w3 a12 = 4 then
 some (wI w3 a12 3, w3)
 else none)
 else
 (if v2 = 4 then
 (bd1 (wR w3 v0 0) fun a23 =>
 (if wK w3 a23 = 1 then
 (bd2 (f_X1_placesOf a23 a12 w3) fun r26 w27 =>
 some (r26, w27))
 else none))
 else
 (if v2 = 5 then
 (bd1 (wR w3 v0 0) fun a30 =>
 (if wK w3 a30 = 1 then
 (bd2 (f_X1_placesFor a30 a12 w3) fun r33 w34 =>
 some (r33, w34))
 else none))
 else
 (if v2 = 6 then
 (if wK w3 a12 = 4 then
 (bd2 (f_X4_worth a12 w3) fun r38 w39 =>
 some (r38, w39))
 else none)
 else
 some ((-1000000001), w3)))))))))
 else none))
 else none))
 else none)))
 else none)
theorem c_X8_told {l : Launch} {V : Vt} {v0 : Nat} {v1 : Int32} {v2 : Int32} {w w' : Wd} {r : Int32} (h : f_X8_told v0 v1 v2 w = some (r, w')) : MetW l V yX8_told cX8_told 4 (some .int) { frames := 4, cells := 0, slots := 0, locals := 95 } w [rf V v0, .int v1, .int v2] (some (.int r)) w' 0 0 := by
  refine g_start (by decide) (Nat.le_of_ble_eq_true rfl) ?_
  intro t _ hrm X hret hnm
  have Y : Hd_ t V cX8_told 4 RX8 { frames := 4, cells := 0, slots := 0, locals := 95 } (some .int) "told" := ⟨X, hrm, hret, hnm⟩
  refine g_as (lv' := [(0, rf V v0), (1, .int v1), (2, .int v2)]) (st' := []) rfl rfl ?_
  unfold f_X8_told at h
  refine g_aload_n (pc := 0) X 0 rfl dX8_told_0 ?_
  refine g_iload_n (pc := 1) X 1 rfl dX8_told_1 ?_
  obtain ⟨k1, h⟩ := gd_i h
  obtain ⟨r2, w3, h4, h⟩ := bd2_i h
  refine g_callV (pc := 2) X FcX8 k1 mk_X8_isSitter q_408 q_0 q_406 (c_X8_isSitter h4) rfl rfl (by rw [Y.2.1]; decide)  rfl (rest := []) rfl (Nat.le_of_ble_eq_true rfl) (by rw [Y.2.1]; exact ⟨Nat.le_of_ble_eq_true rfl, Nat.le_of_ble_eq_true rfl⟩) dX8_told_2 (st' := [.int r2]) rfl ?_
  refine g_if_ne (pc := 5) X (tgt := 11) dX8_told_5 rfl (fun c => ?_) (fun c => ?_)
  · have h := br_n c h
    refine g_aload_n (pc := 11) X 0 rfl dX8_told_11 ?_
    obtain ⟨k5, h⟩ := gd_i h
    obtain ⟨a6, e7, h⟩ := bd1_i h
    refine g_getR (pc := 12) X FcX8 k5 0 e7 (by decide) rfl q_321 dX8_told_12 ?_
    obtain ⟨k8, h⟩ := gd_i h
    obtain ⟨a9, e10, h⟩ := bd1_i h
    refine g_getR (pc := 15) X FcX1 k8 1 e10 (by decide) rfl q_160 dX8_told_15 ?_
    refine g_iload_n (pc := 18) X 1 rfl dX8_told_18 ?_
    obtain ⟨k11, h⟩ := gd_i h
    obtain ⟨a12, e13, h⟩ := bd1_i h
    refine g_aald (pc := 19) X (C := RX4) k11 (by decide) (by decide) rfl e13 dX8_told_19 ?_
    refine g_astore_n (pc := 20) X (lv' := [(3, rf V a12), (0, rf V v0), (1, .int v1), (2, .int v2)]) dX8_told_20 (by decide) rfl ?_
    refine g_iload_n (pc := 21) X 3 rfl dX8_told_21 ?_
    by_cases c14 : v2 = 0
    · have h := br_y c14 h
      refine g_tswI (pc := 22) X 0 (tgt := 64) dX8_told_22 c14 (by decide) (by decide) rfl rfl ?_
      refine g_aload_n (pc := 64) X 0 rfl dX8_told_64 ?_
      obtain ⟨k15, h⟩ := gd_i h
      refine g_getI (pc := 65) X FcX4 k15 0 (by decide) rfl q_135 dX8_told_65 ?_
      obtain ⟨e1, e2⟩ := rt_i h
      exact g_iret (pc := 68) X Y.2.2.1 (Nat.le_of_ble_eq_true rfl) (Nat.le_of_ble_eq_true rfl) e1 e2 dX8_told_68
    · have h := br_n c14 h
      by_cases c16 : v2 = 1
      · have h := br_y c16 h
        refine g_tswI (pc := 22) X 1 (tgt := 69) dX8_told_22 c16 (by decide) (by decide) rfl rfl ?_
        refine g_aload_n (pc := 69) X 0 rfl dX8_told_69 ?_
        obtain ⟨k17, h⟩ := gd_i h
        refine g_getI (pc := 70) X FcX4 k17 1 (by decide) rfl q_139 dX8_told_70 ?_
        obtain ⟨e1, e2⟩ := rt_i h
        exact g_iret (pc := 73) X Y.2.2.1 (Nat.le_of_ble_eq_true rfl) (Nat.le_of_ble_eq_true rfl) e1 e2 dX8_told_73
      · have h := br_n c16 h
        by_cases c18 : v2 = 2
        · have h := br_y c18 h
          refine g_tswI (pc := 22) X 2 (tgt := 74) dX8_told_22 c18 (by decide) (by decide) rfl rfl ?_
          refine g_aload_n (pc := 74) X 0 rfl dX8_told_74 ?_
          obtain ⟨k19, h⟩ := gd_i h
          refine g_getI (pc := 75) X FcX4 k19 2 (by decide) rfl q_141 dX8_told_75 ?_
          obtain ⟨e1, e2⟩ := rt_i h
          exact g_iret (pc := 78) X Y.2.2.1 (Nat.le_of_ble_eq_true rfl) (Nat.le_of_ble_eq_true rfl) e1 e2 dX8_told_78
        · have h := br_n c18 h
          by_cases c20 : v2 = 3
          · have h := br_y c20 h
            refine g_tswI (pc := 22) X 3 (tgt := 79) dX8_told_22 c20 (by decide) (by decide) rfl rfl ?_
            refine g_aload_n (pc := 79) X 0 rfl dX8_told_79 ?_
            obtain ⟨k21, h⟩ := gd_i h
            refine g_getI (pc := 80) X FcX4 k21 3 (by decide) rfl q_144 dX8_told_80 ?_
            obtain ⟨e1, e2⟩ := rt_i h
            exact g_iret (pc := 83) X Y.2.2.1 (Nat.le_of_ble_eq_true rfl) (Nat.le_of_ble_eq_true rfl) e1 e2 dX8_told_83
          · have h := br_n c20 h
            by_cases c22 : v2 = 4
            · have h := br_y c22 h
              refine g_tswI (pc := 22) X 4 (tgt := 84) dX8_told_22 c22 (by decide) (by decide) rfl rfl ?_
              refine g_aload_n (pc := 84) X 1 rfl dX8_told_84 ?_
              obtain ⟨a23, e24, h⟩ := bd1_i h
              refine g_getR (pc := 85) X FcX8 k5 0 e24 (by decide) rfl q_321 dX8_told_85 ?_
              refine g_aload_n (pc := 88) X 0 rfl dX8_told_88 ?_
              obtain ⟨k25, h⟩ := gd_i h
              obtain ⟨r26, w27, h28, h⟩ := bd2_i h
              refine g_callV (pc := 89) X FcX1 k25 mk_X1_placesOf q_411 q_412 q_410 (c_X1_placesOf h28) rfl rfl (by rw [Y.2.1]; decide)  rfl (rest := []) rfl (Nat.le_of_ble_eq_true rfl) (by rw [Y.2.1]; exact ⟨Nat.le_of_ble_eq_true rfl, Nat.le_of_ble_eq_true rfl⟩) dX8_told_89 (st' := [.int r26]) rfl ?_
              obtain ⟨e1, e2⟩ := rt_i h
              exact g_iret (pc := 92) X Y.2.2.1 (Nat.le_of_ble_eq_true rfl) (Nat.le_of_ble_eq_true rfl) e1 e2 dX8_told_92
            · have h := br_n c22 h
              by_cases c29 : v2 = 5
              · have h := br_y c29 h
                refine g_tswI (pc := 22) X 5 (tgt := 93) dX8_told_22 c29 (by decide) (by decide) rfl rfl ?_
                refine g_aload_n (pc := 93) X 1 rfl dX8_told_93 ?_
                obtain ⟨a30, e31, h⟩ := bd1_i h
                refine g_getR (pc := 94) X FcX8 k5 0 e31 (by decide) rfl q_321 dX8_told_94 ?_
                refine g_aload_n (pc := 97) X 0 rfl dX8_told_97 ?_
                obtain ⟨k32, h⟩ := gd_i h
                obtain ⟨r33, w34, h35, h⟩ := bd2_i h
                refine g_callV (pc := 98) X FcX1 k32 mk_X1_placesFor q_421 q_422 q_420 (c_X1_placesFor h35) rfl rfl (by rw [Y.2.1]; decide)  rfl (rest := []) rfl (Nat.le_of_ble_eq_true rfl) (by rw [Y.2.1]; exact ⟨Nat.le_of_ble_eq_true rfl, Nat.le_of_ble_eq_true rfl⟩) dX8_told_98 (st' := [.int r33]) rfl ?_
                obtain ⟨e1, e2⟩ := rt_i h
                exact g_iret (pc := 101) X Y.2.2.1 (Nat.le_of_ble_eq_true rfl) (Nat.le_of_ble_eq_true rfl) e1 e2 dX8_told_101
              · have h := br_n c29 h
                by_cases c36 : v2 = 6
                · have h := br_y c36 h
                  refine g_tswI (pc := 22) X 6 (tgt := 102) dX8_told_22 c36 (by decide) (by decide) rfl rfl ?_
                  refine g_aload_n (pc := 102) X 0 rfl dX8_told_102 ?_
                  obtain ⟨k37, h⟩ := gd_i h
                  obtain ⟨r38, w39, h40, h⟩ := bd2_i h
                  refine g_callV (pc := 103) X FcX4 k37 mk_X4_worth q_456 q_457 q_455 (c_X4_worth h40) rfl rfl (by rw [Y.2.1]; decide)  rfl (rest := []) rfl (Nat.le_of_ble_eq_true rfl) (by rw [Y.2.1]; exact ⟨Nat.le_of_ble_eq_true rfl, Nat.le_of_ble_eq_true rfl⟩) dX8_told_103 (st' := [.int r38]) rfl ?_
                  obtain ⟨e1, e2⟩ := rt_i h
                  exact g_iret (pc := 106) X Y.2.2.1 (Nat.le_of_ble_eq_true rfl) (Nat.le_of_ble_eq_true rfl) e1 e2 dX8_told_106
                · have h := br_n c36 h
                  refine g_tswO (pc := 22) X (tgt := 107) dX8_told_22 (by have n0 : Int32.toInt v2 ≠ 0 := nt_ c14; have n1 : Int32.toInt v2 ≠ 1 := nt_ c16; have n2 : Int32.toInt v2 ≠ 2 := nt_ c18; have n3 : Int32.toInt v2 ≠ 3 := nt_ c20; have n4 : Int32.toInt v2 ≠ 4 := nt_ c22; have n5 : Int32.toInt v2 ≠ 5 := nt_ c29; have n6 : Int32.toInt v2 ≠ 6 := nt_ c36; omega) rfl ?_
                  refine g_ldc (pc := 107) X q_359 dX8_told_107 ?_
                  obtain ⟨e1, e2⟩ := rt_i h
                  exact g_iret (pc := 109) X Y.2.2.1 (Nat.le_of_ble_eq_true rfl) (Nat.le_of_ble_eq_true rfl) e1 e2 dX8_told_109
  · have h := br_y c h
    refine g_ldc (pc := 8) X q_359 dX8_told_8 ?_
    obtain ⟨e1, e2⟩ := rt_i h
    exact g_iret (pc := 10) X Y.2.2.1 (Nat.le_of_ble_eq_true rfl) (Nat.le_of_ble_eq_true rfl) e1 e2 dX8_told_10

def f_X8_as (v0 : Nat) (v1 : Int32) (v2 : Int32) (w : Wd) : Option (Int32 × Wd) := (if wK w v0 = 8 then
 (bd2 (f_X8_isSitter v0 v1 w) fun r2 w3 =>
 (if r2 = 0 then
 some ((-1000000001), w3)
 else
 (bd2 (f_X8_isKind v2 w3) fun r5 w6 =>
 (if r5 = 0 then
 some ((-1000000001), w6)
 else
 (if wK w6 v0 = 8 then
 (bd1 (wR w6 v0 0) fun a9 =>
 (if wK w6 a9 = 1 then
 (bd1 (wR w6 a9 1) fun a12 =>
 (if aK 14 w6 a12 v1 = true then
 (bd1 (wR w6 a12 (nx v1)) fun a15 =>
 (if wK w6 a15 = 4 then
 (bd2 (f_X4_isOf a15 v2 w6) fun r18 w19 =>
 (if r18 = 0 then
 some ((-1000000012), w19)
 else
 (if wK w19 a15 = 4 then
 some (wI w19 a15 3, w19)
 else none)))
 else none))
 else none))
 else none))
 else none)))))
 else none)
theorem c_X8_as {l : Launch} {V : Vt} {v0 : Nat} {v1 : Int32} {v2 : Int32} {w w' : Wd} {r : Int32} (h : f_X8_as v0 v1 v2 w = some (r, w')) : MetW l V yX8_as cX8_as 4 (some .int) { frames := 2, cells := 0, slots := 0, locals := 43 } w [rf V v0, .int v1, .int v2] (some (.int r)) w' 0 0 := by
  refine g_start (by decide) (Nat.le_of_ble_eq_true rfl) ?_
  intro t _ hrm X hret hnm
  have Y : Hd_ t V cX8_as 4 RX8 { frames := 2, cells := 0, slots := 0, locals := 43 } (some .int) "as" := ⟨X, hrm, hret, hnm⟩
  refine g_as (lv' := [(0, rf V v0), (1, .int v1), (2, .int v2)]) (st' := []) rfl rfl ?_
  unfold f_X8_as at h
  refine g_aload_n (pc := 0) X 0 rfl dX8_as_0 ?_
  refine g_iload_n (pc := 1) X 1 rfl dX8_as_1 ?_
  obtain ⟨k1, h⟩ := gd_i h
  obtain ⟨r2, w3, h4, h⟩ := bd2_i h
  refine g_callV (pc := 2) X FcX8 k1 mk_X8_isSitter q_408 q_0 q_406 (c_X8_isSitter h4) rfl rfl (by rw [Y.2.1]; decide)  rfl (rest := []) rfl (Nat.le_of_ble_eq_true rfl) (by rw [Y.2.1]; exact ⟨Nat.le_of_ble_eq_true rfl, Nat.le_of_ble_eq_true rfl⟩) dX8_as_2 (st' := [.int r2]) rfl ?_
  refine g_if_eq (pc := 5) X (tgt := 15) dX8_as_5 rfl (fun c => ?_) (fun c => ?_)
  · have h := br_y c h
    refine g_ldc (pc := 15) X q_359 dX8_as_15 ?_
    obtain ⟨e1, e2⟩ := rt_i h
    exact g_iret (pc := 17) X Y.2.2.1 (Nat.le_of_ble_eq_true rfl) (Nat.le_of_ble_eq_true rfl) e1 e2 dX8_as_17
  · have h := br_n c h
    refine g_iload_n (pc := 8) X 2 rfl dX8_as_8 ?_
    obtain ⟨r5, w6, h7, h⟩ := bd2_i h
    refine g_callS (pc := 9) X mk_X8_isKind q_391 q_390 (c_X8_isKind h7) rfl rfl (by rw [Y.2.1]; decide)  rfl (rest := []) rfl (Nat.le_of_ble_eq_true rfl) (by rw [Y.2.1]; exact ⟨Nat.le_of_ble_eq_true rfl, Nat.le_of_ble_eq_true rfl⟩) dX8_as_9 (st' := [.int r5]) rfl ?_
    refine g_if_ne (pc := 12) X (tgt := 18) dX8_as_12 rfl (fun c => ?_) (fun c => ?_)
    · have h := br_n c h
      refine g_aload_n (pc := 18) X 0 rfl dX8_as_18 ?_
      obtain ⟨k8, h⟩ := gd_i h
      obtain ⟨a9, e10, h⟩ := bd1_i h
      refine g_getR (pc := 19) X FcX8 k8 0 e10 (by decide) rfl q_321 dX8_as_19 ?_
      obtain ⟨k11, h⟩ := gd_i h
      obtain ⟨a12, e13, h⟩ := bd1_i h
      refine g_getR (pc := 22) X FcX1 k11 1 e13 (by decide) rfl q_160 dX8_as_22 ?_
      refine g_iload_n (pc := 25) X 1 rfl dX8_as_25 ?_
      obtain ⟨k14, h⟩ := gd_i h
      obtain ⟨a15, e16, h⟩ := bd1_i h
      refine g_aald (pc := 26) X (C := RX4) k14 (by decide) (by decide) rfl e16 dX8_as_26 ?_
      refine g_astore_n (pc := 27) X (lv' := [(3, rf V a15), (0, rf V v0), (1, .int v1), (2, .int v2)]) dX8_as_27 (by decide) rfl ?_
      refine g_aload_n (pc := 28) X 0 rfl dX8_as_28 ?_
      refine g_iload_n (pc := 29) X 3 rfl dX8_as_29 ?_
      obtain ⟨k17, h⟩ := gd_i h
      obtain ⟨r18, w19, h20, h⟩ := bd2_i h
      refine g_callV (pc := 30) X FcX4 k17 mk_X4_isOf q_415 q_416 q_463 (c_X4_isOf h20) rfl rfl (by rw [Y.2.1]; decide)  rfl (rest := []) rfl (Nat.le_of_ble_eq_true rfl) (by rw [Y.2.1]; exact ⟨Nat.le_of_ble_eq_true rfl, Nat.le_of_ble_eq_true rfl⟩) dX8_as_30 (st' := [.int r18]) rfl ?_
      refine g_if_eq (pc := 33) X (tgt := 43) dX8_as_33 rfl (fun c => ?_) (fun c => ?_)
      · have h := br_y c h
        refine g_ldc (pc := 43) X q_464 dX8_as_43 ?_
        obtain ⟨e1, e2⟩ := rt_i h
        exact g_iret (pc := 45) X Y.2.2.1 (Nat.le_of_ble_eq_true rfl) (Nat.le_of_ble_eq_true rfl) e1 e2 dX8_as_45
      · have h := br_n c h
        refine g_aload_n (pc := 36) X 0 rfl dX8_as_36 ?_
        obtain ⟨k21, h⟩ := gd_i h
        refine g_getI (pc := 37) X FcX4 k21 3 (by decide) rfl q_144 dX8_as_37 ?_
        refine g_goto (pc := 40) X (tgt := 45) dX8_as_40 rfl ?_
        obtain ⟨e1, e2⟩ := rt_i h
        exact g_iret (pc := 45) X Y.2.2.1 (Nat.le_of_ble_eq_true rfl) (Nat.le_of_ble_eq_true rfl) e1 e2 dX8_as_45
    · have h := br_y c h
      refine g_ldc (pc := 15) X q_359 dX8_as_15 ?_
      obtain ⟨e1, e2⟩ := rt_i h
      exact g_iret (pc := 17) X Y.2.2.1 (Nat.le_of_ble_eq_true rfl) (Nat.le_of_ble_eq_true rfl) e1 e2 dX8_as_17

def f_X8_turns (v0 : Nat) (v1 : Int32) (v2 : Int32) (w : Wd) : Option (Int32 × Wd) := (if wK w v0 = 8 then
 (bd2 (f_X8_isSitter v0 v1 w) fun r2 w3 =>
 (if r2 = 0 then
 some ((-1000000001), w3)
 else
 (bd2 (f_X8_isKind v2 w3) fun r5 w6 =>
 (if r5 = 0 then
 some ((-1000000001), w6)
 else
 (if wK w6 v0 = 8 then
 (bd1 (wR w6 v0 0) fun a9 =>
 (if wK w6 a9 = 1 then
 (bd1 (wR w6 a9 1) fun a12 =>
 (if aK 14 w6 a12 v1 = true then
 (bd1 (wR w6 a12 (nx v1)) fun a15 =>
 (if wK w6 a15 = 4 then
 (bd2 (f_X4_sitsNow a15 w6) fun r18 w19 =>
 (if r18 = 0 then
 (if wK w19 a15 = 4 then
 (lb_ (wI w19 a15 0) fun x22 =>
 (lb_ (sI w19 a15 0 v2) fun w24 =>
 some (x22, w24)))
 else none)
 else
 some ((-1000000002), w19)))
 else none))
 else none))
 else none))
 else none)))))
 else none)
theorem c_X8_turns {l : Launch} {V : Vt} {v0 : Nat} {v1 : Int32} {v2 : Int32} {w w' : Wd} {r : Int32} (h : f_X8_turns v0 v1 v2 w = some (r, w')) : MetW l V yX8_turns cX8_turns 5 (some .int) { frames := 2, cells := 0, slots := 0, locals := 43 } w [rf V v0, .int v1, .int v2] (some (.int r)) w' 0 0 := by
  refine g_start (by decide) (Nat.le_of_ble_eq_true rfl) ?_
  intro t _ hrm X hret hnm
  have Y : Hd_ t V cX8_turns 5 RX8 { frames := 2, cells := 0, slots := 0, locals := 43 } (some .int) "turns" := ⟨X, hrm, hret, hnm⟩
  refine g_as (lv' := [(0, rf V v0), (1, .int v1), (2, .int v2)]) (st' := []) rfl rfl ?_
  unfold f_X8_turns at h
  refine g_aload_n (pc := 0) X 0 rfl dX8_turns_0 ?_
  refine g_iload_n (pc := 1) X 1 rfl dX8_turns_1 ?_
  obtain ⟨k1, h⟩ := gd_i h
  obtain ⟨r2, w3, h4, h⟩ := bd2_i h
  refine g_callV (pc := 2) X FcX8 k1 mk_X8_isSitter q_408 q_0 q_406 (c_X8_isSitter h4) rfl rfl (by rw [Y.2.1]; decide)  rfl (rest := []) rfl (Nat.le_of_ble_eq_true rfl) (by rw [Y.2.1]; exact ⟨Nat.le_of_ble_eq_true rfl, Nat.le_of_ble_eq_true rfl⟩) dX8_turns_2 (st' := [.int r2]) rfl ?_
  refine g_if_eq (pc := 5) X (tgt := 15) dX8_turns_5 rfl (fun c => ?_) (fun c => ?_)
  · have h := br_y c h
    refine g_ldc (pc := 15) X q_359 dX8_turns_15 ?_
    obtain ⟨e1, e2⟩ := rt_i h
    exact g_iret (pc := 17) X Y.2.2.1 (Nat.le_of_ble_eq_true rfl) (Nat.le_of_ble_eq_true rfl) e1 e2 dX8_turns_17
  · have h := br_n c h
    refine g_iload_n (pc := 8) X 2 rfl dX8_turns_8 ?_
    obtain ⟨r5, w6, h7, h⟩ := bd2_i h
    refine g_callS (pc := 9) X mk_X8_isKind q_391 q_390 (c_X8_isKind h7) rfl rfl (by rw [Y.2.1]; decide)  rfl (rest := []) rfl (Nat.le_of_ble_eq_true rfl) (by rw [Y.2.1]; exact ⟨Nat.le_of_ble_eq_true rfl, Nat.le_of_ble_eq_true rfl⟩) dX8_turns_9 (st' := [.int r5]) rfl ?_
    refine g_if_ne (pc := 12) X (tgt := 18) dX8_turns_12 rfl (fun c => ?_) (fun c => ?_)
    · have h := br_n c h
      refine g_aload_n (pc := 18) X 0 rfl dX8_turns_18 ?_
      obtain ⟨k8, h⟩ := gd_i h
      obtain ⟨a9, e10, h⟩ := bd1_i h
      refine g_getR (pc := 19) X FcX8 k8 0 e10 (by decide) rfl q_321 dX8_turns_19 ?_
      obtain ⟨k11, h⟩ := gd_i h
      obtain ⟨a12, e13, h⟩ := bd1_i h
      refine g_getR (pc := 22) X FcX1 k11 1 e13 (by decide) rfl q_160 dX8_turns_22 ?_
      refine g_iload_n (pc := 25) X 1 rfl dX8_turns_25 ?_
      obtain ⟨k14, h⟩ := gd_i h
      obtain ⟨a15, e16, h⟩ := bd1_i h
      refine g_aald (pc := 26) X (C := RX4) k14 (by decide) (by decide) rfl e16 dX8_turns_26 ?_
      refine g_astore_n (pc := 27) X (lv' := [(3, rf V a15), (0, rf V v0), (1, .int v1), (2, .int v2)]) dX8_turns_27 (by decide) rfl ?_
      refine g_aload_n (pc := 28) X 0 rfl dX8_turns_28 ?_
      obtain ⟨k17, h⟩ := gd_i h
      obtain ⟨r18, w19, h20, h⟩ := bd2_i h
      refine g_callV (pc := 29) X FcX4 k17 mk_X4_sitsNow q_373 q_374 q_469 (c_X4_sitsNow h20) rfl rfl (by rw [Y.2.1]; decide)  rfl (rest := []) rfl (Nat.le_of_ble_eq_true rfl) (by rw [Y.2.1]; exact ⟨Nat.le_of_ble_eq_true rfl, Nat.le_of_ble_eq_true rfl⟩) dX8_turns_29 (st' := [.int r18]) rfl ?_
      refine g_if_eq (pc := 32) X (tgt := 38) dX8_turns_32 rfl (fun c => ?_) (fun c => ?_)
      · have h := br_y c h
        refine g_aload_n (pc := 38) X 0 rfl dX8_turns_38 ?_
        obtain ⟨k21, h⟩ := gd_i h
        refine g_getI (pc := 39) X FcX4 k21 0 (by decide) rfl q_135 dX8_turns_39 ?_
        obtain ⟨x22, e23, h⟩ := lb_i h
        refine g_top e23 ?_
        refine g_istore (pc := 42) X (lv' := [(4, .int x22), (3, rf V a15), (0, rf V v0), (1, .int v1), (2, .int v2)]) dX8_turns_42 (by decide) rfl ?_
        refine g_aload_n (pc := 44) X 1 rfl dX8_turns_44 ?_
        refine g_iload_n (pc := 45) X 4 rfl dX8_turns_45 ?_
        refine g_putI (pc := 46) X FcX4 k21 0 (by decide) rfl q_135 rfl rfl rfl dX8_turns_46 ?_
        obtain ⟨w24, e25, h⟩ := lb_i h
        refine g_w e25 ?_
        refine g_iload (pc := 49) X 0 rfl dX8_turns_49 ?_
        obtain ⟨e1, e2⟩ := rt_i h
        exact g_iret (pc := 51) X Y.2.2.1 (Nat.le_of_ble_eq_true rfl) (Nat.le_of_ble_eq_true rfl) e1 e2 dX8_turns_51
      · have h := br_n c h
        refine g_ldc (pc := 35) X q_470 dX8_turns_35 ?_
        obtain ⟨e1, e2⟩ := rt_i h
        exact g_iret (pc := 37) X Y.2.2.1 (Nat.le_of_ble_eq_true rfl) (Nat.le_of_ble_eq_true rfl) e1 e2 dX8_turns_37
    · have h := br_y c h
      refine g_ldc (pc := 15) X q_359 dX8_turns_15 ?_
      obtain ⟨e1, e2⟩ := rt_i h
      exact g_iret (pc := 17) X Y.2.2.1 (Nat.le_of_ble_eq_true rfl) (Nat.le_of_ble_eq_true rfl) e1 e2 dX8_turns_17

def f_X8_isPlace (v0 : Nat) (v1 : Int32) (w : Wd) : Option (Int32 × Wd) := (if wK w v0 = 8 then
 (bd1 (wR w v0 0) fun a2 =>
 (if wK w a2 = 1 then
 (bd1 (wR w a2 0) fun a5 =>
 (if wK w a5 = 0 then
 (bd2 (f_X8_isWithin v1 0 ((wI w a5 0) - 1) w) fun r8 w9 =>
 (if r8 = 0 ∨ r8 = 1 then
 some (r8, w9)
 else none))
 else none))
 else none))
 else none)
theorem c_X8_isPlace {l : Launch} {V : Vt} {v0 : Nat} {v1 : Int32} {w w' : Wd} {r : Int32} (h : f_X8_isPlace v0 v1 w = some (r, w')) : MetW l V yX8_isPlace cX8_isPlace 2 (some .boolean) { frames := 1, cells := 0, slots := 0, locals := 22 } w [rf V v0, .int v1] (some (.int r)) w' 0 0 := by
  refine g_start (by decide) (Nat.le_of_ble_eq_true rfl) ?_
  intro t _ hrm X hret hnm
  have Y : Hd_ t V cX8_isPlace 2 RX8 { frames := 1, cells := 0, slots := 0, locals := 22 } (some .boolean) "isPlace" := ⟨X, hrm, hret, hnm⟩
  refine g_as (lv' := [(0, rf V v0), (1, .int v1)]) (st' := []) rfl rfl ?_
  unfold f_X8_isPlace at h
  refine g_iload_n (pc := 0) X 1 rfl dX8_isPlace_0 ?_
  refine g_iconst (pc := 1) X (v := 0) dX8_isPlace_1 rfl ?_
  refine g_aload_n (pc := 2) X 0 rfl dX8_isPlace_2 ?_
  obtain ⟨k1, h⟩ := gd_i h
  obtain ⟨a2, e3, h⟩ := bd1_i h
  refine g_getR (pc := 3) X FcX8 k1 0 e3 (by decide) rfl q_321 dX8_isPlace_3 ?_
  obtain ⟨k4, h⟩ := gd_i h
  obtain ⟨a5, e6, h⟩ := bd1_i h
  refine g_getR (pc := 6) X FcX1 k4 0 e6 (by decide) rfl q_158 dX8_isPlace_6 ?_
  obtain ⟨k7, h⟩ := gd_i h
  refine g_getI (pc := 9) X FcX0 k7 0 (by decide) rfl q_105 dX8_isPlace_9 ?_
  refine g_iconst (pc := 12) X (v := 1) dX8_isPlace_12 rfl ?_
  refine g_isub (pc := 13) X dX8_isPlace_13 ?_
  obtain ⟨r8, w9, h10, h⟩ := bd2_i h
  refine g_callS (pc := 14) X mk_X8_isWithin q_357 q_356 (c_X8_isWithin h10) rfl rfl (by rw [Y.2.1]; decide)  rfl (rest := []) rfl (Nat.le_of_ble_eq_true rfl) (by rw [Y.2.1]; exact ⟨Nat.le_of_ble_eq_true rfl, Nat.le_of_ble_eq_true rfl⟩) dX8_isPlace_14 (st' := [.int r8]) rfl ?_
  obtain ⟨k11, h⟩ := gd_i h
  obtain ⟨e1, e2⟩ := rt_i h
  exact g_zret (pc := 17) X Y.2.2.1 k11 (Nat.le_of_ble_eq_true rfl) (Nat.le_of_ble_eq_true rfl) e1 e2 dX8_isPlace_17

def f_X8_sits (v0 : Nat) (v1 : Int32) (v2 : Int32) (w : Wd) : Option (Int32 × Wd) := (if wK w v0 = 8 then
 (bd2 (f_X8_isSitter v0 v1 w) fun r2 w3 =>
 (if r2 = 0 then
 some ((-1000000001), w3)
 else
 (if wK w3 v0 = 8 then
 (bd2 (f_X8_isPlace v0 v2 w3) fun r6 w7 =>
 (if r6 = 0 then
 some ((-1000000001), w7)
 else
 (if wK w7 v0 = 8 then
 (bd1 (wR w7 v0 0) fun a10 =>
 (if wK w7 a10 = 1 then
 (bd1 (wR w7 a10 1) fun a13 =>
 (if aK 14 w7 a13 v1 = true then
 (bd1 (wR w7 a13 (nx v1)) fun a16 =>
 (bd1 (wR w7 v0 0) fun a18 =>
 (if wK w7 a18 = 1 then
 (bd2 (f_X1_placesFor a18 a16 w7) fun r21 w22 =>
 (bd2 (f_X8_has r21 v2 w22) fun r24 w25 =>
 (if r24 = 0 then
 some ((-1000000002), w25)
 else
 (if wK w25 v0 = 8 then
 (bd1 (wR w25 v0 0) fun a28 =>
 (if wK w25 a28 = 1 then
 (bd2 (f_X1_seat a28 a16 v2 w25) fun r31 w32 =>
 some (r31, w32))
 else none))
 else none))))
 else none)))
 else none))
 else none))
 else none)))
 else none)))
 else none)
theorem c_X8_sits {l : Launch} {V : Vt} {v0 : Nat} {v1 : Int32} {v2 : Int32} {w w' : Wd} {r : Int32} (h : f_X8_sits v0 v1 v2 w = some (r, w')) : MetW l V yX8_sits cX8_sits 4 (some .int) { frames := 4, cells := 0, slots := 0, locals := 96 } w [rf V v0, .int v1, .int v2] (some (.int r)) w' 0 0 := by
  refine g_start (by decide) (Nat.le_of_ble_eq_true rfl) ?_
  intro t _ hrm X hret hnm
  have Y : Hd_ t V cX8_sits 4 RX8 { frames := 4, cells := 0, slots := 0, locals := 96 } (some .int) "sits" := ⟨X, hrm, hret, hnm⟩
  refine g_as (lv' := [(0, rf V v0), (1, .int v1), (2, .int v2)]) (st' := []) rfl rfl ?_
  unfold f_X8_sits at h
  refine g_aload_n (pc := 0) X 0 rfl dX8_sits_0 ?_
  refine g_iload_n (pc := 1) X 1 rfl dX8_sits_1 ?_
  obtain ⟨k1, h⟩ := gd_i h
  obtain ⟨r2, w3, h4, h⟩ := bd2_i h
  refine g_callV (pc := 2) X FcX8 k1 mk_X8_isSitter q_408 q_0 q_406 (c_X8_isSitter h4) rfl rfl (by rw [Y.2.1]; decide)  rfl (rest := []) rfl (Nat.le_of_ble_eq_true rfl) (by rw [Y.2.1]; exact ⟨Nat.le_of_ble_eq_true rfl, Nat.le_of_ble_eq_true rfl⟩) dX8_sits_2 (st' := [.int r2]) rfl ?_
  refine g_if_eq (pc := 5) X (tgt := 16) dX8_sits_5 rfl (fun c => ?_) (fun c => ?_)
  · have h := br_y c h
    refine g_ldc (pc := 16) X q_359 dX8_sits_16 ?_
    obtain ⟨e1, e2⟩ := rt_i h
    exact g_iret (pc := 18) X Y.2.2.1 (Nat.le_of_ble_eq_true rfl) (Nat.le_of_ble_eq_true rfl) e1 e2 dX8_sits_18
  · have h := br_n c h
    refine g_aload_n (pc := 8) X 0 rfl dX8_sits_8 ?_
    refine g_iload_n (pc := 9) X 2 rfl dX8_sits_9 ?_
    obtain ⟨k5, h⟩ := gd_i h
    obtain ⟨r6, w7, h8, h⟩ := bd2_i h
    refine g_callV (pc := 10) X FcX8 k5 mk_X8_isPlace q_477 q_1 q_475 (c_X8_isPlace h8) rfl rfl (by rw [Y.2.1]; decide)  rfl (rest := []) rfl (Nat.le_of_ble_eq_true rfl) (by rw [Y.2.1]; exact ⟨Nat.le_of_ble_eq_true rfl, Nat.le_of_ble_eq_true rfl⟩) dX8_sits_10 (st' := [.int r6]) rfl ?_
    refine g_if_ne (pc := 13) X (tgt := 19) dX8_sits_13 rfl (fun c => ?_) (fun c => ?_)
    · have h := br_n c h
      refine g_aload_n (pc := 19) X 0 rfl dX8_sits_19 ?_
      obtain ⟨k9, h⟩ := gd_i h
      obtain ⟨a10, e11, h⟩ := bd1_i h
      refine g_getR (pc := 20) X FcX8 k9 0 e11 (by decide) rfl q_321 dX8_sits_20 ?_
      obtain ⟨k12, h⟩ := gd_i h
      obtain ⟨a13, e14, h⟩ := bd1_i h
      refine g_getR (pc := 23) X FcX1 k12 1 e14 (by decide) rfl q_160 dX8_sits_23 ?_
      refine g_iload_n (pc := 26) X 1 rfl dX8_sits_26 ?_
      obtain ⟨k15, h⟩ := gd_i h
      obtain ⟨a16, e17, h⟩ := bd1_i h
      refine g_aald (pc := 27) X (C := RX4) k15 (by decide) (by decide) rfl e17 dX8_sits_27 ?_
      refine g_astore_n (pc := 28) X (lv' := [(3, rf V a16), (0, rf V v0), (1, .int v1), (2, .int v2)]) dX8_sits_28 (by decide) rfl ?_
      refine g_aload_n (pc := 29) X 1 rfl dX8_sits_29 ?_
      obtain ⟨a18, e19, h⟩ := bd1_i h
      refine g_getR (pc := 30) X FcX8 k9 0 e19 (by decide) rfl q_321 dX8_sits_30 ?_
      refine g_aload_n (pc := 33) X 0 rfl dX8_sits_33 ?_
      obtain ⟨k20, h⟩ := gd_i h
      obtain ⟨r21, w22, h23, h⟩ := bd2_i h
      refine g_callV (pc := 34) X FcX1 k20 mk_X1_placesFor q_421 q_422 q_420 (c_X1_placesFor h23) rfl rfl (by rw [Y.2.1]; decide)  rfl (rest := []) rfl (Nat.le_of_ble_eq_true rfl) (by rw [Y.2.1]; exact ⟨Nat.le_of_ble_eq_true rfl, Nat.le_of_ble_eq_true rfl⟩) dX8_sits_34 (st' := [.int r21]) rfl ?_
      refine g_iload_n (pc := 37) X 3 rfl dX8_sits_37 ?_
      obtain ⟨r24, w25, h26, h⟩ := bd2_i h
      refine g_callS (pc := 38) X mk_X8_has q_480 q_479 (c_X8_has h26) rfl rfl (by rw [Y.2.1]; decide)  rfl (rest := []) rfl (Nat.le_of_ble_eq_true rfl) (by rw [Y.2.1]; exact ⟨Nat.le_of_ble_eq_true rfl, Nat.le_of_ble_eq_true rfl⟩) dX8_sits_38 (st' := [.int r24]) rfl ?_
      refine g_if_eq (pc := 41) X (tgt := 56) dX8_sits_41 rfl (fun c => ?_) (fun c => ?_)
      · have h := br_y c h
        refine g_ldc (pc := 56) X q_470 dX8_sits_56 ?_
        obtain ⟨e1, e2⟩ := rt_i h
        exact g_iret (pc := 58) X Y.2.2.1 (Nat.le_of_ble_eq_true rfl) (Nat.le_of_ble_eq_true rfl) e1 e2 dX8_sits_58
      · have h := br_n c h
        refine g_aload_n (pc := 44) X 1 rfl dX8_sits_44 ?_
        obtain ⟨k27, h⟩ := gd_i h
        obtain ⟨a28, e29, h⟩ := bd1_i h
        refine g_getR (pc := 45) X FcX8 k27 0 e29 (by decide) rfl q_321 dX8_sits_45 ?_
        refine g_aload_n (pc := 48) X 0 rfl dX8_sits_48 ?_
        refine g_iload_n (pc := 49) X 3 rfl dX8_sits_49 ?_
        obtain ⟨k30, h⟩ := gd_i h
        obtain ⟨r31, w32, h33, h⟩ := bd2_i h
        refine g_callV (pc := 50) X FcX1 k30 mk_X1_seat q_483 q_484 q_482 (c_X1_seat h33) rfl rfl (by rw [Y.2.1]; decide)  rfl (rest := []) rfl (Nat.le_of_ble_eq_true rfl) (by rw [Y.2.1]; exact ⟨Nat.le_of_ble_eq_true rfl, Nat.le_of_ble_eq_true rfl⟩) dX8_sits_50 (st' := [.int r31]) rfl ?_
        refine g_goto (pc := 53) X (tgt := 58) dX8_sits_53 rfl ?_
        obtain ⟨e1, e2⟩ := rt_i h
        exact g_iret (pc := 58) X Y.2.2.1 (Nat.le_of_ble_eq_true rfl) (Nat.le_of_ble_eq_true rfl) e1 e2 dX8_sits_58
    · have h := br_y c h
      refine g_ldc (pc := 16) X q_359 dX8_sits_16 ?_
      obtain ⟨e1, e2⟩ := rt_i h
      exact g_iret (pc := 18) X Y.2.2.1 (Nat.le_of_ble_eq_true rfl) (Nat.le_of_ble_eq_true rfl) e1 e2 dX8_sits_18

def f_X8_rises (v0 : Nat) (v1 : Int32) (w : Wd) : Option (Int32 × Wd) := (if wK w v0 = 8 then
 (bd2 (f_X8_isSitter v0 v1 w) fun r2 w3 =>
 (if r2 = 0 then
 some ((-1000000001), w3)
 else
 (if wK w3 v0 = 8 then
 (bd1 (wR w3 v0 0) fun a6 =>
 (if wK w3 a6 = 1 then
 (bd1 (wR w3 a6 1) fun a9 =>
 (if aK 14 w3 a9 v1 = true then
 (bd1 (wR w3 a9 (nx v1)) fun a12 =>
 (if wK w3 a12 = 4 then
 (bd2 (f_X4_sitsNow a12 w3) fun r15 w16 =>
 (if r15 = 0 then
 some ((-1000000002), w16)
 else
 (if wK w16 a12 = 4 then
 (lb_ (wI w16 a12 1) fun x19 =>
 (lb_ (sI w16 a12 1 (-1)) fun w21 =>
 some (x19, w21)))
 else none)))
 else none))
 else none))
 else none))
 else none)))
 else none)
theorem c_X8_rises {l : Launch} {V : Vt} {v0 : Nat} {v1 : Int32} {w w' : Wd} {r : Int32} (h : f_X8_rises v0 v1 w = some (r, w')) : MetW l V yX8_rises cX8_rises 4 (some .int) { frames := 2, cells := 0, slots := 0, locals := 43 } w [rf V v0, .int v1] (some (.int r)) w' 0 0 := by
  refine g_start (by decide) (Nat.le_of_ble_eq_true rfl) ?_
  intro t _ hrm X hret hnm
  have Y : Hd_ t V cX8_rises 4 RX8 { frames := 2, cells := 0, slots := 0, locals := 43 } (some .int) "rises" := ⟨X, hrm, hret, hnm⟩
  refine g_as (lv' := [(0, rf V v0), (1, .int v1)]) (st' := []) rfl rfl ?_
  unfold f_X8_rises at h
  refine g_aload_n (pc := 0) X 0 rfl dX8_rises_0 ?_
  refine g_iload_n (pc := 1) X 1 rfl dX8_rises_1 ?_
  obtain ⟨k1, h⟩ := gd_i h
  obtain ⟨r2, w3, h4, h⟩ := bd2_i h
  refine g_callV (pc := 2) X FcX8 k1 mk_X8_isSitter q_408 q_0 q_406 (c_X8_isSitter h4) rfl rfl (by rw [Y.2.1]; decide)  rfl (rest := []) rfl (Nat.le_of_ble_eq_true rfl) (by rw [Y.2.1]; exact ⟨Nat.le_of_ble_eq_true rfl, Nat.le_of_ble_eq_true rfl⟩) dX8_rises_2 (st' := [.int r2]) rfl ?_
  refine g_if_ne (pc := 5) X (tgt := 11) dX8_rises_5 rfl (fun c => ?_) (fun c => ?_)
  · have h := br_n c h
    refine g_aload_n (pc := 11) X 0 rfl dX8_rises_11 ?_
    obtain ⟨k5, h⟩ := gd_i h
    obtain ⟨a6, e7, h⟩ := bd1_i h
    refine g_getR (pc := 12) X FcX8 k5 0 e7 (by decide) rfl q_321 dX8_rises_12 ?_
    obtain ⟨k8, h⟩ := gd_i h
    obtain ⟨a9, e10, h⟩ := bd1_i h
    refine g_getR (pc := 15) X FcX1 k8 1 e10 (by decide) rfl q_160 dX8_rises_15 ?_
    refine g_iload_n (pc := 18) X 1 rfl dX8_rises_18 ?_
    obtain ⟨k11, h⟩ := gd_i h
    obtain ⟨a12, e13, h⟩ := bd1_i h
    refine g_aald (pc := 19) X (C := RX4) k11 (by decide) (by decide) rfl e13 dX8_rises_19 ?_
    refine g_astore_n (pc := 20) X (lv' := [(2, rf V a12), (0, rf V v0), (1, .int v1)]) dX8_rises_20 (by decide) rfl ?_
    refine g_aload_n (pc := 21) X 0 rfl dX8_rises_21 ?_
    obtain ⟨k14, h⟩ := gd_i h
    obtain ⟨r15, w16, h17, h⟩ := bd2_i h
    refine g_callV (pc := 22) X FcX4 k14 mk_X4_sitsNow q_373 q_374 q_469 (c_X4_sitsNow h17) rfl rfl (by rw [Y.2.1]; decide)  rfl (rest := []) rfl (Nat.le_of_ble_eq_true rfl) (by rw [Y.2.1]; exact ⟨Nat.le_of_ble_eq_true rfl, Nat.le_of_ble_eq_true rfl⟩) dX8_rises_22 (st' := [.int r15]) rfl ?_
    refine g_if_ne (pc := 25) X (tgt := 31) dX8_rises_25 rfl (fun c => ?_) (fun c => ?_)
    · have h := br_n c h
      refine g_aload_n (pc := 31) X 0 rfl dX8_rises_31 ?_
      obtain ⟨k18, h⟩ := gd_i h
      refine g_getI (pc := 32) X FcX4 k18 1 (by decide) rfl q_139 dX8_rises_32 ?_
      obtain ⟨x19, e20, h⟩ := lb_i h
      refine g_top e20 ?_
      refine g_istore_n (pc := 35) X (lv' := [(3, .int x19), (2, rf V a12), (0, rf V v0), (1, .int v1)]) dX8_rises_35 (by decide) rfl ?_
      refine g_aload_n (pc := 36) X 1 rfl dX8_rises_36 ?_
      refine g_iconst (pc := 37) X (v := (-1)) dX8_rises_37 rfl ?_
      refine g_putI (pc := 38) X FcX4 k18 1 (by decide) rfl q_139 rfl rfl rfl dX8_rises_38 ?_
      obtain ⟨w21, e22, h⟩ := lb_i h
      refine g_w e22 ?_
      refine g_iload_n (pc := 41) X 0 rfl dX8_rises_41 ?_
      obtain ⟨e1, e2⟩ := rt_i h
      exact g_iret (pc := 42) X Y.2.2.1 (Nat.le_of_ble_eq_true rfl) (Nat.le_of_ble_eq_true rfl) e1 e2 dX8_rises_42
    · have h := br_y c h
      refine g_ldc (pc := 28) X q_470 dX8_rises_28 ?_
      obtain ⟨e1, e2⟩ := rt_i h
      exact g_iret (pc := 30) X Y.2.2.1 (Nat.le_of_ble_eq_true rfl) (Nat.le_of_ble_eq_true rfl) e1 e2 dX8_rises_30
  · have h := br_y c h
    refine g_ldc (pc := 8) X q_359 dX8_rises_8 ?_
    obtain ⟨e1, e2⟩ := rt_i h
    exact g_iret (pc := 10) X Y.2.2.1 (Nat.le_of_ble_eq_true rfl) (Nat.le_of_ble_eq_true rfl) e1 e2 dX8_rises_10

def L_X8_who_13  (n : Nat) (v0 : Nat) (v1 : Int32) (v2 : Int32) (w : Wd) : Option (Int32 × Wd) := match n with
  | 0 => none
  | n + 1 => (if wK w v0 = 8 then
 (bd1 (wR w v0 0) fun a6 =>
 (if wK w a6 = 1 then
 (if (wI w a6 2) ≤ v2 then
 some ((-1000000005), w)
 else
 (bd1 (wR w v0 0) fun a9 =>
 (bd1 (wR w v0 0) fun a11 =>
 (if wK w a11 = 1 then
 (bd1 (wR w a11 1) fun a14 =>
 (if aK 14 w a14 v2 = true then
 (bd1 (wR w a14 (nx v2)) fun a17 =>
 (if wK w a9 = 1 then
 (bd2 (f_X1_placesOf a9 a17 w) fun r20 w21 =>
 (bd2 (f_X8_has r20 v1 w21) fun r23 w24 =>
 (if r23 = 0 then
 (lb_ (v2 + 1) fun x26 =>
 L_X8_who_13 n v0 v1 x26 w24)
 else
 some (v2, w24))))
 else none))
 else none))
 else none))))
 else none))
 else none)
theorem bL_X8_who_13 {t : Ct} {V : Vt} {r : Int32} {w' : Wd} (Y : Hd_ t V cX8_who 3 RX8 { frames := 2, cells := 0, slots := 0, locals := 44 } (some .int) "who") : ∀ {n : Nat} {v0 : Nat} {v1 : Int32} {v2 : Int32} {w : Wd}, L_X8_who_13  n v0 v1 v2 w = some (r, w') → Gd t V 3 0 0 (Qe t V (some (.int r)) w' 0 0) 13 [(0, rf V v0), (1, .int v1), (2, .int v2)] [] w := by
  have X := Y.1
  intro n
  induction n with
  | zero => intro v0 v1 v2 w h; cases h
  | succ n ih0 =>
    have ih : ∀ (v0 : Nat) (v1 : Int32) (v2 : Int32) (w : Wd), L_X8_who_13  n v0 v1 v2 w = some (r, w') → Gd t V 3 0 0 (Qe t V (some (.int r)) w' 0 0) 13 [(0, rf V v0), (1, .int v1), (2, .int v2)] [] w := fun v0 v1 v2 w h => ih0 h
    clear ih0
    intro v0 v1 v2 w h
    unfold L_X8_who_13 at h
    refine g_iload_n (pc := 13) X 2 rfl dX8_who_13 ?_
    refine g_aload_n (pc := 14) X 0 rfl dX8_who_14 ?_
    obtain ⟨k5, h⟩ := gd_i h
    obtain ⟨a6, e7, h⟩ := bd1_i h
    refine g_getR (pc := 15) X FcX8 k5 0 e7 (by decide) rfl q_321 dX8_who_15 ?_
    obtain ⟨k8, h⟩ := gd_i h
    refine g_getI (pc := 18) X FcX1 k8 2 (by decide) rfl q_162 dX8_who_18 ?_
    refine g_icmp_ge (pc := 21) X (tgt := 55) dX8_who_21 rfl (fun c => ?_) (fun c => ?_)
    · have h := br_y c h
      refine g_ldc (pc := 55) X q_516 dX8_who_55 ?_
      obtain ⟨e1, e2⟩ := rt_i h
      exact g_iret (pc := 57) X Y.2.2.1 (Nat.le_of_ble_eq_true rfl) (Nat.le_of_ble_eq_true rfl) e1 e2 dX8_who_57
    · have h := br_n c h
      refine g_aload_n (pc := 24) X 0 rfl dX8_who_24 ?_
      obtain ⟨a9, e10, h⟩ := bd1_i h
      refine g_getR (pc := 25) X FcX8 k5 0 e10 (by decide) rfl q_321 dX8_who_25 ?_
      refine g_aload_n (pc := 28) X 0 rfl dX8_who_28 ?_
      obtain ⟨a11, e12, h⟩ := bd1_i h
      refine g_getR (pc := 29) X FcX8 k5 0 e12 (by decide) rfl q_321 dX8_who_29 ?_
      obtain ⟨k13, h⟩ := gd_i h
      obtain ⟨a14, e15, h⟩ := bd1_i h
      refine g_getR (pc := 32) X FcX1 k13 1 e15 (by decide) rfl q_160 dX8_who_32 ?_
      refine g_iload_n (pc := 35) X 2 rfl dX8_who_35 ?_
      obtain ⟨k16, h⟩ := gd_i h
      obtain ⟨a17, e18, h⟩ := bd1_i h
      refine g_aald (pc := 36) X (C := RX4) k16 (by decide) (by decide) rfl e18 dX8_who_36 ?_
      obtain ⟨k19, h⟩ := gd_i h
      obtain ⟨r20, w21, h22, h⟩ := bd2_i h
      refine g_callV (pc := 37) X FcX1 k19 mk_X1_placesOf q_411 q_412 q_410 (c_X1_placesOf h22) rfl rfl (by rw [Y.2.1]; decide)  rfl (rest := []) rfl (Nat.le_of_ble_eq_true rfl) (by rw [Y.2.1]; exact ⟨Nat.le_of_ble_eq_true rfl, Nat.le_of_ble_eq_true rfl⟩) dX8_who_37 (st' := [.int r20]) rfl ?_
      refine g_iload_n (pc := 40) X 1 rfl dX8_who_40 ?_
      obtain ⟨r23, w24, h25, h⟩ := bd2_i h
      refine g_callS (pc := 41) X mk_X8_has q_480 q_479 (c_X8_has h25) rfl rfl (by rw [Y.2.1]; decide)  rfl (rest := []) rfl (Nat.le_of_ble_eq_true rfl) (by rw [Y.2.1]; exact ⟨Nat.le_of_ble_eq_true rfl, Nat.le_of_ble_eq_true rfl⟩) dX8_who_41 (st' := [.int r23]) rfl ?_
      refine g_if_eq (pc := 44) X (tgt := 49) dX8_who_44 rfl (fun c => ?_) (fun c => ?_)
      · have h := br_y c h
        obtain ⟨x26, e27, h⟩ := lb_i h
        refine g_iinc (pc := 49) X 2 rfl dX8_who_49 (v := x26) e27.symm (by decide) (lv' := [(2, .int x26), (0, rf V v0), (1, .int v1)]) rfl ?_
        refine g_goto (pc := 52) X (tgt := 13) dX8_who_52 rfl ?_
        refine g_sub (lv' := [(0, rf V v0), (1, .int v1), (2, .int x26)]) [1, 2, 0] rfl ?_
        exact ih _ _ _ _ h
      · have h := br_n c h
        refine g_iload_n (pc := 47) X 2 rfl dX8_who_47 ?_
        obtain ⟨e1, e2⟩ := rt_i h
        exact g_iret (pc := 48) X Y.2.2.1 (Nat.le_of_ble_eq_true rfl) (Nat.le_of_ble_eq_true rfl) e1 e2 dX8_who_48

def f_X8_who (v0 : Nat) (v1 : Int32) (w : Wd) : Option (Int32 × Wd) := (if wK w v0 = 8 then
 (bd2 (f_X8_isPlace v0 v1 w) fun r2 w3 =>
 (if r2 = 0 then
 some ((-1000000001), w3)
 else
 L_X8_who_13 FU v0 v1 0 w3))
 else none)
theorem c_X8_who {l : Launch} {V : Vt} {v0 : Nat} {v1 : Int32} {w w' : Wd} {r : Int32} (h : f_X8_who v0 v1 w = some (r, w')) : MetW l V yX8_who cX8_who 3 (some .int) { frames := 2, cells := 0, slots := 0, locals := 44 } w [rf V v0, .int v1] (some (.int r)) w' 0 0 := by
  refine g_start (by decide) (Nat.le_of_ble_eq_true rfl) ?_
  intro t _ hrm X hret hnm
  have Y : Hd_ t V cX8_who 3 RX8 { frames := 2, cells := 0, slots := 0, locals := 44 } (some .int) "who" := ⟨X, hrm, hret, hnm⟩
  refine g_as (lv' := [(0, rf V v0), (1, .int v1)]) (st' := []) rfl rfl ?_
  unfold f_X8_who at h
  refine g_aload_n (pc := 0) X 0 rfl dX8_who_0 ?_
  refine g_iload_n (pc := 1) X 1 rfl dX8_who_1 ?_
  obtain ⟨k1, h⟩ := gd_i h
  obtain ⟨r2, w3, h4, h⟩ := bd2_i h
  refine g_callV (pc := 2) X FcX8 k1 mk_X8_isPlace q_477 q_1 q_475 (c_X8_isPlace h4) rfl rfl (by rw [Y.2.1]; decide)  rfl (rest := []) rfl (Nat.le_of_ble_eq_true rfl) (by rw [Y.2.1]; exact ⟨Nat.le_of_ble_eq_true rfl, Nat.le_of_ble_eq_true rfl⟩) dX8_who_2 (st' := [.int r2]) rfl ?_
  refine g_if_ne (pc := 5) X (tgt := 11) dX8_who_5 rfl (fun c => ?_) (fun c => ?_)
  · have h := br_n c h
    refine g_iconst (pc := 11) X (v := 0) dX8_who_11 rfl ?_
    refine g_istore_n (pc := 12) X (lv' := [(2, .int 0), (0, rf V v0), (1, .int v1)]) dX8_who_12 (by decide) rfl ?_
    refine g_sub (lv' := [(0, rf V v0), (1, .int v1), (2, .int 0)]) [1, 2, 0] rfl ?_
    exact bL_X8_who_13 Y  h
  · have h := br_y c h
    refine g_ldc (pc := 8) X q_359 dX8_who_8 ?_
    obtain ⟨e1, e2⟩ := rt_i h
    exact g_iret (pc := 10) X Y.2.2.1 (Nat.le_of_ble_eq_true rfl) (Nat.le_of_ble_eq_true rfl) e1 e2 dX8_who_10

def f_X8_cushion (v0 : Nat) (v1 : Int32) (v2 : Int32) (w : Wd) : Option (Int32 × Wd) := (if wK w v0 = 8 then
 (bd2 (f_X8_isPlace v0 v1 w) fun r2 w3 =>
 (if r2 = 0 then
 some ((-1000000001), w3)
 else
 (bd2 (f_X8_isWithin v2 0 99 w3) fun r5 w6 =>
 (if r5 = 0 then
 some ((-1000000001), w6)
 else
 (if wK w6 v0 = 8 then
 (bd1 (wR w6 v0 0) fun a9 =>
 (if wK w6 a9 = 1 then
 (bd1 (wR w6 a9 3) fun a12 =>
 (if aK 11 w6 a12 v1 = true then
 (lb_ (wI w6 a12 (nx v1)) fun x15 =>
 (bd1 (wR w6 v0 0) fun a17 =>
 (if wK w6 a17 = 1 then
 (bd1 (wR w6 a17 3) fun a20 =>
 (if aK 11 w6 a20 v1 = true then
 (lb_ (sI w6 a20 (nx v1) v2) fun w23 =>
 some (x15, w23))
 else none))
 else none)))
 else none))
 else none))
 else none)))))
 else none)
theorem c_X8_cushion {l : Launch} {V : Vt} {v0 : Nat} {v1 : Int32} {v2 : Int32} {w w' : Wd} {r : Int32} (h : f_X8_cushion v0 v1 v2 w = some (r, w')) : MetW l V yX8_cushion cX8_cushion 4 (some .int) { frames := 2, cells := 0, slots := 0, locals := 43 } w [rf V v0, .int v1, .int v2] (some (.int r)) w' 0 0 := by
  refine g_start (by decide) (Nat.le_of_ble_eq_true rfl) ?_
  intro t _ hrm X hret hnm
  have Y : Hd_ t V cX8_cushion 4 RX8 { frames := 2, cells := 0, slots := 0, locals := 43 } (some .int) "cushion" := ⟨X, hrm, hret, hnm⟩
  refine g_as (lv' := [(0, rf V v0), (1, .int v1), (2, .int v2)]) (st' := []) rfl rfl ?_
  unfold f_X8_cushion at h
  refine g_aload_n (pc := 0) X 0 rfl dX8_cushion_0 ?_
  refine g_iload_n (pc := 1) X 1 rfl dX8_cushion_1 ?_
  obtain ⟨k1, h⟩ := gd_i h
  obtain ⟨r2, w3, h4, h⟩ := bd2_i h
  refine g_callV (pc := 2) X FcX8 k1 mk_X8_isPlace q_477 q_1 q_475 (c_X8_isPlace h4) rfl rfl (by rw [Y.2.1]; decide)  rfl (rest := []) rfl (Nat.le_of_ble_eq_true rfl) (by rw [Y.2.1]; exact ⟨Nat.le_of_ble_eq_true rfl, Nat.le_of_ble_eq_true rfl⟩) dX8_cushion_2 (st' := [.int r2]) rfl ?_
  refine g_if_eq (pc := 5) X (tgt := 18) dX8_cushion_5 rfl (fun c => ?_) (fun c => ?_)
  · have h := br_y c h
    refine g_ldc (pc := 18) X q_359 dX8_cushion_18 ?_
    obtain ⟨e1, e2⟩ := rt_i h
    exact g_iret (pc := 20) X Y.2.2.1 (Nat.le_of_ble_eq_true rfl) (Nat.le_of_ble_eq_true rfl) e1 e2 dX8_cushion_20
  · have h := br_n c h
    refine g_iload_n (pc := 8) X 2 rfl dX8_cushion_8 ?_
    refine g_iconst (pc := 9) X (v := 0) dX8_cushion_9 rfl ?_
    refine g_bipush (pc := 10) X (v := 99) dX8_cushion_10 rfl ?_
    obtain ⟨r5, w6, h7, h⟩ := bd2_i h
    refine g_callS (pc := 12) X mk_X8_isWithin q_357 q_356 (c_X8_isWithin h7) rfl rfl (by rw [Y.2.1]; decide)  rfl (rest := []) rfl (Nat.le_of_ble_eq_true rfl) (by rw [Y.2.1]; exact ⟨Nat.le_of_ble_eq_true rfl, Nat.le_of_ble_eq_true rfl⟩) dX8_cushion_12 (st' := [.int r5]) rfl ?_
    refine g_if_ne (pc := 15) X (tgt := 21) dX8_cushion_15 rfl (fun c => ?_) (fun c => ?_)
    · have h := br_n c h
      refine g_aload_n (pc := 21) X 0 rfl dX8_cushion_21 ?_
      obtain ⟨k8, h⟩ := gd_i h
      obtain ⟨a9, e10, h⟩ := bd1_i h
      refine g_getR (pc := 22) X FcX8 k8 0 e10 (by decide) rfl q_321 dX8_cushion_22 ?_
      obtain ⟨k11, h⟩ := gd_i h
      obtain ⟨a12, e13, h⟩ := bd1_i h
      refine g_getR (pc := 25) X FcX1 k11 3 e13 (by decide) rfl q_165 dX8_cushion_25 ?_
      refine g_iload_n (pc := 28) X 1 rfl dX8_cushion_28 ?_
      obtain ⟨k14, h⟩ := gd_i h
      refine g_iald (pc := 29) X k14 dX8_cushion_29 ?_
      obtain ⟨x15, e16, h⟩ := lb_i h
      refine g_top e16 ?_
      refine g_istore_n (pc := 30) X (lv' := [(3, .int x15), (0, rf V v0), (1, .int v1), (2, .int v2)]) dX8_cushion_30 (by decide) rfl ?_
      refine g_aload_n (pc := 31) X 1 rfl dX8_cushion_31 ?_
      obtain ⟨a17, e18, h⟩ := bd1_i h
      refine g_getR (pc := 32) X FcX8 k8 0 e18 (by decide) rfl q_321 dX8_cushion_32 ?_
      obtain ⟨k19, h⟩ := gd_i h
      obtain ⟨a20, e21, h⟩ := bd1_i h
      refine g_getR (pc := 35) X FcX1 k19 3 e21 (by decide) rfl q_165 dX8_cushion_35 ?_
      refine g_iload_n (pc := 38) X 2 rfl dX8_cushion_38 ?_
      refine g_iload_n (pc := 39) X 3 rfl dX8_cushion_39 ?_
      obtain ⟨k22, h⟩ := gd_i h
      refine g_iast (pc := 40) X k22 dX8_cushion_40 ?_
      obtain ⟨w23, e24, h⟩ := lb_i h
      refine g_w e24 ?_
      refine g_iload_n (pc := 41) X 0 rfl dX8_cushion_41 ?_
      obtain ⟨e1, e2⟩ := rt_i h
      exact g_iret (pc := 42) X Y.2.2.1 (Nat.le_of_ble_eq_true rfl) (Nat.le_of_ble_eq_true rfl) e1 e2 dX8_cushion_42
    · have h := br_y c h
      refine g_ldc (pc := 18) X q_359 dX8_cushion_18 ?_
      obtain ⟨e1, e2⟩ := rt_i h
      exact g_iret (pc := 20) X Y.2.2.1 (Nat.le_of_ble_eq_true rfl) (Nat.le_of_ble_eq_true rfl) e1 e2 dX8_cushion_20

def f_X8_rule (v0 : Nat) (v1 : Int32) (v2 : Int32) (w : Wd) : Option (Int32 × Wd) := (bd2 (f_X8_isWithin v1 0 3 w) fun r1 w2 =>
 (if r1 = 0 then
 some ((-1000000001), w2)
 else
 (if ib v1 4 = true then
 (bd2 (f_X8_isWithin v2 0 (rtL.getD (nx v1) 0) w2) fun r5 w6 =>
 (if r5 = 0 then
 some ((-1000000001), w6)
 else
 (if wK w6 v0 = 8 then
 (bd1 (wR w6 v0 0) fun a9 =>
 (if wK w6 a9 = 1 then
 (bd1 (wR w6 a9 4) fun a12 =>
 (if aK 11 w6 a12 v1 = true then
 (lb_ (wI w6 a12 (nx v1)) fun x15 =>
 (bd1 (wR w6 v0 0) fun a17 =>
 (if wK w6 a17 = 1 then
 (bd1 (wR w6 a17 4) fun a20 =>
 (if aK 11 w6 a20 v1 = true then
 (lb_ (sI w6 a20 (nx v1) v2) fun w23 =>
 some (x15, w23))
 else none))
 else none)))
 else none))
 else none))
 else none)))
 else none)))
theorem c_X8_rule {l : Launch} {V : Vt} {v0 : Nat} {v1 : Int32} {v2 : Int32} {w w' : Wd} {r : Int32} (h : f_X8_rule v0 v1 v2 w = some (r, w')) : MetW l V yX8_rule cX8_rule 4 (some .int) { frames := 1, cells := 0, slots := 0, locals := 22 } w [rf V v0, .int v1, .int v2] (some (.int r)) w' 0 0 := by
  refine g_start (by decide) (Nat.le_of_ble_eq_true rfl) ?_
  intro t _ hrm X hret hnm
  have Y : Hd_ t V cX8_rule 4 RX8 { frames := 1, cells := 0, slots := 0, locals := 22 } (some .int) "rule" := ⟨X, hrm, hret, hnm⟩
  refine g_as (lv' := [(0, rf V v0), (1, .int v1), (2, .int v2)]) (st' := []) rfl rfl ?_
  unfold f_X8_rule at h
  refine g_iload_n (pc := 0) X 1 rfl dX8_rule_0 ?_
  refine g_iconst (pc := 1) X (v := 0) dX8_rule_1 rfl ?_
  refine g_iconst (pc := 2) X (v := 3) dX8_rule_2 rfl ?_
  obtain ⟨r1, w2, h3, h⟩ := bd2_i h
  refine g_callS (pc := 3) X mk_X8_isWithin q_357 q_356 (c_X8_isWithin h3) rfl rfl (by rw [Y.2.1]; decide)  rfl (rest := []) rfl (Nat.le_of_ble_eq_true rfl) (by rw [Y.2.1]; exact ⟨Nat.le_of_ble_eq_true rfl, Nat.le_of_ble_eq_true rfl⟩) dX8_rule_3 (st' := [.int r1]) rfl ?_
  refine g_if_eq (pc := 6) X (tgt := 22) dX8_rule_6 rfl (fun c => ?_) (fun c => ?_)
  · have h := br_y c h
    refine g_ldc (pc := 22) X q_359 dX8_rule_22 ?_
    obtain ⟨e1, e2⟩ := rt_i h
    exact g_iret (pc := 24) X Y.2.2.1 (Nat.le_of_ble_eq_true rfl) (Nat.le_of_ble_eq_true rfl) e1 e2 dX8_rule_24
  · have h := br_n c h
    refine g_iload_n (pc := 9) X 2 rfl dX8_rule_9 ?_
    refine g_iconst (pc := 10) X (v := 0) dX8_rule_10 rfl ?_
    refine g_gets1 (pc := 11) X q_525 dX8_rule_11 ?_
    refine g_iload_n (pc := 14) X 1 rfl dX8_rule_14 ?_
    obtain ⟨k4, h⟩ := gd_i h
    refine g_ialoadS1 (pc := 15) X k4 dX8_rule_15 ?_
    obtain ⟨r5, w6, h7, h⟩ := bd2_i h
    refine g_callS (pc := 16) X mk_X8_isWithin q_357 q_356 (c_X8_isWithin h7) rfl rfl (by rw [Y.2.1]; decide)  rfl (rest := []) rfl (Nat.le_of_ble_eq_true rfl) (by rw [Y.2.1]; exact ⟨Nat.le_of_ble_eq_true rfl, Nat.le_of_ble_eq_true rfl⟩) dX8_rule_16 (st' := [.int r5]) rfl ?_
    refine g_if_ne (pc := 19) X (tgt := 25) dX8_rule_19 rfl (fun c => ?_) (fun c => ?_)
    · have h := br_n c h
      refine g_aload_n (pc := 25) X 0 rfl dX8_rule_25 ?_
      obtain ⟨k8, h⟩ := gd_i h
      obtain ⟨a9, e10, h⟩ := bd1_i h
      refine g_getR (pc := 26) X FcX8 k8 0 e10 (by decide) rfl q_321 dX8_rule_26 ?_
      obtain ⟨k11, h⟩ := gd_i h
      obtain ⟨a12, e13, h⟩ := bd1_i h
      refine g_getR (pc := 29) X FcX1 k11 4 e13 (by decide) rfl q_168 dX8_rule_29 ?_
      refine g_iload_n (pc := 32) X 1 rfl dX8_rule_32 ?_
      obtain ⟨k14, h⟩ := gd_i h
      refine g_iald (pc := 33) X k14 dX8_rule_33 ?_
      obtain ⟨x15, e16, h⟩ := lb_i h
      refine g_top e16 ?_
      refine g_istore_n (pc := 34) X (lv' := [(3, .int x15), (0, rf V v0), (1, .int v1), (2, .int v2)]) dX8_rule_34 (by decide) rfl ?_
      refine g_aload_n (pc := 35) X 1 rfl dX8_rule_35 ?_
      obtain ⟨a17, e18, h⟩ := bd1_i h
      refine g_getR (pc := 36) X FcX8 k8 0 e18 (by decide) rfl q_321 dX8_rule_36 ?_
      obtain ⟨k19, h⟩ := gd_i h
      obtain ⟨a20, e21, h⟩ := bd1_i h
      refine g_getR (pc := 39) X FcX1 k19 4 e21 (by decide) rfl q_168 dX8_rule_39 ?_
      refine g_iload_n (pc := 42) X 2 rfl dX8_rule_42 ?_
      refine g_iload_n (pc := 43) X 3 rfl dX8_rule_43 ?_
      obtain ⟨k22, h⟩ := gd_i h
      refine g_iast (pc := 44) X k22 dX8_rule_44 ?_
      obtain ⟨w23, e24, h⟩ := lb_i h
      refine g_w e24 ?_
      refine g_iload_n (pc := 45) X 0 rfl dX8_rule_45 ?_
      obtain ⟨e1, e2⟩ := rt_i h
      exact g_iret (pc := 46) X Y.2.2.1 (Nat.le_of_ble_eq_true rfl) (Nat.le_of_ble_eq_true rfl) e1 e2 dX8_rule_46
    · have h := br_y c h
      refine g_ldc (pc := 22) X q_359 dX8_rule_22 ?_
      obtain ⟨e1, e2⟩ := rt_i h
      exact g_iret (pc := 24) X Y.2.2.1 (Nat.le_of_ble_eq_true rfl) (Nat.le_of_ble_eq_true rfl) e1 e2 dX8_rule_24

def L_X8_deal_30  (n : Nat) (v0 : Nat) (v2 : Int32) (v3 : Int32) (w : Wd) : Option (Int32 × Wd) := match n with
  | 0 => none
  | n + 1 => (if v2 ≤ v3 then
 some (v2, w)
 else
 (if wK w v0 = 8 then
 (bd1 (wR w v0 0) fun a11 =>
 (bd1 (wR w v0 0) fun a13 =>
 (if wK w a13 = 1 then
 (bd2 (f_X1_draw a13 w) fun r16 w17 =>
 (if wK w17 a11 = 1 then
 (bd2 (f_X1_welcome a11 (irem r16 6) w17) fun r20 w21 =>
 (lb_ (v3 + 1) fun x23 =>
 L_X8_deal_30 n v0 v2 x23 w21))
 else none))
 else none)))
 else none))
theorem bL_X8_deal_30 {t : Ct} {V : Vt} {r : Int32} {w' : Wd} (Y : Hd_ t V cX8_deal 4 RX8 { frames := 2, cells := 0, slots := 0, locals := 42 } (some .int) "deal") : ∀ {n : Nat} {v0 : Nat} {v2 : Int32} {v3 : Int32} {w : Wd}, L_X8_deal_30  n v0 v2 v3 w = some (r, w') → Gd t V 4 0 0 (Qe t V (some (.int r)) w' 0 0) 30 [(0, rf V v0), (2, .int v2), (3, .int v3)] [] w := by
  have X := Y.1
  intro n
  induction n with
  | zero => intro v0 v2 v3 w h; cases h
  | succ n ih0 =>
    have ih : ∀ (v0 : Nat) (v2 : Int32) (v3 : Int32) (w : Wd), L_X8_deal_30  n v0 v2 v3 w = some (r, w') → Gd t V 4 0 0 (Qe t V (some (.int r)) w' 0 0) 30 [(0, rf V v0), (2, .int v2), (3, .int v3)] [] w := fun v0 v2 v3 w h => ih0 h
    clear ih0
    intro v0 v2 v3 w h
    unfold L_X8_deal_30 at h
    refine g_iload_n (pc := 30) X 2 rfl dX8_deal_30 ?_
    refine g_iload_n (pc := 31) X 1 rfl dX8_deal_31 ?_
    refine g_icmp_ge (pc := 32) X (tgt := 59) dX8_deal_32 rfl (fun c => ?_) (fun c => ?_)
    · have h := br_y c h
      refine g_iload_n (pc := 59) X 1 rfl dX8_deal_59 ?_
      obtain ⟨e1, e2⟩ := rt_i h
      exact g_iret (pc := 60) X Y.2.2.1 (Nat.le_of_ble_eq_true rfl) (Nat.le_of_ble_eq_true rfl) e1 e2 dX8_deal_60
    · have h := br_n c h
      refine g_aload_n (pc := 35) X 0 rfl dX8_deal_35 ?_
      obtain ⟨k10, h⟩ := gd_i h
      obtain ⟨a11, e12, h⟩ := bd1_i h
      refine g_getR (pc := 36) X FcX8 k10 0 e12 (by decide) rfl q_321 dX8_deal_36 ?_
      refine g_aload_n (pc := 39) X 0 rfl dX8_deal_39 ?_
      obtain ⟨a13, e14, h⟩ := bd1_i h
      refine g_getR (pc := 40) X FcX8 k10 0 e14 (by decide) rfl q_321 dX8_deal_40 ?_
      obtain ⟨k15, h⟩ := gd_i h
      obtain ⟨r16, w17, h18, h⟩ := bd2_i h
      refine g_callV (pc := 43) X FcX1 k15 mk_X1_draw q_535 q_536 q_534 (c_X1_draw h18) rfl rfl (by rw [Y.2.1]; decide)  rfl (rest := [rf V a11]) rfl (Nat.le_of_ble_eq_true rfl) (by rw [Y.2.1]; exact ⟨Nat.le_of_ble_eq_true rfl, Nat.le_of_ble_eq_true rfl⟩) dX8_deal_43 (st' := [.int r16, rf V a11]) rfl ?_
      refine g_bipush (pc := 46) X (v := 6) dX8_deal_46 rfl ?_
      refine g_irem (pc := 48) X (by decide) dX8_deal_48 ?_
      obtain ⟨k19, h⟩ := gd_i h
      obtain ⟨r20, w21, h22, h⟩ := bd2_i h
      refine g_callV (pc := 49) X FcX1 k19 mk_X1_welcome q_394 q_395 q_393 (c_X1_welcome h22) rfl rfl (by rw [Y.2.1]; decide)  rfl (rest := []) rfl (Nat.le_of_ble_eq_true rfl) (by rw [Y.2.1]; exact ⟨Nat.le_of_ble_eq_true rfl, Nat.le_of_ble_eq_true rfl⟩) dX8_deal_49 (st' := [.int r20]) rfl ?_
      refine g_pop (pc := 52) X rfl dX8_deal_52 ?_
      obtain ⟨x23, e24, h⟩ := lb_i h
      refine g_iinc (pc := 53) X 2 rfl dX8_deal_53 (v := x23) e24.symm (by decide) (lv' := [(3, .int x23), (0, rf V v0), (2, .int v2)]) rfl ?_
      refine g_goto (pc := 56) X (tgt := 30) dX8_deal_56 rfl ?_
      refine g_sub (lv' := [(0, rf V v0), (2, .int v2), (3, .int x23)]) [1, 2, 0] rfl ?_
      exact ih _ _ _ _ h

def f_X8_deal (v0 : Nat) (v1 : Int32) (w : Wd) : Option (Int32 × Wd) := (bd2 (f_X8_isWithin v1 1 12 w) fun r1 w2 =>
 (if r1 = 0 then
 some ((-1000000001), w2)
 else
 (if wK w2 v0 = 8 then
 (bd1 (wR w2 v0 0) fun a5 =>
 (if wK w2 a5 = 1 then
 (lb_ (if 12 - (wI w2 a5 2) < v1 then 12 - (wI w2 a5 2) else v1) fun x8 =>
 L_X8_deal_30 FU v0 x8 0 w2)
 else none))
 else none)))
theorem c_X8_deal {l : Launch} {V : Vt} {v0 : Nat} {v1 : Int32} {w w' : Wd} {r : Int32} (h : f_X8_deal v0 v1 w = some (r, w')) : MetW l V yX8_deal cX8_deal 4 (some .int) { frames := 2, cells := 0, slots := 0, locals := 42 } w [rf V v0, .int v1] (some (.int r)) w' 0 0 := by
  refine g_start (by decide) (Nat.le_of_ble_eq_true rfl) ?_
  intro t _ hrm X hret hnm
  have Y : Hd_ t V cX8_deal 4 RX8 { frames := 2, cells := 0, slots := 0, locals := 42 } (some .int) "deal" := ⟨X, hrm, hret, hnm⟩
  refine g_as (lv' := [(0, rf V v0), (1, .int v1)]) (st' := []) rfl rfl ?_
  unfold f_X8_deal at h
  refine g_iload_n (pc := 0) X 1 rfl dX8_deal_0 ?_
  refine g_iconst (pc := 1) X (v := 1) dX8_deal_1 rfl ?_
  refine g_bipush (pc := 2) X (v := 12) dX8_deal_2 rfl ?_
  obtain ⟨r1, w2, h3, h⟩ := bd2_i h
  refine g_callS (pc := 4) X mk_X8_isWithin q_357 q_356 (c_X8_isWithin h3) rfl rfl (by rw [Y.2.1]; decide)  rfl (rest := []) rfl (Nat.le_of_ble_eq_true rfl) (by rw [Y.2.1]; exact ⟨Nat.le_of_ble_eq_true rfl, Nat.le_of_ble_eq_true rfl⟩) dX8_deal_4 (st' := [.int r1]) rfl ?_
  refine g_if_ne (pc := 7) X (tgt := 13) dX8_deal_7 rfl (fun c => ?_) (fun c => ?_)
  · have h := br_n c h
    refine g_iload_n (pc := 13) X 1 rfl dX8_deal_13 ?_
    refine g_bipush (pc := 14) X (v := 12) dX8_deal_14 rfl ?_
    refine g_aload_n (pc := 16) X 0 rfl dX8_deal_16 ?_
    obtain ⟨k4, h⟩ := gd_i h
    obtain ⟨a5, e6, h⟩ := bd1_i h
    refine g_getR (pc := 17) X FcX8 k4 0 e6 (by decide) rfl q_321 dX8_deal_17 ?_
    obtain ⟨k7, h⟩ := gd_i h
    refine g_getI (pc := 20) X FcX1 k7 2 (by decide) rfl q_162 dX8_deal_20 ?_
    refine g_isub (pc := 23) X dX8_deal_23 ?_
    refine g_mmin (pc := 24) X q_531 q_532 q_75 q_533 (by rw [Y.2.1]; decide) (by rw [Y.2.1]; exact Nat.le_of_ble_eq_true rfl) (by rw [Y.2.1]; exact ⟨Nat.le_of_ble_eq_true rfl, Nat.le_of_ble_eq_true rfl⟩) dX8_deal_24 ?_
    obtain ⟨x8, e9, h⟩ := lb_i h
    refine g_top e9 ?_
    refine g_istore_n (pc := 27) X (lv' := [(2, .int x8), (0, rf V v0), (1, .int v1)]) dX8_deal_27 (by decide) rfl ?_
    refine g_iconst (pc := 28) X (v := 0) dX8_deal_28 rfl ?_
    refine g_istore_n (pc := 29) X (lv' := [(3, .int 0), (2, .int x8), (0, rf V v0), (1, .int v1)]) dX8_deal_29 (by decide) rfl ?_
    refine g_sub (lv' := [(0, rf V v0), (2, .int x8), (3, .int 0)]) [2, 1, 0] rfl ?_
    exact bL_X8_deal_30 Y  h
  · have h := br_y c h
    refine g_ldc (pc := 10) X q_359 dX8_deal_10 ?_
    obtain ⟨e1, e2⟩ := rt_i h
    exact g_iret (pc := 12) X Y.2.2.1 (Nat.le_of_ble_eq_true rfl) (Nat.le_of_ble_eq_true rfl) e1 e2 dX8_deal_12

def f_X8_seed (v0 : Nat) (v1 : Int32) (w : Wd) : Option (Int32 × Wd) := (if wK w v0 = 8 then
 (bd1 (wR w v0 0) fun a2 =>
 (if wK w a2 = 1 then
 (lb_ (wI w a2 7) fun x5 =>
 (bd1 (wR w v0 0) fun a7 =>
 (if wK w a7 = 1 then
 (lb_ (sI w a7 7 v1) fun w10 =>
 some (x5, w10))
 else none)))
 else none))
 else none)
theorem c_X8_seed {l : Launch} {V : Vt} {v0 : Nat} {v1 : Int32} {w w' : Wd} {r : Int32} (h : f_X8_seed v0 v1 w = some (r, w')) : MetW l V yX8_seed cX8_seed 3 (some .int) { frames := 0, cells := 0, slots := 0, locals := 0 } w [rf V v0, .int v1] (some (.int r)) w' 0 0 := by
  refine g_start (by decide) (Nat.le_of_ble_eq_true rfl) ?_
  intro t _ hrm X hret hnm
  have Y : Hd_ t V cX8_seed 3 RX8 { frames := 0, cells := 0, slots := 0, locals := 0 } (some .int) "seed" := ⟨X, hrm, hret, hnm⟩
  refine g_as (lv' := [(0, rf V v0), (1, .int v1)]) (st' := []) rfl rfl ?_
  unfold f_X8_seed at h
  refine g_aload_n (pc := 0) X 0 rfl dX8_seed_0 ?_
  obtain ⟨k1, h⟩ := gd_i h
  obtain ⟨a2, e3, h⟩ := bd1_i h
  refine g_getR (pc := 1) X FcX8 k1 0 e3 (by decide) rfl q_321 dX8_seed_1 ?_
  obtain ⟨k4, h⟩ := gd_i h
  refine g_getI (pc := 4) X FcX1 k4 7 (by decide) rfl q_174 dX8_seed_4 ?_
  obtain ⟨x5, e6, h⟩ := lb_i h
  refine g_top e6 ?_
  refine g_istore_n (pc := 7) X (lv' := [(2, .int x5), (0, rf V v0), (1, .int v1)]) dX8_seed_7 (by decide) rfl ?_
  refine g_aload_n (pc := 8) X 1 rfl dX8_seed_8 ?_
  obtain ⟨a7, e8, h⟩ := bd1_i h
  refine g_getR (pc := 9) X FcX8 k1 0 e8 (by decide) rfl q_321 dX8_seed_9 ?_
  refine g_iload_n (pc := 12) X 2 rfl dX8_seed_12 ?_
  obtain ⟨k9, h⟩ := gd_i h
  refine g_putI (pc := 13) X FcX1 k9 7 (by decide) rfl q_174 rfl rfl rfl dX8_seed_13 ?_
  obtain ⟨w10, e11, h⟩ := lb_i h
  refine g_w e11 ?_
  refine g_iload_n (pc := 16) X 0 rfl dX8_seed_16 ?_
  obtain ⟨e1, e2⟩ := rt_i h
  exact g_iret (pc := 17) X Y.2.2.1 (Nat.le_of_ble_eq_true rfl) (Nat.le_of_ble_eq_true rfl) e1 e2 dX8_seed_17

def f_X8_minutes (v0 : Nat) (v1 : Int32) (w : Wd) : Option (Int32 × Wd) := (bd2 (f_X8_isWithin v1 1 100 w) fun r1 w2 =>
 (if r1 = 0 then
 some ((-1000000001), w2)
 else
 (if wK w2 v0 = 8 then
 (bd1 (wR w2 v0 0) fun a5 =>
 (bd1 (wR w2 v0 0) fun a7 =>
 (if wK w2 a7 = 1 then
 (if wK w2 a5 = 1 then
 (bd2 (f_X1_pass a5 (if 9999 - (wI w2 a7 6) < v1 then 9999 - (wI w2 a7 6) else v1) w2) fun r11 w12 =>
 some (r11, w12))
 else none)
 else none)))
 else none)))
theorem c_X8_minutes {l : Launch} {V : Vt} {v0 : Nat} {v1 : Int32} {w w' : Wd} {r : Int32} (h : f_X8_minutes v0 v1 w = some (r, w')) : MetW l V yX8_minutes cX8_minutes 2 (some .int) { frames := 7, cells := 0, slots := 0, locals := 162 } w [rf V v0, .int v1] (some (.int r)) w' 0 0 := by
  refine g_start (by decide) (Nat.le_of_ble_eq_true rfl) ?_
  intro t _ hrm X hret hnm
  have Y : Hd_ t V cX8_minutes 2 RX8 { frames := 7, cells := 0, slots := 0, locals := 162 } (some .int) "minutes" := ⟨X, hrm, hret, hnm⟩
  refine g_as (lv' := [(0, rf V v0), (1, .int v1)]) (st' := []) rfl rfl ?_
  unfold f_X8_minutes at h
  refine g_iload_n (pc := 0) X 1 rfl dX8_minutes_0 ?_
  refine g_iconst (pc := 1) X (v := 1) dX8_minutes_1 rfl ?_
  refine g_bipush (pc := 2) X (v := 100) dX8_minutes_2 rfl ?_
  obtain ⟨r1, w2, h3, h⟩ := bd2_i h
  refine g_callS (pc := 4) X mk_X8_isWithin q_357 q_356 (c_X8_isWithin h3) rfl rfl (by rw [Y.2.1]; decide)  rfl (rest := []) rfl (Nat.le_of_ble_eq_true rfl) (by rw [Y.2.1]; exact ⟨Nat.le_of_ble_eq_true rfl, Nat.le_of_ble_eq_true rfl⟩) dX8_minutes_4 (st' := [.int r1]) rfl ?_
  refine g_if_ne (pc := 7) X (tgt := 13) dX8_minutes_7 rfl (fun c => ?_) (fun c => ?_)
  · have h := br_n c h
    refine g_aload_n (pc := 13) X 0 rfl dX8_minutes_13 ?_
    obtain ⟨k4, h⟩ := gd_i h
    obtain ⟨a5, e6, h⟩ := bd1_i h
    refine g_getR (pc := 14) X FcX8 k4 0 e6 (by decide) rfl q_321 dX8_minutes_14 ?_
    refine g_iload_n (pc := 17) X 1 rfl dX8_minutes_17 ?_
    refine g_sipush (pc := 18) X (v := 9999) dX8_minutes_18 rfl ?_
    refine g_aload_n (pc := 21) X 0 rfl dX8_minutes_21 ?_
    obtain ⟨a7, e8, h⟩ := bd1_i h
    refine g_getR (pc := 22) X FcX8 k4 0 e8 (by decide) rfl q_321 dX8_minutes_22 ?_
    obtain ⟨k9, h⟩ := gd_i h
    refine g_getI (pc := 25) X FcX1 k9 6 (by decide) rfl q_172 dX8_minutes_25 ?_
    refine g_isub (pc := 28) X dX8_minutes_28 ?_
    refine g_mmin (pc := 29) X q_531 q_532 q_75 q_533 (by rw [Y.2.1]; decide) (by rw [Y.2.1]; exact Nat.le_of_ble_eq_true rfl) (by rw [Y.2.1]; exact ⟨Nat.le_of_ble_eq_true rfl, Nat.le_of_ble_eq_true rfl⟩) dX8_minutes_29 ?_
    obtain ⟨k10, h⟩ := gd_i h
    obtain ⟨r11, w12, h13, h⟩ := bd2_i h
    refine g_callV (pc := 32) X FcX1 k10 mk_X1_pass q_548 q_549 q_547 (c_X1_pass h13) rfl rfl (by rw [Y.2.1]; decide)  rfl (rest := []) rfl (Nat.le_of_ble_eq_true rfl) (by rw [Y.2.1]; exact ⟨Nat.le_of_ble_eq_true rfl, Nat.le_of_ble_eq_true rfl⟩) dX8_minutes_32 (st' := [.int r11]) rfl ?_
    obtain ⟨e1, e2⟩ := rt_i h
    exact g_iret (pc := 35) X Y.2.2.1 (Nat.le_of_ble_eq_true rfl) (Nat.le_of_ble_eq_true rfl) e1 e2 dX8_minutes_35
  · have h := br_y c h
    refine g_ldc (pc := 10) X q_359 dX8_minutes_10 ?_
    obtain ⟨e1, e2⟩ := rt_i h
    exact g_iret (pc := 12) X Y.2.2.1 (Nat.le_of_ble_eq_true rfl) (Nat.le_of_ble_eq_true rfl) e1 e2 dX8_minutes_12

def f_X8_inn (v0 : Nat) (v1 : Int32) (w : Wd) : Option (Int32 × Wd) := (if v1 = 0 then
 (if wK w v0 = 8 then
 (bd1 (wR w v0 0) fun a3 =>
 (if wK w a3 = 1 then
 (bd2 (f_X1_taken a3 w) fun r6 w7 =>
 some (r6, w7))
 else none))
 else none)
 else
 (if v1 = 1 then
 (if wK w v0 = 8 then
 (bd1 (wR w v0 0) fun a11 =>
 (if wK w a11 = 1 then
 some (wI w a11 5, w)
 else none))
 else none)
 else
 (if v1 = 2 then
 (if wK w v0 = 8 then
 (bd1 (wR w v0 0) fun a16 =>
 (if wK w a16 = 1 then
 (bd2 (f_X1_seatedCount a16 w) fun r19 w20 =>
 some (r19, w20))
 else none))
 else none)
 else
 (if v1 = 3 then
 (if wK w v0 = 8 then
 (bd1 (wR w v0 0) fun a24 =>
 (if wK w a24 = 1 then
 (bd2 (f_X1_standing a24 w) fun r27 w28 =>
 some (r27, w28))
 else none))
 else none)
 else
 some ((-1000000001), w)))))
theorem c_X8_inn {l : Launch} {V : Vt} {v0 : Nat} {v1 : Int32} {w w' : Wd} {r : Int32} (h : f_X8_inn v0 v1 w = some (r, w')) : MetW l V yX8_inn cX8_inn 2 (some .int) { frames := 3, cells := 0, slots := 0, locals := 66 } w [rf V v0, .int v1] (some (.int r)) w' 0 0 := by
  refine g_start (by decide) (Nat.le_of_ble_eq_true rfl) ?_
  intro t _ hrm X hret hnm
  have Y : Hd_ t V cX8_inn 2 RX8 { frames := 3, cells := 0, slots := 0, locals := 66 } (some .int) "inn" := ⟨X, hrm, hret, hnm⟩
  refine g_as (lv' := [(0, rf V v0), (1, .int v1)]) (st' := []) rfl rfl ?_
  unfold f_X8_inn at h
  refine g_iload_n (pc := 0) X 1 rfl dX8_inn_0 ?_
  by_cases c1 : v1 = 0
  · have h := br_y c1 h
    refine g_tswI (pc := 1) X 0 (tgt := 32) dX8_inn_1 c1 (by decide) (by decide) rfl rfl ?_
    refine g_aload_n (pc := 32) X 0 rfl dX8_inn_32 ?_
    obtain ⟨k2, h⟩ := gd_i h
    obtain ⟨a3, e4, h⟩ := bd1_i h
    refine g_getR (pc := 33) X FcX8 k2 0 e4 (by decide) rfl q_321 dX8_inn_33 ?_
    obtain ⟨k5, h⟩ := gd_i h
    obtain ⟨r6, w7, h8, h⟩ := bd2_i h
    refine g_callV (pc := 36) X FcX1 k5 mk_X1_taken q_425 q_426 q_583 (c_X1_taken h8) rfl rfl (by rw [Y.2.1]; decide)  rfl (rest := []) rfl (Nat.le_of_ble_eq_true rfl) (by rw [Y.2.1]; exact ⟨Nat.le_of_ble_eq_true rfl, Nat.le_of_ble_eq_true rfl⟩) dX8_inn_36 (st' := [.int r6]) rfl ?_
    obtain ⟨e1, e2⟩ := rt_i h
    exact g_iret (pc := 39) X Y.2.2.1 (Nat.le_of_ble_eq_true rfl) (Nat.le_of_ble_eq_true rfl) e1 e2 dX8_inn_39
  · have h := br_n c1 h
    by_cases c9 : v1 = 1
    · have h := br_y c9 h
      refine g_tswI (pc := 1) X 1 (tgt := 40) dX8_inn_1 c9 (by decide) (by decide) rfl rfl ?_
      refine g_aload_n (pc := 40) X 0 rfl dX8_inn_40 ?_
      obtain ⟨k10, h⟩ := gd_i h
      obtain ⟨a11, e12, h⟩ := bd1_i h
      refine g_getR (pc := 41) X FcX8 k10 0 e12 (by decide) rfl q_321 dX8_inn_41 ?_
      obtain ⟨k13, h⟩ := gd_i h
      refine g_getI (pc := 44) X FcX1 k13 5 (by decide) rfl q_170 dX8_inn_44 ?_
      obtain ⟨e1, e2⟩ := rt_i h
      exact g_iret (pc := 47) X Y.2.2.1 (Nat.le_of_ble_eq_true rfl) (Nat.le_of_ble_eq_true rfl) e1 e2 dX8_inn_47
    · have h := br_n c9 h
      by_cases c14 : v1 = 2
      · have h := br_y c14 h
        refine g_tswI (pc := 1) X 2 (tgt := 48) dX8_inn_1 c14 (by decide) (by decide) rfl rfl ?_
        refine g_aload_n (pc := 48) X 0 rfl dX8_inn_48 ?_
        obtain ⟨k15, h⟩ := gd_i h
        obtain ⟨a16, e17, h⟩ := bd1_i h
        refine g_getR (pc := 49) X FcX8 k15 0 e17 (by decide) rfl q_321 dX8_inn_49 ?_
        obtain ⟨k18, h⟩ := gd_i h
        obtain ⟨r19, w20, h21, h⟩ := bd2_i h
        refine g_callV (pc := 52) X FcX1 k18 mk_X1_seatedCount q_365 q_366 q_584 (c_X1_seatedCount h21) rfl rfl (by rw [Y.2.1]; decide)  rfl (rest := []) rfl (Nat.le_of_ble_eq_true rfl) (by rw [Y.2.1]; exact ⟨Nat.le_of_ble_eq_true rfl, Nat.le_of_ble_eq_true rfl⟩) dX8_inn_52 (st' := [.int r19]) rfl ?_
        obtain ⟨e1, e2⟩ := rt_i h
        exact g_iret (pc := 55) X Y.2.2.1 (Nat.le_of_ble_eq_true rfl) (Nat.le_of_ble_eq_true rfl) e1 e2 dX8_inn_55
      · have h := br_n c14 h
        by_cases c22 : v1 = 3
        · have h := br_y c22 h
          refine g_tswI (pc := 1) X 3 (tgt := 56) dX8_inn_1 c22 (by decide) (by decide) rfl rfl ?_
          refine g_aload_n (pc := 56) X 0 rfl dX8_inn_56 ?_
          obtain ⟨k23, h⟩ := gd_i h
          obtain ⟨a24, e25, h⟩ := bd1_i h
          refine g_getR (pc := 57) X FcX8 k23 0 e25 (by decide) rfl q_321 dX8_inn_57 ?_
          obtain ⟨k26, h⟩ := gd_i h
          obtain ⟨r27, w28, h29, h⟩ := bd2_i h
          refine g_callV (pc := 60) X FcX1 k26 mk_X1_standing q_369 q_370 q_585 (c_X1_standing h29) rfl rfl (by rw [Y.2.1]; decide)  rfl (rest := []) rfl (Nat.le_of_ble_eq_true rfl) (by rw [Y.2.1]; exact ⟨Nat.le_of_ble_eq_true rfl, Nat.le_of_ble_eq_true rfl⟩) dX8_inn_60 (st' := [.int r27]) rfl ?_
          obtain ⟨e1, e2⟩ := rt_i h
          exact g_iret (pc := 63) X Y.2.2.1 (Nat.le_of_ble_eq_true rfl) (Nat.le_of_ble_eq_true rfl) e1 e2 dX8_inn_63
        · have h := br_n c22 h
          refine g_tswO (pc := 1) X (tgt := 64) dX8_inn_1 (by have n0 : Int32.toInt v1 ≠ 0 := nt_ c1; have n1 : Int32.toInt v1 ≠ 1 := nt_ c9; have n2 : Int32.toInt v1 ≠ 2 := nt_ c14; have n3 : Int32.toInt v1 ≠ 3 := nt_ c22; omega) rfl ?_
          refine g_ldc (pc := 64) X q_359 dX8_inn_64 ?_
          obtain ⟨e1, e2⟩ := rt_i h
          exact g_iret (pc := 66) X Y.2.2.1 (Nat.le_of_ble_eq_true rfl) (Nat.le_of_ble_eq_true rfl) e1 e2 dX8_inn_66

def f_X8_goes (v0 : Nat) (v1 : Int32) (w : Wd) : Option (Int32 × Wd) := (bd2 (f_X8_isWithin v1 0 2 w) fun r1 w2 =>
 (if r1 = 0 then
 some ((-1000000001), w2)
 else
 (if wK w2 v0 = 8 then
 (bd1 (wR w2 v0 4) fun a5 =>
 (bd1 (wR w2 v0 0) fun a7 =>
 (if wK w2 a7 = 1 then
 (bd1 (wR w2 a7 0) fun a10 =>
 (bd1 (wR w2 v0 0) fun a12 =>
 (if wK w2 a12 = 1 then
 (bd2 (f_X1_taken a12 w2) fun r15 w16 =>
 (if wK w16 a5 = 2 then
 (bd2 (f_X2_foresee a5 a10 r15 v1 w16) fun r19 w20 =>
 some (r19, w20))
 else none))
 else none)))
 else none)))
 else none)))
theorem c_X8_goes {l : Launch} {V : Vt} {v0 : Nat} {v1 : Int32} {w w' : Wd} {r : Int32} (h : f_X8_goes v0 v1 w = some (r, w')) : MetW l V yX8_goes cX8_goes 2 (some .int) { frames := 3, cells := 0, slots := 0, locals := 77 } w [rf V v0, .int v1] (some (.int r)) w' 0 0 := by
  refine g_start (by decide) (Nat.le_of_ble_eq_true rfl) ?_
  intro t _ hrm X hret hnm
  have Y : Hd_ t V cX8_goes 2 RX8 { frames := 3, cells := 0, slots := 0, locals := 77 } (some .int) "goes" := ⟨X, hrm, hret, hnm⟩
  refine g_as (lv' := [(0, rf V v0), (1, .int v1)]) (st' := []) rfl rfl ?_
  unfold f_X8_goes at h
  refine g_iload_n (pc := 0) X 1 rfl dX8_goes_0 ?_
  refine g_iconst (pc := 1) X (v := 0) dX8_goes_1 rfl ?_
  refine g_iconst (pc := 2) X (v := 2) dX8_goes_2 rfl ?_
  obtain ⟨r1, w2, h3, h⟩ := bd2_i h
  refine g_callS (pc := 3) X mk_X8_isWithin q_357 q_356 (c_X8_isWithin h3) rfl rfl (by rw [Y.2.1]; decide)  rfl (rest := []) rfl (Nat.le_of_ble_eq_true rfl) (by rw [Y.2.1]; exact ⟨Nat.le_of_ble_eq_true rfl, Nat.le_of_ble_eq_true rfl⟩) dX8_goes_3 (st' := [.int r1]) rfl ?_
  refine g_if_ne (pc := 6) X (tgt := 12) dX8_goes_6 rfl (fun c => ?_) (fun c => ?_)
  · have h := br_n c h
    refine g_aload_n (pc := 12) X 0 rfl dX8_goes_12 ?_
    obtain ⟨k4, h⟩ := gd_i h
    obtain ⟨a5, e6, h⟩ := bd1_i h
    refine g_getR (pc := 13) X FcX8 k4 4 e6 (by decide) rfl q_325 dX8_goes_13 ?_
    refine g_aload_n (pc := 16) X 0 rfl dX8_goes_16 ?_
    obtain ⟨a7, e8, h⟩ := bd1_i h
    refine g_getR (pc := 17) X FcX8 k4 0 e8 (by decide) rfl q_321 dX8_goes_17 ?_
    obtain ⟨k9, h⟩ := gd_i h
    obtain ⟨a10, e11, h⟩ := bd1_i h
    refine g_getR (pc := 20) X FcX1 k9 0 e11 (by decide) rfl q_158 dX8_goes_20 ?_
    refine g_aload_n (pc := 23) X 0 rfl dX8_goes_23 ?_
    obtain ⟨a12, e13, h⟩ := bd1_i h
    refine g_getR (pc := 24) X FcX8 k4 0 e13 (by decide) rfl q_321 dX8_goes_24 ?_
    obtain ⟨k14, h⟩ := gd_i h
    obtain ⟨r15, w16, h17, h⟩ := bd2_i h
    refine g_callV (pc := 27) X FcX1 k14 mk_X1_taken q_425 q_426 q_583 (c_X1_taken h17) rfl rfl (by rw [Y.2.1]; decide)  rfl (rest := [rf V a10, rf V a5]) rfl (Nat.le_of_ble_eq_true rfl) (by rw [Y.2.1]; exact ⟨Nat.le_of_ble_eq_true rfl, Nat.le_of_ble_eq_true rfl⟩) dX8_goes_27 (st' := [.int r15, rf V a10, rf V a5]) rfl ?_
    refine g_iload_n (pc := 30) X 1 rfl dX8_goes_30 ?_
    obtain ⟨k18, h⟩ := gd_i h
    obtain ⟨r19, w20, h21, h⟩ := bd2_i h
    refine g_callV (pc := 31) X FcX2 k18 mk_X2_foresee q_591 q_592 q_590 (c_X2_foresee h21) rfl rfl (by rw [Y.2.1]; decide)  rfl (rest := []) rfl (Nat.le_of_ble_eq_true rfl) (by rw [Y.2.1]; exact ⟨Nat.le_of_ble_eq_true rfl, Nat.le_of_ble_eq_true rfl⟩) dX8_goes_31 (st' := [.int r19]) rfl ?_
    obtain ⟨e1, e2⟩ := rt_i h
    exact g_iret (pc := 34) X Y.2.2.1 (Nat.le_of_ble_eq_true rfl) (Nat.le_of_ble_eq_true rfl) e1 e2 dX8_goes_34
  · have h := br_y c h
    refine g_ldc (pc := 9) X q_359 dX8_goes_9 ?_
    obtain ⟨e1, e2⟩ := rt_i h
    exact g_iret (pc := 11) X Y.2.2.1 (Nat.le_of_ble_eq_true rfl) (Nat.le_of_ble_eq_true rfl) e1 e2 dX8_goes_11

def f_X8_game (v0 : Nat) (v1 : Int32) (w : Wd) : Option (Int32 × Wd) := (bd2 (f_X8_isWithin v1 0 1 w) fun r1 w2 =>
 (if r1 = 0 then
 some ((-1000000001), w2)
 else
 (if wK w2 v0 = 8 then
 (bd1 (wR w2 v0 0) fun a5 =>
 (if wK w2 a5 = 1 then
 (bd2 (f_X1_taken a5 w2) fun r8 w9 =>
 (if wK w9 v0 = 8 then
 (bd1 (wR w9 v0 4) fun a12 =>
 (bd1 (wR w9 v0 0) fun a14 =>
 (if wK w9 a14 = 1 then
 (bd1 (wR w9 a14 0) fun a17 =>
 (if wK w9 a12 = 2 then
 (bd2 (f_X2_foresee a12 a17 r8 3 w9) fun r20 w21 =>
 (if v1 = 0 then
 some (r20, w21)
 else
 (if wK w21 v0 = 8 then
 (bd1 (wR w21 v0 4) fun a24 =>
 (bd1 (wR w21 v0 0) fun a26 =>
 (if wK w21 a26 = 1 then
 (bd1 (wR w21 a26 0) fun a29 =>
 (if wK w21 a24 = 2 then
 (bd2 (f_X2_winning a24 a29 r8 w21) fun r32 w33 =>
 some (r32, w33))
 else none))
 else none)))
 else none)))
 else none))
 else none)))
 else none))
 else none))
 else none)))
theorem c_X8_game {l : Launch} {V : Vt} {v0 : Nat} {v1 : Int32} {w w' : Wd} {r : Int32} (h : f_X8_game v0 v1 w = some (r, w')) : MetW l V yX8_game cX8_game 4 (some .int) { frames := 3, cells := 0, slots := 0, locals := 77 } w [rf V v0, .int v1] (some (.int r)) w' 0 0 := by
  refine g_start (by decide) (Nat.le_of_ble_eq_true rfl) ?_
  intro t _ hrm X hret hnm
  have Y : Hd_ t V cX8_game 4 RX8 { frames := 3, cells := 0, slots := 0, locals := 77 } (some .int) "game" := ⟨X, hrm, hret, hnm⟩
  refine g_as (lv' := [(0, rf V v0), (1, .int v1)]) (st' := []) rfl rfl ?_
  unfold f_X8_game at h
  refine g_iload_n (pc := 0) X 1 rfl dX8_game_0 ?_
  refine g_iconst (pc := 1) X (v := 0) dX8_game_1 rfl ?_
  refine g_iconst (pc := 2) X (v := 1) dX8_game_2 rfl ?_
  obtain ⟨r1, w2, h3, h⟩ := bd2_i h
  refine g_callS (pc := 3) X mk_X8_isWithin q_357 q_356 (c_X8_isWithin h3) rfl rfl (by rw [Y.2.1]; decide)  rfl (rest := []) rfl (Nat.le_of_ble_eq_true rfl) (by rw [Y.2.1]; exact ⟨Nat.le_of_ble_eq_true rfl, Nat.le_of_ble_eq_true rfl⟩) dX8_game_3 (st' := [.int r1]) rfl ?_
  refine g_if_ne (pc := 6) X (tgt := 12) dX8_game_6 rfl (fun c => ?_) (fun c => ?_)
  · have h := br_n c h
    refine g_aload_n (pc := 12) X 0 rfl dX8_game_12 ?_
    obtain ⟨k4, h⟩ := gd_i h
    obtain ⟨a5, e6, h⟩ := bd1_i h
    refine g_getR (pc := 13) X FcX8 k4 0 e6 (by decide) rfl q_321 dX8_game_13 ?_
    obtain ⟨k7, h⟩ := gd_i h
    obtain ⟨r8, w9, h10, h⟩ := bd2_i h
    refine g_callV (pc := 16) X FcX1 k7 mk_X1_taken q_425 q_426 q_583 (c_X1_taken h10) rfl rfl (by rw [Y.2.1]; decide)  rfl (rest := []) rfl (Nat.le_of_ble_eq_true rfl) (by rw [Y.2.1]; exact ⟨Nat.le_of_ble_eq_true rfl, Nat.le_of_ble_eq_true rfl⟩) dX8_game_16 (st' := [.int r8]) rfl ?_
    refine g_istore_n (pc := 19) X (lv' := [(2, .int r8), (0, rf V v0), (1, .int v1)]) dX8_game_19 (by decide) rfl ?_
    refine g_aload_n (pc := 20) X 1 rfl dX8_game_20 ?_
    obtain ⟨k11, h⟩ := gd_i h
    obtain ⟨a12, e13, h⟩ := bd1_i h
    refine g_getR (pc := 21) X FcX8 k11 4 e13 (by decide) rfl q_325 dX8_game_21 ?_
    refine g_aload_n (pc := 24) X 1 rfl dX8_game_24 ?_
    obtain ⟨a14, e15, h⟩ := bd1_i h
    refine g_getR (pc := 25) X FcX8 k11 0 e15 (by decide) rfl q_321 dX8_game_25 ?_
    obtain ⟨k16, h⟩ := gd_i h
    obtain ⟨a17, e18, h⟩ := bd1_i h
    refine g_getR (pc := 28) X FcX1 k16 0 e18 (by decide) rfl q_158 dX8_game_28 ?_
    refine g_iload_n (pc := 31) X 0 rfl dX8_game_31 ?_
    refine g_iconst (pc := 32) X (v := 3) dX8_game_32 rfl ?_
    obtain ⟨k19, h⟩ := gd_i h
    obtain ⟨r20, w21, h22, h⟩ := bd2_i h
    refine g_callV (pc := 33) X FcX2 k19 mk_X2_foresee q_591 q_592 q_590 (c_X2_foresee h22) rfl rfl (by rw [Y.2.1]; decide)  rfl (rest := []) rfl (Nat.le_of_ble_eq_true rfl) (by rw [Y.2.1]; exact ⟨Nat.le_of_ble_eq_true rfl, Nat.le_of_ble_eq_true rfl⟩) dX8_game_33 (st' := [.int r20]) rfl ?_
    refine g_istore_n (pc := 36) X (lv' := [(3, .int r20), (2, .int r8), (0, rf V v0), (1, .int v1)]) dX8_game_36 (by decide) rfl ?_
    refine g_iload_n (pc := 37) X 3 rfl dX8_game_37 ?_
    refine g_if_ne (pc := 38) X (tgt := 45) dX8_game_38 rfl (fun c => ?_) (fun c => ?_)
    · have h := br_n c h
      refine g_aload_n (pc := 45) X 2 rfl dX8_game_45 ?_
      obtain ⟨k23, h⟩ := gd_i h
      obtain ⟨a24, e25, h⟩ := bd1_i h
      refine g_getR (pc := 46) X FcX8 k23 4 e25 (by decide) rfl q_325 dX8_game_46 ?_
      refine g_aload_n (pc := 49) X 2 rfl dX8_game_49 ?_
      obtain ⟨a26, e27, h⟩ := bd1_i h
      refine g_getR (pc := 50) X FcX8 k23 0 e27 (by decide) rfl q_321 dX8_game_50 ?_
      obtain ⟨k28, h⟩ := gd_i h
      obtain ⟨a29, e30, h⟩ := bd1_i h
      refine g_getR (pc := 53) X FcX1 k28 0 e30 (by decide) rfl q_158 dX8_game_53 ?_
      refine g_iload_n (pc := 56) X 1 rfl dX8_game_56 ?_
      obtain ⟨k31, h⟩ := gd_i h
      obtain ⟨r32, w33, h34, h⟩ := bd2_i h
      refine g_callV (pc := 57) X FcX2 k31 mk_X2_winning q_607 q_608 q_606 (c_X2_winning h34) rfl rfl (by rw [Y.2.1]; decide)  rfl (rest := []) rfl (Nat.le_of_ble_eq_true rfl) (by rw [Y.2.1]; exact ⟨Nat.le_of_ble_eq_true rfl, Nat.le_of_ble_eq_true rfl⟩) dX8_game_57 (st' := [.int r32]) rfl ?_
      obtain ⟨e1, e2⟩ := rt_i h
      exact g_iret (pc := 60) X Y.2.2.1 (Nat.le_of_ble_eq_true rfl) (Nat.le_of_ble_eq_true rfl) e1 e2 dX8_game_60
    · have h := br_y c h
      refine g_iload_n (pc := 41) X 0 rfl dX8_game_41 ?_
      refine g_goto (pc := 42) X (tgt := 60) dX8_game_42 rfl ?_
      obtain ⟨e1, e2⟩ := rt_i h
      exact g_iret (pc := 60) X Y.2.2.1 (Nat.le_of_ble_eq_true rfl) (Nat.le_of_ble_eq_true rfl) e1 e2 dX8_game_60
  · have h := br_y c h
    refine g_ldc (pc := 9) X q_359 dX8_game_9 ?_
    obtain ⟨e1, e2⟩ := rt_i h
    exact g_iret (pc := 11) X Y.2.2.1 (Nat.le_of_ble_eq_true rfl) (Nat.le_of_ble_eq_true rfl) e1 e2 dX8_game_11

def f_X8_worthy (v0 : Nat) (v1 : Int32) (w : Wd) : Option (Int32 × Wd) := (bd2 (f_X8_isWithin v1 0 1 w) fun r1 w2 =>
 (if r1 = 0 then
 some ((-1000000001), w2)
 else
 (if wK w2 v0 = 8 then
 (bd1 (wR w2 v0 0) fun a5 =>
 (if wK w2 a5 = 1 then
 (bd2 (f_X1_taken a5 w2) fun r8 w9 =>
 (if wK w9 v0 = 8 then
 (bd1 (wR w9 v0 0) fun a12 =>
 (if wK w9 a12 = 1 then
 (bd1 (wR w9 a12 0) fun a15 =>
 (if wK w9 a15 = 0 then
 (if r8 = (wI w9 a15 3) then
 some ((-1000000005), w9)
 else
 (bd1 (wR w9 v0 4) fun a18 =>
 (bd1 (wR w9 v0 0) fun a20 =>
 (if wK w9 a18 = 2 then
 (bd2 (f_X2_weigh a18 a20 r8 w9) fun r23 w24 =>
 (if v1 = 0 then
 (if wK w24 v0 = 8 then
 (bd1 (wR w24 v0 4) fun a31 =>
 (if wK w24 a31 = 2 then
 some (wI w24 a31 2, w24)
 else none))
 else none)
 else
 (if wK w24 v0 = 8 then
 (bd1 (wR w24 v0 4) fun a27 =>
 (if wK w24 a27 = 2 then
 some (wI w24 a27 3, w24)
 else none))
 else none)))
 else none))))
 else none))
 else none))
 else none))
 else none))
 else none)))
theorem c_X8_worthy {l : Launch} {V : Vt} {v0 : Nat} {v1 : Int32} {w w' : Wd} {r : Int32} (h : f_X8_worthy v0 v1 w = some (r, w')) : MetW l V yX8_worthy cX8_worthy 3 (some .int) { frames := 4, cells := 0, slots := 0, locals := 93 } w [rf V v0, .int v1] (some (.int r)) w' 0 0 := by
  refine g_start (by decide) (Nat.le_of_ble_eq_true rfl) ?_
  intro t _ hrm X hret hnm
  have Y : Hd_ t V cX8_worthy 3 RX8 { frames := 4, cells := 0, slots := 0, locals := 93 } (some .int) "worthy" := ⟨X, hrm, hret, hnm⟩
  refine g_as (lv' := [(0, rf V v0), (1, .int v1)]) (st' := []) rfl rfl ?_
  unfold f_X8_worthy at h
  refine g_iload_n (pc := 0) X 1 rfl dX8_worthy_0 ?_
  refine g_iconst (pc := 1) X (v := 0) dX8_worthy_1 rfl ?_
  refine g_iconst (pc := 2) X (v := 1) dX8_worthy_2 rfl ?_
  obtain ⟨r1, w2, h3, h⟩ := bd2_i h
  refine g_callS (pc := 3) X mk_X8_isWithin q_357 q_356 (c_X8_isWithin h3) rfl rfl (by rw [Y.2.1]; decide)  rfl (rest := []) rfl (Nat.le_of_ble_eq_true rfl) (by rw [Y.2.1]; exact ⟨Nat.le_of_ble_eq_true rfl, Nat.le_of_ble_eq_true rfl⟩) dX8_worthy_3 (st' := [.int r1]) rfl ?_
  refine g_if_ne (pc := 6) X (tgt := 12) dX8_worthy_6 rfl (fun c => ?_) (fun c => ?_)
  · have h := br_n c h
    refine g_aload_n (pc := 12) X 0 rfl dX8_worthy_12 ?_
    obtain ⟨k4, h⟩ := gd_i h
    obtain ⟨a5, e6, h⟩ := bd1_i h
    refine g_getR (pc := 13) X FcX8 k4 0 e6 (by decide) rfl q_321 dX8_worthy_13 ?_
    obtain ⟨k7, h⟩ := gd_i h
    obtain ⟨r8, w9, h10, h⟩ := bd2_i h
    refine g_callV (pc := 16) X FcX1 k7 mk_X1_taken q_425 q_426 q_583 (c_X1_taken h10) rfl rfl (by rw [Y.2.1]; decide)  rfl (rest := []) rfl (Nat.le_of_ble_eq_true rfl) (by rw [Y.2.1]; exact ⟨Nat.le_of_ble_eq_true rfl, Nat.le_of_ble_eq_true rfl⟩) dX8_worthy_16 (st' := [.int r8]) rfl ?_
    refine g_istore_n (pc := 19) X (lv' := [(2, .int r8), (0, rf V v0), (1, .int v1)]) dX8_worthy_19 (by decide) rfl ?_
    refine g_iload_n (pc := 20) X 0 rfl dX8_worthy_20 ?_
    refine g_aload_n (pc := 21) X 1 rfl dX8_worthy_21 ?_
    obtain ⟨k11, h⟩ := gd_i h
    obtain ⟨a12, e13, h⟩ := bd1_i h
    refine g_getR (pc := 22) X FcX8 k11 0 e13 (by decide) rfl q_321 dX8_worthy_22 ?_
    obtain ⟨k14, h⟩ := gd_i h
    obtain ⟨a15, e16, h⟩ := bd1_i h
    refine g_getR (pc := 25) X FcX1 k14 0 e16 (by decide) rfl q_158 dX8_worthy_25 ?_
    obtain ⟨k17, h⟩ := gd_i h
    refine g_getI (pc := 28) X FcX0 k17 3 (by decide) rfl q_114 dX8_worthy_28 ?_
    refine g_icmp_ne (pc := 31) X (tgt := 37) dX8_worthy_31 rfl (fun c => ?_) (fun c => ?_)
    · have h := br_n c h
      refine g_aload_n (pc := 37) X 1 rfl dX8_worthy_37 ?_
      obtain ⟨a18, e19, h⟩ := bd1_i h
      refine g_getR (pc := 38) X FcX8 k11 4 e19 (by decide) rfl q_325 dX8_worthy_38 ?_
      refine g_aload_n (pc := 41) X 1 rfl dX8_worthy_41 ?_
      obtain ⟨a20, e21, h⟩ := bd1_i h
      refine g_getR (pc := 42) X FcX8 k11 0 e21 (by decide) rfl q_321 dX8_worthy_42 ?_
      refine g_iload_n (pc := 45) X 0 rfl dX8_worthy_45 ?_
      obtain ⟨k22, h⟩ := gd_i h
      obtain ⟨r23, w24, h25, h⟩ := bd2_i h
      refine g_callV (pc := 46) X FcX2 k22 mk_X2_weigh q_616 q_617 q_615 (c_X2_weigh h25) rfl rfl (by rw [Y.2.1]; decide)  rfl (rest := []) rfl (Nat.le_of_ble_eq_true rfl) (by rw [Y.2.1]; exact ⟨Nat.le_of_ble_eq_true rfl, Nat.le_of_ble_eq_true rfl⟩) dX8_worthy_46 (st' := []) rfl ?_
      refine g_iload_n (pc := 49) X 2 rfl dX8_worthy_49 ?_
      refine g_if_ne (pc := 50) X (tgt := 63) dX8_worthy_50 rfl (fun c => ?_) (fun c => ?_)
      · have h := br_n c h
        refine g_aload_n (pc := 63) X 1 rfl dX8_worthy_63 ?_
        obtain ⟨k26, h⟩ := gd_i h
        obtain ⟨a27, e28, h⟩ := bd1_i h
        refine g_getR (pc := 64) X FcX8 k26 4 e28 (by decide) rfl q_325 dX8_worthy_64 ?_
        obtain ⟨k29, h⟩ := gd_i h
        refine g_getI (pc := 67) X FcX2 k29 3 (by decide) rfl q_215 dX8_worthy_67 ?_
        obtain ⟨e1, e2⟩ := rt_i h
        exact g_iret (pc := 70) X Y.2.2.1 (Nat.le_of_ble_eq_true rfl) (Nat.le_of_ble_eq_true rfl) e1 e2 dX8_worthy_70
      · have h := br_y c h
        refine g_aload_n (pc := 53) X 1 rfl dX8_worthy_53 ?_
        obtain ⟨k30, h⟩ := gd_i h
        obtain ⟨a31, e32, h⟩ := bd1_i h
        refine g_getR (pc := 54) X FcX8 k30 4 e32 (by decide) rfl q_325 dX8_worthy_54 ?_
        obtain ⟨k33, h⟩ := gd_i h
        refine g_getI (pc := 57) X FcX2 k33 2 (by decide) rfl q_213 dX8_worthy_57 ?_
        refine g_goto (pc := 60) X (tgt := 70) dX8_worthy_60 rfl ?_
        obtain ⟨e1, e2⟩ := rt_i h
        exact g_iret (pc := 70) X Y.2.2.1 (Nat.le_of_ble_eq_true rfl) (Nat.le_of_ble_eq_true rfl) e1 e2 dX8_worthy_70
    · have h := br_y c h
      refine g_ldc (pc := 34) X q_516 dX8_worthy_34 ?_
      obtain ⟨e1, e2⟩ := rt_i h
      exact g_iret (pc := 36) X Y.2.2.1 (Nat.le_of_ble_eq_true rfl) (Nat.le_of_ble_eq_true rfl) e1 e2 dX8_worthy_36
  · have h := br_y c h
    refine g_ldc (pc := 9) X q_359 dX8_worthy_9 ?_
    obtain ⟨e1, e2⟩ := rt_i h
    exact g_iret (pc := 11) X Y.2.2.1 (Nat.le_of_ble_eq_true rfl) (Nat.le_of_ble_eq_true rfl) e1 e2 dX8_worthy_11

def f_X8_behind (v0 : Nat) (v1 : Int32) (v2 : Int32) (w : Wd) : Option (Int32 × Wd) := (bd2 (f_X8_isWithin v1 0 100 w) fun r1 w2 =>
 (if r1 = 0 then
 some ((-1000000001), w2)
 else
 (if wK w2 v0 = 8 then
 (bd1 (wR w2 v0 0) fun a5 =>
 (if wK w2 a5 = 1 then
 (bd2 (f_X8_isWithin v2 0 (2 + (wI w2 a5 2)) w2) fun r8 w9 =>
 (if r8 = 0 then
 some ((-1000000001), w9)
 else
 (if wK w9 v0 = 8 then
 (bd1 (wR w9 v0 2) fun a12 =>
 (bd1 (wR w9 v0 0) fun a14 =>
 (if wK w9 a12 = 1 then
 (bd2 (f_X1_become a12 a14 w9) fun r17 w18 =>
 (if wK w18 v0 = 8 then
 (bd1 (wR w18 v0 2) fun a21 =>
 (if wK w18 a21 = 1 then
 (bd2 (f_X1_pass a21 v1 w18) fun r24 w25 =>
 (if v2 = 0 then
 (if wK w25 v0 = 8 then
 (bd1 (wR w25 v0 2) fun a29 =>
 (if wK w25 a29 = 1 then
 (bd2 (f_X1_taken a29 w25) fun r32 w33 =>
 some (r32, w33))
 else none))
 else none)
 else
 (if v2 = 1 then
 (if wK w25 v0 = 8 then
 (bd1 (wR w25 v0 2) fun a37 =>
 (if wK w25 a37 = 1 then
 some (wI w25 a37 5, w25)
 else none))
 else none)
 else
 (if v2 = 2 then
 (if wK w25 v0 = 8 then
 (bd1 (wR w25 v0 2) fun a42 =>
 (if wK w25 a42 = 1 then
 (bd2 (f_X1_seatedCount a42 w25) fun r45 w46 =>
 some (r45, w46))
 else none))
 else none)
 else
 (if wK w25 v0 = 8 then
 (bd1 (wR w25 v0 2) fun a49 =>
 (if wK w25 a49 = 1 then
 (bd1 (wR w25 a49 1) fun a52 =>
 (if aK 14 w25 a52 (v2 - 3) = true then
 (bd1 (wR w25 a52 (nx (v2 - 3))) fun a55 =>
 (if wK w25 a55 = 4 then
 some (wI w25 a55 1, w25)
 else none))
 else none))
 else none))
 else none)))))
 else none))
 else none))
 else none)))
 else none)))
 else none))
 else none)))
theorem c_X8_behind {l : Launch} {V : Vt} {v0 : Nat} {v1 : Int32} {v2 : Int32} {w w' : Wd} {r : Int32} (h : f_X8_behind v0 v1 v2 w = some (r, w')) : MetW l V yX8_behind cX8_behind 3 (some .int) { frames := 7, cells := 0, slots := 0, locals := 162 } w [rf V v0, .int v1, .int v2] (some (.int r)) w' 0 0 := by
  refine g_start (by decide) (Nat.le_of_ble_eq_true rfl) ?_
  intro t _ hrm X hret hnm
  have Y : Hd_ t V cX8_behind 3 RX8 { frames := 7, cells := 0, slots := 0, locals := 162 } (some .int) "behind" := ⟨X, hrm, hret, hnm⟩
  refine g_as (lv' := [(0, rf V v0), (1, .int v1), (2, .int v2)]) (st' := []) rfl rfl ?_
  unfold f_X8_behind at h
  refine g_iload_n (pc := 0) X 1 rfl dX8_behind_0 ?_
  refine g_iconst (pc := 1) X (v := 0) dX8_behind_1 rfl ?_
  refine g_bipush (pc := 2) X (v := 100) dX8_behind_2 rfl ?_
  obtain ⟨r1, w2, h3, h⟩ := bd2_i h
  refine g_callS (pc := 4) X mk_X8_isWithin q_357 q_356 (c_X8_isWithin h3) rfl rfl (by rw [Y.2.1]; decide)  rfl (rest := []) rfl (Nat.le_of_ble_eq_true rfl) (by rw [Y.2.1]; exact ⟨Nat.le_of_ble_eq_true rfl, Nat.le_of_ble_eq_true rfl⟩) dX8_behind_4 (st' := [.int r1]) rfl ?_
  refine g_if_eq (pc := 7) X (tgt := 27) dX8_behind_7 rfl (fun c => ?_) (fun c => ?_)
  · have h := br_y c h
    refine g_ldc (pc := 27) X q_359 dX8_behind_27 ?_
    obtain ⟨e1, e2⟩ := rt_i h
    exact g_iret (pc := 29) X Y.2.2.1 (Nat.le_of_ble_eq_true rfl) (Nat.le_of_ble_eq_true rfl) e1 e2 dX8_behind_29
  · have h := br_n c h
    refine g_iload_n (pc := 10) X 2 rfl dX8_behind_10 ?_
    refine g_iconst (pc := 11) X (v := 0) dX8_behind_11 rfl ?_
    refine g_iconst (pc := 12) X (v := 2) dX8_behind_12 rfl ?_
    refine g_aload_n (pc := 13) X 0 rfl dX8_behind_13 ?_
    obtain ⟨k4, h⟩ := gd_i h
    obtain ⟨a5, e6, h⟩ := bd1_i h
    refine g_getR (pc := 14) X FcX8 k4 0 e6 (by decide) rfl q_321 dX8_behind_14 ?_
    obtain ⟨k7, h⟩ := gd_i h
    refine g_getI (pc := 17) X FcX1 k7 2 (by decide) rfl q_162 dX8_behind_17 ?_
    refine g_iadd (pc := 20) X dX8_behind_20 ?_
    obtain ⟨r8, w9, h10, h⟩ := bd2_i h
    refine g_callS (pc := 21) X mk_X8_isWithin q_357 q_356 (c_X8_isWithin h10) rfl rfl (by rw [Y.2.1]; decide)  rfl (rest := []) rfl (Nat.le_of_ble_eq_true rfl) (by rw [Y.2.1]; exact ⟨Nat.le_of_ble_eq_true rfl, Nat.le_of_ble_eq_true rfl⟩) dX8_behind_21 (st' := [.int r8]) rfl ?_
    refine g_if_ne (pc := 24) X (tgt := 30) dX8_behind_24 rfl (fun c => ?_) (fun c => ?_)
    · have h := br_n c h
      refine g_aload_n (pc := 30) X 0 rfl dX8_behind_30 ?_
      obtain ⟨k11, h⟩ := gd_i h
      obtain ⟨a12, e13, h⟩ := bd1_i h
      refine g_getR (pc := 31) X FcX8 k11 2 e13 (by decide) rfl q_323 dX8_behind_31 ?_
      refine g_aload_n (pc := 34) X 0 rfl dX8_behind_34 ?_
      obtain ⟨a14, e15, h⟩ := bd1_i h
      refine g_getR (pc := 35) X FcX8 k11 0 e15 (by decide) rfl q_321 dX8_behind_35 ?_
      obtain ⟨k16, h⟩ := gd_i h
      obtain ⟨r17, w18, h19, h⟩ := bd2_i h
      refine g_callV (pc := 38) X FcX1 k16 mk_X1_become q_637 q_638 q_636 (c_X1_become h19) rfl rfl (by rw [Y.2.1]; decide)  rfl (rest := []) rfl (Nat.le_of_ble_eq_true rfl) (by rw [Y.2.1]; exact ⟨Nat.le_of_ble_eq_true rfl, Nat.le_of_ble_eq_true rfl⟩) dX8_behind_38 (st' := []) rfl ?_
      refine g_aload_n (pc := 41) X 0 rfl dX8_behind_41 ?_
      obtain ⟨k20, h⟩ := gd_i h
      obtain ⟨a21, e22, h⟩ := bd1_i h
      refine g_getR (pc := 42) X FcX8 k20 2 e22 (by decide) rfl q_323 dX8_behind_42 ?_
      refine g_iload_n (pc := 45) X 1 rfl dX8_behind_45 ?_
      obtain ⟨k23, h⟩ := gd_i h
      obtain ⟨r24, w25, h26, h⟩ := bd2_i h
      refine g_callV (pc := 46) X FcX1 k23 mk_X1_pass q_548 q_549 q_547 (c_X1_pass h26) rfl rfl (by rw [Y.2.1]; decide)  rfl (rest := []) rfl (Nat.le_of_ble_eq_true rfl) (by rw [Y.2.1]; exact ⟨Nat.le_of_ble_eq_true rfl, Nat.le_of_ble_eq_true rfl⟩) dX8_behind_46 (st' := [.int r24]) rfl ?_
      refine g_pop (pc := 49) X rfl dX8_behind_49 ?_
      refine g_iload_n (pc := 50) X 2 rfl dX8_behind_50 ?_
      by_cases c27 : v2 = 0
      · have h := br_y c27 h
        refine g_tswI (pc := 51) X 0 (tgt := 76) dX8_behind_51 c27 (by decide) (by decide) rfl rfl ?_
        refine g_aload_n (pc := 76) X 0 rfl dX8_behind_76 ?_
        obtain ⟨k28, h⟩ := gd_i h
        obtain ⟨a29, e30, h⟩ := bd1_i h
        refine g_getR (pc := 77) X FcX8 k28 2 e30 (by decide) rfl q_323 dX8_behind_77 ?_
        obtain ⟨k31, h⟩ := gd_i h
        obtain ⟨r32, w33, h34, h⟩ := bd2_i h
        refine g_callV (pc := 80) X FcX1 k31 mk_X1_taken q_425 q_426 q_583 (c_X1_taken h34) rfl rfl (by rw [Y.2.1]; decide)  rfl (rest := []) rfl (Nat.le_of_ble_eq_true rfl) (by rw [Y.2.1]; exact ⟨Nat.le_of_ble_eq_true rfl, Nat.le_of_ble_eq_true rfl⟩) dX8_behind_80 (st' := [.int r32]) rfl ?_
        obtain ⟨e1, e2⟩ := rt_i h
        exact g_iret (pc := 83) X Y.2.2.1 (Nat.le_of_ble_eq_true rfl) (Nat.le_of_ble_eq_true rfl) e1 e2 dX8_behind_83
      · have h := br_n c27 h
        by_cases c35 : v2 = 1
        · have h := br_y c35 h
          refine g_tswI (pc := 51) X 1 (tgt := 84) dX8_behind_51 c35 (by decide) (by decide) rfl rfl ?_
          refine g_aload_n (pc := 84) X 0 rfl dX8_behind_84 ?_
          obtain ⟨k36, h⟩ := gd_i h
          obtain ⟨a37, e38, h⟩ := bd1_i h
          refine g_getR (pc := 85) X FcX8 k36 2 e38 (by decide) rfl q_323 dX8_behind_85 ?_
          obtain ⟨k39, h⟩ := gd_i h
          refine g_getI (pc := 88) X FcX1 k39 5 (by decide) rfl q_170 dX8_behind_88 ?_
          obtain ⟨e1, e2⟩ := rt_i h
          exact g_iret (pc := 91) X Y.2.2.1 (Nat.le_of_ble_eq_true rfl) (Nat.le_of_ble_eq_true rfl) e1 e2 dX8_behind_91
        · have h := br_n c35 h
          by_cases c40 : v2 = 2
          · have h := br_y c40 h
            refine g_tswI (pc := 51) X 2 (tgt := 92) dX8_behind_51 c40 (by decide) (by decide) rfl rfl ?_
            refine g_aload_n (pc := 92) X 0 rfl dX8_behind_92 ?_
            obtain ⟨k41, h⟩ := gd_i h
            obtain ⟨a42, e43, h⟩ := bd1_i h
            refine g_getR (pc := 93) X FcX8 k41 2 e43 (by decide) rfl q_323 dX8_behind_93 ?_
            obtain ⟨k44, h⟩ := gd_i h
            obtain ⟨r45, w46, h47, h⟩ := bd2_i h
            refine g_callV (pc := 96) X FcX1 k44 mk_X1_seatedCount q_365 q_366 q_584 (c_X1_seatedCount h47) rfl rfl (by rw [Y.2.1]; decide)  rfl (rest := []) rfl (Nat.le_of_ble_eq_true rfl) (by rw [Y.2.1]; exact ⟨Nat.le_of_ble_eq_true rfl, Nat.le_of_ble_eq_true rfl⟩) dX8_behind_96 (st' := [.int r45]) rfl ?_
            obtain ⟨e1, e2⟩ := rt_i h
            exact g_iret (pc := 99) X Y.2.2.1 (Nat.le_of_ble_eq_true rfl) (Nat.le_of_ble_eq_true rfl) e1 e2 dX8_behind_99
          · have h := br_n c40 h
            refine g_tswO (pc := 51) X (tgt := 100) dX8_behind_51 (by have n0 : Int32.toInt v2 ≠ 0 := nt_ c27; have n1 : Int32.toInt v2 ≠ 1 := nt_ c35; have n2 : Int32.toInt v2 ≠ 2 := nt_ c40; omega) rfl ?_
            refine g_aload_n (pc := 100) X 0 rfl dX8_behind_100 ?_
            obtain ⟨k48, h⟩ := gd_i h
            obtain ⟨a49, e50, h⟩ := bd1_i h
            refine g_getR (pc := 101) X FcX8 k48 2 e50 (by decide) rfl q_323 dX8_behind_101 ?_
            obtain ⟨k51, h⟩ := gd_i h
            obtain ⟨a52, e53, h⟩ := bd1_i h
            refine g_getR (pc := 104) X FcX1 k51 1 e53 (by decide) rfl q_160 dX8_behind_104 ?_
            refine g_iload_n (pc := 107) X 2 rfl dX8_behind_107 ?_
            refine g_iconst (pc := 108) X (v := 3) dX8_behind_108 rfl ?_
            refine g_isub (pc := 109) X dX8_behind_109 ?_
            obtain ⟨k54, h⟩ := gd_i h
            obtain ⟨a55, e56, h⟩ := bd1_i h
            refine g_aald (pc := 110) X (C := RX4) k54 (by decide) (by decide) rfl e56 dX8_behind_110 ?_
            obtain ⟨k57, h⟩ := gd_i h
            refine g_getI (pc := 111) X FcX4 k57 1 (by decide) rfl q_139 dX8_behind_111 ?_
            obtain ⟨e1, e2⟩ := rt_i h
            exact g_iret (pc := 114) X Y.2.2.1 (Nat.le_of_ble_eq_true rfl) (Nat.le_of_ble_eq_true rfl) e1 e2 dX8_behind_114
    · have h := br_y c h
      refine g_ldc (pc := 27) X q_359 dX8_behind_27 ?_
      obtain ⟨e1, e2⟩ := rt_i h
      exact g_iret (pc := 29) X Y.2.2.1 (Nat.le_of_ble_eq_true rfl) (Nat.le_of_ble_eq_true rfl) e1 e2 dX8_behind_29

def L_X8_fullUp_13  (n : Nat) (v0 : Nat) (v1 : Int32) (w : Wd) : Option (Int32 × Wd) := match n with
  | 0 => none
  | n + 1 => (if 200 < v1 then
 some ((-1000000005), w)
 else
 (if wK w v0 = 8 then
 (bd1 (wR w v0 2) fun a11 =>
 (if wK w a11 = 1 then
 (bd2 (f_X1_isShut a11 w) fun r14 w15 =>
 (if r14 = 0 then
 (if wK w15 v0 = 8 then
 (bd1 (wR w15 v0 2) fun a18 =>
 (if wK w15 a18 = 1 then
 (bd2 (f_X1_passOne a18 w15) fun r21 w22 =>
 (lb_ (v1 + 1) fun x24 =>
 L_X8_fullUp_13 n v0 x24 w22))
 else none))
 else none)
 else
 some (v1, w15)))
 else none))
 else none))
theorem bL_X8_fullUp_13 {t : Ct} {V : Vt} {r : Int32} {w' : Wd} (Y : Hd_ t V cX8_fullUp 2 RX8 { frames := 6, cells := 0, slots := 0, locals := 139 } (some .int) "fullUp") : ∀ {n : Nat} {v0 : Nat} {v1 : Int32} {w : Wd}, L_X8_fullUp_13  n v0 v1 w = some (r, w') → Gd t V 2 0 0 (Qe t V (some (.int r)) w' 0 0) 13 [(0, rf V v0), (1, .int v1)] [] w := by
  have X := Y.1
  intro n
  induction n with
  | zero => intro v0 v1 w h; cases h
  | succ n ih0 =>
    have ih : ∀ (v0 : Nat) (v1 : Int32) (w : Wd), L_X8_fullUp_13  n v0 v1 w = some (r, w') → Gd t V 2 0 0 (Qe t V (some (.int r)) w' 0 0) 13 [(0, rf V v0), (1, .int v1)] [] w := fun v0 v1 w h => ih0 h
    clear ih0
    intro v0 v1 w h
    unfold L_X8_fullUp_13 at h
    refine g_iload_n (pc := 13) X 1 rfl dX8_fullUp_13 ?_
    refine g_sipush (pc := 14) X (v := 200) dX8_fullUp_14 rfl ?_
    refine g_icmp_gt (pc := 17) X (tgt := 46) dX8_fullUp_17 rfl (fun c => ?_) (fun c => ?_)
    · have h := br_y c h
      refine g_ldc (pc := 46) X q_516 dX8_fullUp_46 ?_
      obtain ⟨e1, e2⟩ := rt_i h
      exact g_iret (pc := 48) X Y.2.2.1 (Nat.le_of_ble_eq_true rfl) (Nat.le_of_ble_eq_true rfl) e1 e2 dX8_fullUp_48
    · have h := br_n c h
      refine g_aload_n (pc := 20) X 0 rfl dX8_fullUp_20 ?_
      obtain ⟨k10, h⟩ := gd_i h
      obtain ⟨a11, e12, h⟩ := bd1_i h
      refine g_getR (pc := 21) X FcX8 k10 2 e12 (by decide) rfl q_323 dX8_fullUp_21 ?_
      obtain ⟨k13, h⟩ := gd_i h
      obtain ⟨r14, w15, h16, h⟩ := bd2_i h
      refine g_callV (pc := 24) X FcX1 k13 mk_X1_isShut q_657 q_658 q_656 (c_X1_isShut h16) rfl rfl (by rw [Y.2.1]; decide)  rfl (rest := []) rfl (Nat.le_of_ble_eq_true rfl) (by rw [Y.2.1]; exact ⟨Nat.le_of_ble_eq_true rfl, Nat.le_of_ble_eq_true rfl⟩) dX8_fullUp_24 (st' := [.int r14]) rfl ?_
      refine g_if_eq (pc := 27) X (tgt := 32) dX8_fullUp_27 rfl (fun c => ?_) (fun c => ?_)
      · have h := br_y c h
        refine g_aload_n (pc := 32) X 0 rfl dX8_fullUp_32 ?_
        obtain ⟨k17, h⟩ := gd_i h
        obtain ⟨a18, e19, h⟩ := bd1_i h
        refine g_getR (pc := 33) X FcX8 k17 2 e19 (by decide) rfl q_323 dX8_fullUp_33 ?_
        obtain ⟨k20, h⟩ := gd_i h
        obtain ⟨r21, w22, h23, h⟩ := bd2_i h
        refine g_callV (pc := 36) X FcX1 k20 mk_X1_passOne q_552 q_553 q_660 (c_X1_passOne h23) rfl rfl (by rw [Y.2.1]; decide)  rfl (rest := []) rfl (Nat.le_of_ble_eq_true rfl) (by rw [Y.2.1]; exact ⟨Nat.le_of_ble_eq_true rfl, Nat.le_of_ble_eq_true rfl⟩) dX8_fullUp_36 (st' := [.int r21]) rfl ?_
        refine g_pop (pc := 39) X rfl dX8_fullUp_39 ?_
        obtain ⟨x24, e25, h⟩ := lb_i h
        refine g_iinc (pc := 40) X 1 rfl dX8_fullUp_40 (v := x24) e25.symm (by decide) (lv' := [(1, .int x24), (0, rf V v0)]) rfl ?_
        refine g_goto (pc := 43) X (tgt := 13) dX8_fullUp_43 rfl ?_
        refine g_sub (lv' := [(0, rf V v0), (1, .int x24)]) [1, 0] rfl ?_
        exact ih _ _ _ h
      · have h := br_n c h
        refine g_iload_n (pc := 30) X 1 rfl dX8_fullUp_30 ?_
        obtain ⟨e1, e2⟩ := rt_i h
        exact g_iret (pc := 31) X Y.2.2.1 (Nat.le_of_ble_eq_true rfl) (Nat.le_of_ble_eq_true rfl) e1 e2 dX8_fullUp_31

def f_X8_fullUp (v0 : Nat) (w : Wd) : Option (Int32 × Wd) := (if wK w v0 = 8 then
 (bd1 (wR w v0 2) fun a2 =>
 (bd1 (wR w v0 0) fun a4 =>
 (if wK w a2 = 1 then
 (bd2 (f_X1_become a2 a4 w) fun r7 w8 =>
 L_X8_fullUp_13 FU v0 0 w8)
 else none)))
 else none)
theorem c_X8_fullUp {l : Launch} {V : Vt} {v0 : Nat} {w w' : Wd} {r : Int32} (h : f_X8_fullUp v0 w = some (r, w')) : MetW l V yX8_fullUp cX8_fullUp 2 (some .int) { frames := 6, cells := 0, slots := 0, locals := 139 } w [rf V v0] (some (.int r)) w' 0 0 := by
  refine g_start (by decide) (Nat.le_of_ble_eq_true rfl) ?_
  intro t _ hrm X hret hnm
  have Y : Hd_ t V cX8_fullUp 2 RX8 { frames := 6, cells := 0, slots := 0, locals := 139 } (some .int) "fullUp" := ⟨X, hrm, hret, hnm⟩
  refine g_as (lv' := [(0, rf V v0)]) (st' := []) rfl rfl ?_
  unfold f_X8_fullUp at h
  refine g_aload_n (pc := 0) X 0 rfl dX8_fullUp_0 ?_
  obtain ⟨k1, h⟩ := gd_i h
  obtain ⟨a2, e3, h⟩ := bd1_i h
  refine g_getR (pc := 1) X FcX8 k1 2 e3 (by decide) rfl q_323 dX8_fullUp_1 ?_
  refine g_aload_n (pc := 4) X 0 rfl dX8_fullUp_4 ?_
  obtain ⟨a4, e5, h⟩ := bd1_i h
  refine g_getR (pc := 5) X FcX8 k1 0 e5 (by decide) rfl q_321 dX8_fullUp_5 ?_
  obtain ⟨k6, h⟩ := gd_i h
  obtain ⟨r7, w8, h9, h⟩ := bd2_i h
  refine g_callV (pc := 8) X FcX1 k6 mk_X1_become q_637 q_638 q_636 (c_X1_become h9) rfl rfl (by rw [Y.2.1]; decide)  rfl (rest := []) rfl (Nat.le_of_ble_eq_true rfl) (by rw [Y.2.1]; exact ⟨Nat.le_of_ble_eq_true rfl, Nat.le_of_ble_eq_true rfl⟩) dX8_fullUp_8 (st' := []) rfl ?_
  refine g_iconst (pc := 11) X (v := 0) dX8_fullUp_11 rfl ?_
  refine g_istore_n (pc := 12) X (lv' := [(1, .int 0), (0, rf V v0)]) dX8_fullUp_12 (by decide) rfl ?_
  refine g_sub (lv' := [(0, rf V v0), (1, .int 0)]) [1, 0] rfl ?_
  exact bL_X8_fullUp_13 Y  h

def j_X8_rose_112 (kk32 : Nat → Int32 → Int32 → Int32 → Int32 → Int32 → Wd → Option (Int32 × Wd)) (v0 : Nat) (v1 : Int32) (v2 : Int32) (v5 : Int32) (w : Wd) : Option (Int32 × Wd) := (if wK w v0 = 8 then
 (bd1 (wR w v0 2) fun a53 =>
 (if wK w a53 = 1 then
 (lb_ (wI w a53 5) fun x56 =>
 (lb_ (v5 + 1) fun x58 =>
 kk32 v0 v1 v2 v5 x56 x58 w))
 else none))
 else none)
theorem bj_X8_rose_112 {t : Ct} {V : Vt} {r : Int32} {w' : Wd} {kk32 : Nat → Int32 → Int32 → Int32 → Int32 → Int32 → Wd → Option (Int32 × Wd)} (Y : Hd_ t V cX8_rose 6 RX8 { frames := 7, cells := 0, slots := 0, locals := 162 } (some .int) "rose") (hk32 : ∀ (u0 : Nat) (u1 : Int32) (u2 : Int32) (u3 : Int32) (u4 : Int32) (u5 : Int32) (w : Wd), kk32 u0 u1 u2 u3 u4 u5 w = some (r, w') → Gd t V 6 0 0 (Qe t V (some (.int r)) w' 0 0) 32 [(0, rf V u0), (1, .int u1), (2, .int u2), (3, .int u3), (4, .int u4), (5, .int u5)] [] w) {v0 : Nat} {v1 : Int32} {v2 : Int32} {v5 : Int32} {w : Wd} (h : j_X8_rose_112 kk32 v0 v1 v2 v5 w = some (r, w')) : Gd t V 6 0 0 (Qe t V (some (.int r)) w' 0 0) 112 [(0, rf V v0), (1, .int v1), (2, .int v2), (5, .int v5)] [] w := by
  have X := Y.1
  unfold j_X8_rose_112 at h
  refine g_iload (pc := 112) X 3 rfl dX8_rose_112 ?_
  refine g_istore_n (pc := 114) X (lv' := [(3, .int v5), (0, rf V v0), (1, .int v1), (2, .int v2), (5, .int v5)]) dX8_rose_114 (by decide) rfl ?_
  refine g_aload_n (pc := 115) X 1 rfl dX8_rose_115 ?_
  obtain ⟨k52, h⟩ := gd_i h
  obtain ⟨a53, e54, h⟩ := bd1_i h
  refine g_getR (pc := 116) X FcX8 k52 2 e54 (by decide) rfl q_323 dX8_rose_116 ?_
  obtain ⟨k55, h⟩ := gd_i h
  refine g_getI (pc := 119) X FcX1 k55 5 (by decide) rfl q_170 dX8_rose_119 ?_
  obtain ⟨x56, e57, h⟩ := lb_i h
  refine g_top e57 ?_
  refine g_istore (pc := 122) X (lv' := [(4, .int x56), (3, .int v5), (0, rf V v0), (1, .int v1), (2, .int v2), (5, .int v5)]) dX8_rose_122 (by decide) rfl ?_
  obtain ⟨x58, e59, h⟩ := lb_i h
  refine g_iinc (pc := 124) X 5 rfl dX8_rose_124 (v := x58) e59.symm (by decide) (lv' := [(5, .int x58), (4, .int x56), (3, .int v5), (0, rf V v0), (1, .int v1), (2, .int v2)]) rfl ?_
  refine g_goto (pc := 127) X (tgt := 32) dX8_rose_127 rfl ?_
  refine g_sub (lv' := [(0, rf V v0), (1, .int v1), (2, .int v2), (3, .int v5), (4, .int x56), (5, .int x58)]) [3, 4, 5, 2, 1, 0] rfl ?_
  exact hk32 _ _ _ _ _ _ _ h

def L_X8_rose_32  (n : Nat) (v0 : Nat) (v1 : Int32) (v2 : Int32) (v3 : Int32) (v4 : Int32) (v5 : Int32) (w : Wd) : Option (Int32 × Wd) := match n with
  | 0 => none
  | n + 1 => (if wK w v0 = 8 then
 (bd1 (wR w v0 0) fun a8 =>
 (if wK w a8 = 1 then
 (if (wI w a8 2) ≤ v5 then
 some ((if v2 = 0 then v3 else v4 : Int32), w)
 else
 (bd1 (wR w v0 0) fun a11 =>
 (if wK w a11 = 1 then
 (bd1 (wR w a11 1) fun a14 =>
 (if aK 14 w a14 v5 = true then
 (bd1 (wR w a14 (nx v5)) fun a17 =>
 (if wK w a17 = 4 then
 (bd2 (f_X4_sitsNow a17 w) fun r20 w21 =>
 (if r20 = 0 then
 (lb_ (v5 + 1) fun x23 =>
 L_X8_rose_32 n v0 v1 v2 v3 v4 x23 w21)
 else
 (if wK w21 v0 = 8 then
 (bd1 (wR w21 v0 2) fun a26 =>
 (bd1 (wR w21 v0 0) fun a28 =>
 (if wK w21 a26 = 1 then
 (bd2 (f_X1_become a26 a28 w21) fun r31 w32 =>
 (if wK w32 v0 = 8 then
 (bd1 (wR w32 v0 2) fun a35 =>
 (if wK w32 a35 = 1 then
 (bd1 (wR w32 a35 1) fun a38 =>
 (if aK 14 w32 a38 v5 = true then
 (bd1 (wR w32 a38 (nx v5)) fun a41 =>
 (if wK w32 a41 = 4 then
 (lb_ (sI w32 a41 1 (-1)) fun w44 =>
 (bd1 (wR w44 v0 2) fun a46 =>
 (if wK w44 a46 = 1 then
 (bd2 (f_X1_pass a46 v1 w44) fun r49 w50 =>
 (if v3 = (-1000000005) then
 j_X8_rose_112 (L_X8_rose_32 n) v0 v1 v2 v5 w50
 else
 (if wK w50 v0 = 8 then
 (bd1 (wR w50 v0 2) fun a61 =>
 (if wK w50 a61 = 1 then
 (if (wI w50 a61 5) ≤ v4 then
 (lb_ (v5 + 1) fun x64 =>
 L_X8_rose_32 n v0 v1 v2 v3 v4 x64 w50)
 else
 j_X8_rose_112 (L_X8_rose_32 n) v0 v1 v2 v5 w50)
 else none))
 else none)))
 else none)))
 else none))
 else none))
 else none))
 else none))
 else none)))
 else none)))
 else none))
 else none))
 else none)))
 else none))
 else none)
theorem bL_X8_rose_32 {t : Ct} {V : Vt} {r : Int32} {w' : Wd} (Y : Hd_ t V cX8_rose 6 RX8 { frames := 7, cells := 0, slots := 0, locals := 162 } (some .int) "rose") : ∀ {n : Nat} {v0 : Nat} {v1 : Int32} {v2 : Int32} {v3 : Int32} {v4 : Int32} {v5 : Int32} {w : Wd}, L_X8_rose_32  n v0 v1 v2 v3 v4 v5 w = some (r, w') → Gd t V 6 0 0 (Qe t V (some (.int r)) w' 0 0) 32 [(0, rf V v0), (1, .int v1), (2, .int v2), (3, .int v3), (4, .int v4), (5, .int v5)] [] w := by
  have X := Y.1
  intro n
  induction n with
  | zero => intro v0 v1 v2 v3 v4 v5 w h; cases h
  | succ n ih0 =>
    have ih : ∀ (v0 : Nat) (v1 : Int32) (v2 : Int32) (v3 : Int32) (v4 : Int32) (v5 : Int32) (w : Wd), L_X8_rose_32  n v0 v1 v2 v3 v4 v5 w = some (r, w') → Gd t V 6 0 0 (Qe t V (some (.int r)) w' 0 0) 32 [(0, rf V v0), (1, .int v1), (2, .int v2), (3, .int v3), (4, .int v4), (5, .int v5)] [] w := fun v0 v1 v2 v3 v4 v5 w h => ih0 h
    clear ih0
    intro v0 v1 v2 v3 v4 v5 w h
    unfold L_X8_rose_32 at h
    refine g_iload (pc := 32) X 5 rfl dX8_rose_32 ?_
    refine g_aload_n (pc := 34) X 0 rfl dX8_rose_34 ?_
    obtain ⟨k7, h⟩ := gd_i h
    obtain ⟨a8, e9, h⟩ := bd1_i h
    refine g_getR (pc := 35) X FcX8 k7 0 e9 (by decide) rfl q_321 dX8_rose_35 ?_
    obtain ⟨k10, h⟩ := gd_i h
    refine g_getI (pc := 38) X FcX1 k10 2 (by decide) rfl q_162 dX8_rose_38 ?_
    refine g_icmp_ge (pc := 41) X (tgt := 130) dX8_rose_41 rfl (fun c => ?_) (fun c => ?_)
    · have h := br_y c h
      refine g_iload_n (pc := 130) X 2 rfl dX8_rose_130 ?_
      have kJ : Gd t V 6 0 0 (Qe t V (some (.int r)) w' 0 0) 140 [(0, rf V v0), (1, .int v1), (2, .int v2), (3, .int v3), (4, .int v4), (5, .int v5)] [.int (if v2 = 0 then v3 else v4 : Int32)] w := by
        obtain ⟨e1, e2⟩ := rt_i h
        exact g_iret (pc := 140) X Y.2.2.1 (Nat.le_of_ble_eq_true rfl) (Nat.le_of_ble_eq_true rfl) e1 e2 dX8_rose_140
      refine g_if_ne (pc := 131) X (tgt := 138) dX8_rose_131 rfl (fun c0 => ?_) (fun c0 => ?_)
      · refine g_iload (pc := 138) X 4 rfl dX8_rose_138 ?_
        exact g_top (by rw [if_neg c0]) kJ
      · refine g_iload_n (pc := 134) X 3 rfl dX8_rose_134 ?_
        refine g_goto (pc := 135) X (tgt := 140) dX8_rose_135 rfl ?_
        exact g_top (by rw [if_pos c0]) kJ
    · have h := br_n c h
      refine g_aload_n (pc := 44) X 0 rfl dX8_rose_44 ?_
      obtain ⟨a11, e12, h⟩ := bd1_i h
      refine g_getR (pc := 45) X FcX8 k7 0 e12 (by decide) rfl q_321 dX8_rose_45 ?_
      obtain ⟨k13, h⟩ := gd_i h
      obtain ⟨a14, e15, h⟩ := bd1_i h
      refine g_getR (pc := 48) X FcX1 k13 1 e15 (by decide) rfl q_160 dX8_rose_48 ?_
      refine g_iload (pc := 51) X 5 rfl dX8_rose_51 ?_
      obtain ⟨k16, h⟩ := gd_i h
      obtain ⟨a17, e18, h⟩ := bd1_i h
      refine g_aald (pc := 53) X (C := RX4) k16 (by decide) (by decide) rfl e18 dX8_rose_53 ?_
      obtain ⟨k19, h⟩ := gd_i h
      obtain ⟨r20, w21, h22, h⟩ := bd2_i h
      refine g_callV (pc := 54) X FcX4 k19 mk_X4_sitsNow q_373 q_374 q_469 (c_X4_sitsNow h22) rfl rfl (by rw [Y.2.1]; decide)  rfl (rest := []) rfl (Nat.le_of_ble_eq_true rfl) (by rw [Y.2.1]; exact ⟨Nat.le_of_ble_eq_true rfl, Nat.le_of_ble_eq_true rfl⟩) dX8_rose_54 (st' := [.int r20]) rfl ?_
      refine g_if_eq (pc := 57) X (tgt := 124) dX8_rose_57 rfl (fun c => ?_) (fun c => ?_)
      · have h := br_y c h
        obtain ⟨x23, e24, h⟩ := lb_i h
        refine g_iinc (pc := 124) X 5 rfl dX8_rose_124 (v := x23) e24.symm (by decide) (lv' := [(5, .int x23), (0, rf V v0), (1, .int v1), (2, .int v2), (3, .int v3), (4, .int v4)]) rfl ?_
        refine g_goto (pc := 127) X (tgt := 32) dX8_rose_127 rfl ?_
        refine g_sub (lv' := [(0, rf V v0), (1, .int v1), (2, .int v2), (3, .int v3), (4, .int v4), (5, .int x23)]) [1, 2, 3, 4, 5, 0] rfl ?_
        exact ih _ _ _ _ _ _ _ h
      · have h := br_n c h
        refine g_aload_n (pc := 60) X 0 rfl dX8_rose_60 ?_
        obtain ⟨k25, h⟩ := gd_i h
        obtain ⟨a26, e27, h⟩ := bd1_i h
        refine g_getR (pc := 61) X FcX8 k25 2 e27 (by decide) rfl q_323 dX8_rose_61 ?_
        refine g_aload_n (pc := 64) X 0 rfl dX8_rose_64 ?_
        obtain ⟨a28, e29, h⟩ := bd1_i h
        refine g_getR (pc := 65) X FcX8 k25 0 e29 (by decide) rfl q_321 dX8_rose_65 ?_
        obtain ⟨k30, h⟩ := gd_i h
        obtain ⟨r31, w32, h33, h⟩ := bd2_i h
        refine g_callV (pc := 68) X FcX1 k30 mk_X1_become q_637 q_638 q_636 (c_X1_become h33) rfl rfl (by rw [Y.2.1]; decide)  rfl (rest := []) rfl (Nat.le_of_ble_eq_true rfl) (by rw [Y.2.1]; exact ⟨Nat.le_of_ble_eq_true rfl, Nat.le_of_ble_eq_true rfl⟩) dX8_rose_68 (st' := []) rfl ?_
        refine g_aload_n (pc := 71) X 0 rfl dX8_rose_71 ?_
        obtain ⟨k34, h⟩ := gd_i h
        obtain ⟨a35, e36, h⟩ := bd1_i h
        refine g_getR (pc := 72) X FcX8 k34 2 e36 (by decide) rfl q_323 dX8_rose_72 ?_
        obtain ⟨k37, h⟩ := gd_i h
        obtain ⟨a38, e39, h⟩ := bd1_i h
        refine g_getR (pc := 75) X FcX1 k37 1 e39 (by decide) rfl q_160 dX8_rose_75 ?_
        refine g_iload (pc := 78) X 5 rfl dX8_rose_78 ?_
        obtain ⟨k40, h⟩ := gd_i h
        obtain ⟨a41, e42, h⟩ := bd1_i h
        refine g_aald (pc := 80) X (C := RX4) k40 (by decide) (by decide) rfl e42 dX8_rose_80 ?_
        refine g_iconst (pc := 81) X (v := (-1)) dX8_rose_81 rfl ?_
        obtain ⟨k43, h⟩ := gd_i h
        refine g_putI (pc := 82) X FcX4 k43 1 (by decide) rfl q_139 rfl rfl rfl dX8_rose_82 ?_
        obtain ⟨w44, e45, h⟩ := lb_i h
        refine g_w e45 ?_
        refine g_aload_n (pc := 85) X 0 rfl dX8_rose_85 ?_
        obtain ⟨a46, e47, h⟩ := bd1_i h
        refine g_getR (pc := 86) X FcX8 (kd_I e45 k34) 2 e47 (by decide) rfl q_323 dX8_rose_86 ?_
        refine g_iload_n (pc := 89) X 1 rfl dX8_rose_89 ?_
        obtain ⟨k48, h⟩ := gd_i h
        obtain ⟨r49, w50, h51, h⟩ := bd2_i h
        refine g_callV (pc := 90) X FcX1 k48 mk_X1_pass q_548 q_549 q_547 (c_X1_pass h51) rfl rfl (by rw [Y.2.1]; decide)  rfl (rest := []) rfl (Nat.le_of_ble_eq_true rfl) (by rw [Y.2.1]; exact ⟨Nat.le_of_ble_eq_true rfl, Nat.le_of_ble_eq_true rfl⟩) dX8_rose_90 (st' := [.int r49]) rfl ?_
        refine g_pop (pc := 93) X rfl dX8_rose_93 ?_
        refine g_iload_n (pc := 94) X 3 rfl dX8_rose_94 ?_
        refine g_ldc (pc := 95) X q_516 dX8_rose_95 ?_
        refine g_icmp_eq (pc := 97) X (tgt := 112) dX8_rose_97 rfl (fun c => ?_) (fun c => ?_)
        · have h := br_y c h
          refine g_sub (lv' := [(0, rf V v0), (1, .int v1), (2, .int v2), (5, .int v5)]) [0, 1, 2, 5] rfl ?_
          exact bj_X8_rose_112 Y (ih) h
        · have h := br_n c h
          refine g_aload_n (pc := 100) X 0 rfl dX8_rose_100 ?_
          obtain ⟨k60, h⟩ := gd_i h
          obtain ⟨a61, e62, h⟩ := bd1_i h
          refine g_getR (pc := 101) X FcX8 k60 2 e62 (by decide) rfl q_323 dX8_rose_101 ?_
          obtain ⟨k63, h⟩ := gd_i h
          refine g_getI (pc := 104) X FcX1 k63 5 (by decide) rfl q_170 dX8_rose_104 ?_
          refine g_iload (pc := 107) X 4 rfl dX8_rose_107 ?_
          refine g_icmp_le (pc := 109) X (tgt := 124) dX8_rose_109 rfl (fun c => ?_) (fun c => ?_)
          · have h := br_y c h
            obtain ⟨x64, e65, h⟩ := lb_i h
            refine g_iinc (pc := 124) X 5 rfl dX8_rose_124 (v := x64) e65.symm (by decide) (lv' := [(5, .int x64), (0, rf V v0), (1, .int v1), (2, .int v2), (3, .int v3), (4, .int v4)]) rfl ?_
            refine g_goto (pc := 127) X (tgt := 32) dX8_rose_127 rfl ?_
            refine g_sub (lv' := [(0, rf V v0), (1, .int v1), (2, .int v2), (3, .int v3), (4, .int v4), (5, .int x64)]) [1, 2, 3, 4, 5, 0] rfl ?_
            exact ih _ _ _ _ _ _ _ h
          · have h := br_n c h
            refine g_sub (lv' := [(0, rf V v0), (1, .int v1), (2, .int v2), (5, .int v5)]) [0, 1, 2, 5] rfl ?_
            exact bj_X8_rose_112 Y (ih) h

def f_X8_rose (v0 : Nat) (v1 : Int32) (v2 : Int32) (w : Wd) : Option (Int32 × Wd) := (bd2 (f_X8_isWithin v1 1 60 w) fun r1 w2 =>
 (if r1 = 0 then
 some ((-1000000001), w2)
 else
 (bd2 (f_X8_isWithin v2 0 1 w2) fun r4 w5 =>
 (if r4 = 0 then
 some ((-1000000001), w5)
 else
 L_X8_rose_32 FU v0 v1 v2 (-1000000005) (-1000000005) 0 w5))))
theorem c_X8_rose {l : Launch} {V : Vt} {v0 : Nat} {v1 : Int32} {v2 : Int32} {w w' : Wd} {r : Int32} (h : f_X8_rose v0 v1 v2 w = some (r, w')) : MetW l V yX8_rose cX8_rose 6 (some .int) { frames := 7, cells := 0, slots := 0, locals := 162 } w [rf V v0, .int v1, .int v2] (some (.int r)) w' 0 0 := by
  refine g_start (by decide) (Nat.le_of_ble_eq_true rfl) ?_
  intro t _ hrm X hret hnm
  have Y : Hd_ t V cX8_rose 6 RX8 { frames := 7, cells := 0, slots := 0, locals := 162 } (some .int) "rose" := ⟨X, hrm, hret, hnm⟩
  refine g_as (lv' := [(0, rf V v0), (1, .int v1), (2, .int v2)]) (st' := []) rfl rfl ?_
  unfold f_X8_rose at h
  refine g_iload_n (pc := 0) X 1 rfl dX8_rose_0 ?_
  refine g_iconst (pc := 1) X (v := 1) dX8_rose_1 rfl ?_
  refine g_bipush (pc := 2) X (v := 60) dX8_rose_2 rfl ?_
  obtain ⟨r1, w2, h3, h⟩ := bd2_i h
  refine g_callS (pc := 4) X mk_X8_isWithin q_357 q_356 (c_X8_isWithin h3) rfl rfl (by rw [Y.2.1]; decide)  rfl (rest := []) rfl (Nat.le_of_ble_eq_true rfl) (by rw [Y.2.1]; exact ⟨Nat.le_of_ble_eq_true rfl, Nat.le_of_ble_eq_true rfl⟩) dX8_rose_4 (st' := [.int r1]) rfl ?_
  refine g_if_eq (pc := 7) X (tgt := 19) dX8_rose_7 rfl (fun c => ?_) (fun c => ?_)
  · have h := br_y c h
    refine g_ldc (pc := 19) X q_359 dX8_rose_19 ?_
    obtain ⟨e1, e2⟩ := rt_i h
    exact g_iret (pc := 21) X Y.2.2.1 (Nat.le_of_ble_eq_true rfl) (Nat.le_of_ble_eq_true rfl) e1 e2 dX8_rose_21
  · have h := br_n c h
    refine g_iload_n (pc := 10) X 2 rfl dX8_rose_10 ?_
    refine g_iconst (pc := 11) X (v := 0) dX8_rose_11 rfl ?_
    refine g_iconst (pc := 12) X (v := 1) dX8_rose_12 rfl ?_
    obtain ⟨r4, w5, h6, h⟩ := bd2_i h
    refine g_callS (pc := 13) X mk_X8_isWithin q_357 q_356 (c_X8_isWithin h6) rfl rfl (by rw [Y.2.1]; decide)  rfl (rest := []) rfl (Nat.le_of_ble_eq_true rfl) (by rw [Y.2.1]; exact ⟨Nat.le_of_ble_eq_true rfl, Nat.le_of_ble_eq_true rfl⟩) dX8_rose_13 (st' := [.int r4]) rfl ?_
    refine g_if_ne (pc := 16) X (tgt := 22) dX8_rose_16 rfl (fun c => ?_) (fun c => ?_)
    · have h := br_n c h
      refine g_ldc (pc := 22) X q_516 dX8_rose_22 ?_
      refine g_istore_n (pc := 24) X (lv' := [(3, .int (-1000000005)), (0, rf V v0), (1, .int v1), (2, .int v2)]) dX8_rose_24 (by decide) rfl ?_
      refine g_ldc (pc := 25) X q_516 dX8_rose_25 ?_
      refine g_istore (pc := 27) X (lv' := [(4, .int (-1000000005)), (3, .int (-1000000005)), (0, rf V v0), (1, .int v1), (2, .int v2)]) dX8_rose_27 (by decide) rfl ?_
      refine g_iconst (pc := 29) X (v := 0) dX8_rose_29 rfl ?_
      refine g_istore (pc := 30) X (lv' := [(5, .int 0), (4, .int (-1000000005)), (3, .int (-1000000005)), (0, rf V v0), (1, .int v1), (2, .int v2)]) dX8_rose_30 (by decide) rfl ?_
      refine g_sub (lv' := [(0, rf V v0), (1, .int v1), (2, .int v2), (3, .int (-1000000005)), (4, .int (-1000000005)), (5, .int 0)]) [3, 4, 5, 2, 1, 0] rfl ?_
      exact bL_X8_rose_32 Y  h
    · have h := br_y c h
      refine g_ldc (pc := 19) X q_359 dX8_rose_19 ?_
      obtain ⟨e1, e2⟩ := rt_i h
      exact g_iret (pc := 21) X Y.2.2.1 (Nat.le_of_ble_eq_true rfl) (Nat.le_of_ble_eq_true rfl) e1 e2 dX8_rose_21

def f_X8_isSheet (v0 : Int32) (w : Wd) : Option (Int32 × Wd) := (bd2 (f_X8_isWithin v0 0 3 w) fun r1 w2 =>
 (if r1 = 0 ∨ r1 = 1 then
 some (r1, w2)
 else none))
theorem c_X8_isSheet {l : Launch} {V : Vt} {v0 : Int32} {w w' : Wd} {r : Int32} (h : f_X8_isSheet v0 w = some (r, w')) : MetW l V yX8_isSheet cX8_isSheet 1 (some .boolean) { frames := 1, cells := 0, slots := 0, locals := 22 } w [.int v0] (some (.int r)) w' 0 0 := by
  refine g_start (by decide) (Nat.le_of_ble_eq_true rfl) ?_
  intro t _ hrm X hret hnm
  have Y : Hd_ t V cX8_isSheet 1 RX8 { frames := 1, cells := 0, slots := 0, locals := 22 } (some .boolean) "isSheet" := ⟨X, hrm, hret, hnm⟩
  refine g_as (lv' := [(0, .int v0)]) (st' := []) rfl rfl ?_
  unfold f_X8_isSheet at h
  refine g_iload_n (pc := 0) X 0 rfl dX8_isSheet_0 ?_
  refine g_iconst (pc := 1) X (v := 0) dX8_isSheet_1 rfl ?_
  refine g_iconst (pc := 2) X (v := 3) dX8_isSheet_2 rfl ?_
  obtain ⟨r1, w2, h3, h⟩ := bd2_i h
  refine g_callS (pc := 3) X mk_X8_isWithin q_357 q_356 (c_X8_isWithin h3) rfl rfl (by rw [Y.2.1]; decide)  rfl (rest := []) rfl (Nat.le_of_ble_eq_true rfl) (by rw [Y.2.1]; exact ⟨Nat.le_of_ble_eq_true rfl, Nat.le_of_ble_eq_true rfl⟩) dX8_isSheet_3 (st' := [.int r1]) rfl ?_
  obtain ⟨k4, h⟩ := gd_i h
  obtain ⟨e1, e2⟩ := rt_i h
  exact g_zret (pc := 6) X Y.2.2.1 k4 (Nat.le_of_ble_eq_true rfl) (Nat.le_of_ble_eq_true rfl) e1 e2 dX8_isSheet_6

def f_X8_refusalOf (v0 : Nat) (v1 : Int32) (w : Wd) : Option (Int32 × Wd) := (bd2 (f_X8_isSheet v1 w) fun r1 w2 =>
 (if r1 = 0 then
 some ((-1000000001), w2)
 else
 (if wK w2 v0 = 8 then
 (bd1 (wR w2 v0 6) fun a5 =>
 (if aK 13 w2 a5 v1 = true then
 (bd1 (wR w2 a5 (nx v1)) fun a8 =>
 (if wK w2 a8 = 3 then
 some ((if (wI w2 a8 0) = (-1) then (-1000000011) else 0 : Int32), w2)
 else none))
 else none))
 else none)))
theorem c_X8_refusalOf {l : Launch} {V : Vt} {v0 : Nat} {v1 : Int32} {w w' : Wd} {r : Int32} (h : f_X8_refusalOf v0 v1 w = some (r, w')) : MetW l V yX8_refusalOf cX8_refusalOf 2 (some .int) { frames := 2, cells := 0, slots := 0, locals := 42 } w [rf V v0, .int v1] (some (.int r)) w' 0 0 := by
  refine g_start (by decide) (Nat.le_of_ble_eq_true rfl) ?_
  intro t _ hrm X hret hnm
  have Y : Hd_ t V cX8_refusalOf 2 RX8 { frames := 2, cells := 0, slots := 0, locals := 42 } (some .int) "refusalOf" := ⟨X, hrm, hret, hnm⟩
  refine g_as (lv' := [(0, rf V v0), (1, .int v1)]) (st' := []) rfl rfl ?_
  unfold f_X8_refusalOf at h
  refine g_iload_n (pc := 0) X 1 rfl dX8_refusalOf_0 ?_
  obtain ⟨r1, w2, h3, h⟩ := bd2_i h
  refine g_callS (pc := 1) X mk_X8_isSheet q_674 q_673 (c_X8_isSheet h3) rfl rfl (by rw [Y.2.1]; decide)  rfl (rest := []) rfl (Nat.le_of_ble_eq_true rfl) (by rw [Y.2.1]; exact ⟨Nat.le_of_ble_eq_true rfl, Nat.le_of_ble_eq_true rfl⟩) dX8_refusalOf_1 (st' := [.int r1]) rfl ?_
  refine g_if_ne (pc := 4) X (tgt := 10) dX8_refusalOf_4 rfl (fun c => ?_) (fun c => ?_)
  · have h := br_n c h
    refine g_aload_n (pc := 10) X 0 rfl dX8_refusalOf_10 ?_
    obtain ⟨k4, h⟩ := gd_i h
    obtain ⟨a5, e6, h⟩ := bd1_i h
    refine g_getR (pc := 11) X FcX8 k4 6 e6 (by decide) rfl q_327 dX8_refusalOf_11 ?_
    refine g_iload_n (pc := 14) X 1 rfl dX8_refusalOf_14 ?_
    obtain ⟨k7, h⟩ := gd_i h
    obtain ⟨a8, e9, h⟩ := bd1_i h
    refine g_aald (pc := 15) X (C := RX3) k7 (by decide) (by decide) rfl e9 dX8_refusalOf_15 ?_
    obtain ⟨k10, h⟩ := gd_i h
    refine g_getI (pc := 16) X FcX3 k10 0 (by decide) rfl q_285 dX8_refusalOf_16 ?_
    refine g_iconst (pc := 19) X (v := (-1)) dX8_refusalOf_19 rfl ?_
    have kJ : Gd t V 2 0 0 (Qe t V (some (.int r)) w' 0 0) 30 [(0, rf V v0), (1, .int v1)] [.int (if (wI w2 a8 0) = (-1) then (-1000000011) else 0 : Int32)] w2 := by
      obtain ⟨e1, e2⟩ := rt_i h
      exact g_iret (pc := 30) X Y.2.2.1 (Nat.le_of_ble_eq_true rfl) (Nat.le_of_ble_eq_true rfl) e1 e2 dX8_refusalOf_30
    refine g_icmp_ne (pc := 20) X (tgt := 29) dX8_refusalOf_20 rfl (fun c0 => ?_) (fun c0 => ?_)
    · refine g_iconst (pc := 29) X (v := 0) dX8_refusalOf_29 rfl ?_
      exact g_top (by rw [if_neg c0]) kJ
    · refine g_ldcw (pc := 23) X q_676 dX8_refusalOf_23 ?_
      refine g_goto (pc := 26) X (tgt := 30) dX8_refusalOf_26 rfl ?_
      exact g_top (by rw [if_pos c0]) kJ
  · have h := br_y c h
    refine g_ldc (pc := 7) X q_359 dX8_refusalOf_7 ?_
    obtain ⟨e1, e2⟩ := rt_i h
    exact g_iret (pc := 9) X Y.2.2.1 (Nat.le_of_ble_eq_true rfl) (Nat.le_of_ble_eq_true rfl) e1 e2 dX8_refusalOf_9

def L_X8_book_34  (n : Nat) (v0 : Nat) (v3 : Nat) (v4 : Int32) (v5 : Int32) (v6 : Int32) (w : Wd) : Option (Int32 × Wd) := match n with
  | 0 => none
  | n + 1 => (if wK w v3 = 3 then
 (if (wI w v3 1) ≤ v6 then
 some (v5, w)
 else
 (bd1 (wR w v3 2) fun a18 =>
 (if aK 11 w a18 v6 = true then
 (lb_ (wI w a18 (nx v6)) fun x21 =>
 (if x21 = (-1000000005) then
 (lb_ (v6 + 1) fun x23 =>
 L_X8_book_34 n v0 v3 v4 v5 x23 w)
 else
 (if wK w v0 = 8 then
 (bd2 (f_X8_isPlace v0 x21 w) fun r26 w27 =>
 (if r26 = 0 then
 some (v5, w27)
 else
 (if wK w27 v0 = 8 then
 (bd1 (wR w27 v0 0) fun a30 =>
 (if wK w27 a30 = 1 then
 (bd1 (wR w27 a30 0) fun a33 =>
 (if wK w27 a33 = 0 then
 (bd2 (f_X0_ordinary a33 v4 w27) fun r36 w37 =>
 (bd2 (f_X8_has r36 x21 w37) fun r39 w40 =>
 (if r39 = 0 then
 some (v5, w40)
 else
 (lb_ (v4 ||| (1 <<< (x21 &&& 31))) fun x42 =>
 (lb_ (v5 + 1) fun x44 =>
 (lb_ (v6 + 1) fun x46 =>
 L_X8_book_34 n v0 v3 x42 x44 x46 w40))))))
 else none))
 else none))
 else none)))
 else none)))
 else none)))
 else none)
theorem bL_X8_book_34 {t : Ct} {V : Vt} {r : Int32} {w' : Wd} (Y : Hd_ t V cX8_book 8 RX8 { frames := 3, cells := 0, slots := 0, locals := 66 } (some .int) "book") : ∀ {n : Nat} {v0 : Nat} {v3 : Nat} {v4 : Int32} {v5 : Int32} {v6 : Int32} {w : Wd}, L_X8_book_34  n v0 v3 v4 v5 v6 w = some (r, w') → Gd t V 8 0 0 (Qe t V (some (.int r)) w' 0 0) 34 [(0, rf V v0), (3, rf V v3), (4, .int v4), (5, .int v5), (6, .int v6)] [] w := by
  have X := Y.1
  intro n
  induction n with
  | zero => intro v0 v3 v4 v5 v6 w h; cases h
  | succ n ih0 =>
    have ih : ∀ (v0 : Nat) (v3 : Nat) (v4 : Int32) (v5 : Int32) (v6 : Int32) (w : Wd), L_X8_book_34  n v0 v3 v4 v5 v6 w = some (r, w') → Gd t V 8 0 0 (Qe t V (some (.int r)) w' 0 0) 34 [(0, rf V v0), (3, rf V v3), (4, .int v4), (5, .int v5), (6, .int v6)] [] w := fun v0 v3 v4 v5 v6 w h => ih0 h
    clear ih0
    intro v0 v3 v4 v5 v6 w h
    unfold L_X8_book_34 at h
    refine g_iload (pc := 34) X 4 rfl dX8_book_34 ?_
    refine g_aload_n (pc := 36) X 1 rfl dX8_book_36 ?_
    obtain ⟨k17, h⟩ := gd_i h
    refine g_getI (pc := 37) X FcX3 k17 1 (by decide) rfl q_287 dX8_book_37 ?_
    refine g_icmp_ge (pc := 40) X (tgt := 109) dX8_book_40 rfl (fun c => ?_) (fun c => ?_)
    · have h := br_y c h
      refine g_iload (pc := 109) X 3 rfl dX8_book_109 ?_
      obtain ⟨e1, e2⟩ := rt_i h
      exact g_iret (pc := 111) X Y.2.2.1 (Nat.le_of_ble_eq_true rfl) (Nat.le_of_ble_eq_true rfl) e1 e2 dX8_book_111
    · have h := br_n c h
      refine g_aload_n (pc := 43) X 1 rfl dX8_book_43 ?_
      obtain ⟨a18, e19, h⟩ := bd1_i h
      refine g_getR (pc := 44) X FcX3 k17 2 e19 (by decide) rfl q_289 dX8_book_44 ?_
      refine g_iload (pc := 47) X 4 rfl dX8_book_47 ?_
      obtain ⟨k20, h⟩ := gd_i h
      refine g_iald (pc := 49) X k20 dX8_book_49 ?_
      obtain ⟨x21, e22, h⟩ := lb_i h
      refine g_top e22 ?_
      refine g_istore (pc := 50) X (lv' := [(7, .int x21), (0, rf V v0), (3, rf V v3), (4, .int v4), (5, .int v5), (6, .int v6)]) dX8_book_50 (by decide) rfl ?_
      refine g_iload (pc := 52) X 0 rfl dX8_book_52 ?_
      refine g_ldc (pc := 54) X q_516 dX8_book_54 ?_
      refine g_icmp_eq (pc := 56) X (tgt := 103) dX8_book_56 rfl (fun c => ?_) (fun c => ?_)
      · have h := br_y c h
        obtain ⟨x23, e24, h⟩ := lb_i h
        refine g_iinc (pc := 103) X 5 rfl dX8_book_103 (v := x23) e24.symm (by decide) (lv' := [(6, .int x23), (7, .int x21), (0, rf V v0), (3, rf V v3), (4, .int v4), (5, .int v5)]) rfl ?_
        refine g_goto (pc := 106) X (tgt := 34) dX8_book_106 rfl ?_
        refine g_sub (lv' := [(0, rf V v0), (3, rf V v3), (4, .int v4), (5, .int v5), (6, .int x23)]) [2, 3, 4, 5, 0] rfl ?_
        exact ih _ _ _ _ _ _ h
      · have h := br_n c h
        refine g_aload_n (pc := 59) X 1 rfl dX8_book_59 ?_
        refine g_iload (pc := 60) X 0 rfl dX8_book_60 ?_
        obtain ⟨k25, h⟩ := gd_i h
        obtain ⟨r26, w27, h28, h⟩ := bd2_i h
        refine g_callV (pc := 62) X FcX8 k25 mk_X8_isPlace q_477 q_1 q_475 (c_X8_isPlace h28) rfl rfl (by rw [Y.2.1]; decide)  rfl (rest := []) rfl (Nat.le_of_ble_eq_true rfl) (by rw [Y.2.1]; exact ⟨Nat.le_of_ble_eq_true rfl, Nat.le_of_ble_eq_true rfl⟩) dX8_book_62 (st' := [.int r26]) rfl ?_
        refine g_if_eq (pc := 65) X (tgt := 88) dX8_book_65 rfl (fun c => ?_) (fun c => ?_)
        · have h := br_y c h
          refine g_iload (pc := 88) X 4 rfl dX8_book_88 ?_
          obtain ⟨e1, e2⟩ := rt_i h
          exact g_iret (pc := 90) X Y.2.2.1 (Nat.le_of_ble_eq_true rfl) (Nat.le_of_ble_eq_true rfl) e1 e2 dX8_book_90
        · have h := br_n c h
          refine g_aload_n (pc := 68) X 1 rfl dX8_book_68 ?_
          obtain ⟨k29, h⟩ := gd_i h
          obtain ⟨a30, e31, h⟩ := bd1_i h
          refine g_getR (pc := 69) X FcX8 k29 0 e31 (by decide) rfl q_321 dX8_book_69 ?_
          obtain ⟨k32, h⟩ := gd_i h
          obtain ⟨a33, e34, h⟩ := bd1_i h
          refine g_getR (pc := 72) X FcX1 k32 0 e34 (by decide) rfl q_158 dX8_book_72 ?_
          refine g_iload (pc := 75) X 3 rfl dX8_book_75 ?_
          obtain ⟨k35, h⟩ := gd_i h
          obtain ⟨r36, w37, h38, h⟩ := bd2_i h
          refine g_callV (pc := 77) X FcX0 k35 mk_X0_ordinary q_452 q_453 q_677 (c_X0_ordinary h38) rfl rfl (by rw [Y.2.1]; decide)  rfl (rest := []) rfl (Nat.le_of_ble_eq_true rfl) (by rw [Y.2.1]; exact ⟨Nat.le_of_ble_eq_true rfl, Nat.le_of_ble_eq_true rfl⟩) dX8_book_77 (st' := [.int r36]) rfl ?_
          refine g_iload (pc := 80) X 0 rfl dX8_book_80 ?_
          obtain ⟨r39, w40, h41, h⟩ := bd2_i h
          refine g_callS (pc := 82) X mk_X8_has q_480 q_479 (c_X8_has h41) rfl rfl (by rw [Y.2.1]; decide)  rfl (rest := []) rfl (Nat.le_of_ble_eq_true rfl) (by rw [Y.2.1]; exact ⟨Nat.le_of_ble_eq_true rfl, Nat.le_of_ble_eq_true rfl⟩) dX8_book_82 (st' := [.int r39]) rfl ?_
          refine g_if_ne (pc := 85) X (tgt := 91) dX8_book_85 rfl (fun c => ?_) (fun c => ?_)
          · have h := br_n c h
            refine g_iload (pc := 91) X 3 rfl dX8_book_91 ?_
            refine g_iconst (pc := 93) X (v := 1) dX8_book_93 rfl ?_
            refine g_iload (pc := 94) X 0 rfl dX8_book_94 ?_
            refine g_ishl (pc := 96) X dX8_book_96 ?_
            refine g_ior (pc := 97) X dX8_book_97 ?_
            obtain ⟨x42, e43, h⟩ := lb_i h
            refine g_top e43 ?_
            refine g_istore (pc := 98) X (lv' := [(4, .int x42), (7, .int x21), (0, rf V v0), (3, rf V v3), (5, .int v5), (6, .int v6)]) dX8_book_98 (by decide) rfl ?_
            obtain ⟨x44, e45, h⟩ := lb_i h
            refine g_iinc (pc := 100) X 4 rfl dX8_book_100 (v := x44) e45.symm (by decide) (lv' := [(5, .int x44), (4, .int x42), (7, .int x21), (0, rf V v0), (3, rf V v3), (6, .int v6)]) rfl ?_
            obtain ⟨x46, e47, h⟩ := lb_i h
            refine g_iinc (pc := 103) X 5 rfl dX8_book_103 (v := x46) e47.symm (by decide) (lv' := [(6, .int x46), (5, .int x44), (4, .int x42), (7, .int x21), (0, rf V v0), (3, rf V v3)]) rfl ?_
            refine g_goto (pc := 106) X (tgt := 34) dX8_book_106 rfl ?_
            refine g_sub (lv' := [(0, rf V v0), (3, rf V v3), (4, .int x42), (5, .int x44), (6, .int x46)]) [4, 5, 2, 1, 0] rfl ?_
            exact ih _ _ _ _ _ _ h
          · have h := br_y c h
            refine g_iload (pc := 88) X 4 rfl dX8_book_88 ?_
            obtain ⟨e1, e2⟩ := rt_i h
            exact g_iret (pc := 90) X Y.2.2.1 (Nat.le_of_ble_eq_true rfl) (Nat.le_of_ble_eq_true rfl) e1 e2 dX8_book_90

def f_X8_book (v0 : Nat) (v1 : Int32) (w : Wd) : Option (Int32 × Wd) := (if wK w v0 = 8 then
 (bd2 (f_X8_refusalOf v0 v1 w) fun r2 w3 =>
 (if r2 = 0 then
 (if wK w3 v0 = 8 then
 (bd1 (wR w3 v0 6) fun a6 =>
 (if aK 13 w3 a6 v1 = true then
 (bd1 (wR w3 a6 (nx v1)) fun a9 =>
 (bd1 (wR w3 v0 0) fun a11 =>
 (if wK w3 a11 = 1 then
 (bd2 (f_X1_taken a11 w3) fun r14 w15 =>
 L_X8_book_34 FU v0 a9 r14 0 0 w15)
 else none)))
 else none))
 else none)
 else
 some (r2, w3)))
 else none)
theorem c_X8_book {l : Launch} {V : Vt} {v0 : Nat} {v1 : Int32} {w w' : Wd} {r : Int32} (h : f_X8_book v0 v1 w = some (r, w')) : MetW l V yX8_book cX8_book 8 (some .int) { frames := 3, cells := 0, slots := 0, locals := 66 } w [rf V v0, .int v1] (some (.int r)) w' 0 0 := by
  refine g_start (by decide) (Nat.le_of_ble_eq_true rfl) ?_
  intro t _ hrm X hret hnm
  have Y : Hd_ t V cX8_book 8 RX8 { frames := 3, cells := 0, slots := 0, locals := 66 } (some .int) "book" := ⟨X, hrm, hret, hnm⟩
  refine g_as (lv' := [(0, rf V v0), (1, .int v1)]) (st' := []) rfl rfl ?_
  unfold f_X8_book at h
  refine g_aload_n (pc := 0) X 0 rfl dX8_book_0 ?_
  refine g_iload_n (pc := 1) X 1 rfl dX8_book_1 ?_
  obtain ⟨k1, h⟩ := gd_i h
  obtain ⟨r2, w3, h4, h⟩ := bd2_i h
  refine g_callV (pc := 2) X FcX8 k1 mk_X8_refusalOf q_671 q_6 q_669 (c_X8_refusalOf h4) rfl rfl (by rw [Y.2.1]; decide)  rfl (rest := []) rfl (Nat.le_of_ble_eq_true rfl) (by rw [Y.2.1]; exact ⟨Nat.le_of_ble_eq_true rfl, Nat.le_of_ble_eq_true rfl⟩) dX8_book_2 (st' := [.int r2]) rfl ?_
  refine g_istore_n (pc := 5) X (lv' := [(2, .int r2), (0, rf V v0), (1, .int v1)]) dX8_book_5 (by decide) rfl ?_
  refine g_iload_n (pc := 6) X 0 rfl dX8_book_6 ?_
  refine g_if_eq (pc := 7) X (tgt := 12) dX8_book_7 rfl (fun c => ?_) (fun c => ?_)
  · have h := br_y c h
    refine g_aload_n (pc := 12) X 1 rfl dX8_book_12 ?_
    obtain ⟨k5, h⟩ := gd_i h
    obtain ⟨a6, e7, h⟩ := bd1_i h
    refine g_getR (pc := 13) X FcX8 k5 6 e7 (by decide) rfl q_327 dX8_book_13 ?_
    refine g_iload_n (pc := 16) X 2 rfl dX8_book_16 ?_
    obtain ⟨k8, h⟩ := gd_i h
    obtain ⟨a9, e10, h⟩ := bd1_i h
    refine g_aald (pc := 17) X (C := RX3) k8 (by decide) (by decide) rfl e10 dX8_book_17 ?_
    refine g_astore_n (pc := 18) X (lv' := [(3, rf V a9), (2, .int r2), (0, rf V v0), (1, .int v1)]) dX8_book_18 (by decide) rfl ?_
    refine g_aload_n (pc := 19) X 2 rfl dX8_book_19 ?_
    obtain ⟨a11, e12, h⟩ := bd1_i h
    refine g_getR (pc := 20) X FcX8 k5 0 e12 (by decide) rfl q_321 dX8_book_20 ?_
    obtain ⟨k13, h⟩ := gd_i h
    obtain ⟨r14, w15, h16, h⟩ := bd2_i h
    refine g_callV (pc := 23) X FcX1 k13 mk_X1_taken q_425 q_426 q_583 (c_X1_taken h16) rfl rfl (by rw [Y.2.1]; decide)  rfl (rest := []) rfl (Nat.le_of_ble_eq_true rfl) (by rw [Y.2.1]; exact ⟨Nat.le_of_ble_eq_true rfl, Nat.le_of_ble_eq_true rfl⟩) dX8_book_23 (st' := [.int r14]) rfl ?_
    refine g_istore (pc := 26) X (lv' := [(4, .int r14), (3, rf V a9), (2, .int r2), (0, rf V v0), (1, .int v1)]) dX8_book_26 (by decide) rfl ?_
    refine g_iconst (pc := 28) X (v := 0) dX8_book_28 rfl ?_
    refine g_istore (pc := 29) X (lv' := [(5, .int 0), (4, .int r14), (3, rf V a9), (2, .int r2), (0, rf V v0), (1, .int v1)]) dX8_book_29 (by decide) rfl ?_
    refine g_iconst (pc := 31) X (v := 0) dX8_book_31 rfl ?_
    refine g_istore (pc := 32) X (lv' := [(6, .int 0), (5, .int 0), (4, .int r14), (3, rf V a9), (2, .int r2), (0, rf V v0), (1, .int v1)]) dX8_book_32 (by decide) rfl ?_
    refine g_sub (lv' := [(0, rf V v0), (3, rf V a9), (4, .int r14), (5, .int 0), (6, .int 0)]) [5, 3, 2, 1, 0] rfl ?_
    exact bL_X8_book_34 Y  h
  · have h := br_n c h
    refine g_iload_n (pc := 10) X 0 rfl dX8_book_10 ?_
    obtain ⟨e1, e2⟩ := rt_i h
    exact g_iret (pc := 11) X Y.2.2.1 (Nat.le_of_ble_eq_true rfl) (Nat.le_of_ble_eq_true rfl) e1 e2 dX8_book_11

def f_X8_fee (v0 : Nat) (w : Wd) : Option (Int32 × Wd) := (if wK w v0 = 8 then
 (bd1 (wR w v0 0) fun a2 =>
 (if wK w a2 = 1 then
 (bd2 (f_X1_lawOf a2 1 w) fun r5 w6 =>
 (mt_ r5
 (if wK w6 v0 = 8 then
 (bd1 (wR w6 v0 0) fun a10 =>
 (if wK w6 a10 = 1 then
 some (wI w6 a10 5, w6)
 else none))
 else none)
 fun a8 => (if wK w6 v0 = 8 then
 (bd1 (wR w6 v0 0) fun a14 =>
 (if wK w6 a14 = 1 then
 (bd1 (wR w6 v0 0) fun a17 =>
 (if wK w6 a17 = 1 then
 (if wK w6 a8 = 7 then
 (bd2 (f_X7_value a8 (wI w6 a14 5) (wI w6 a17 6) 0 w6) fun r21 w22 =>
 some (r21, w22))
 else none)
 else none))
 else none))
 else none)))
 else none))
 else none)
theorem c_X8_fee {l : Launch} {V : Vt} {v0 : Nat} {w w' : Wd} {r : Int32} (h : f_X8_fee v0 w = some (r, w')) : MetW l V yX8_fee cX8_fee 2 (some .int) { frames := 2, cells := 0, slots := 0, locals := 48 } w [rf V v0] (some (.int r)) w' 0 0 := by
  refine g_start (by decide) (Nat.le_of_ble_eq_true rfl) ?_
  intro t _ hrm X hret hnm
  have Y : Hd_ t V cX8_fee 2 RX8 { frames := 2, cells := 0, slots := 0, locals := 48 } (some .int) "fee" := ⟨X, hrm, hret, hnm⟩
  refine g_as (lv' := [(0, rf V v0)]) (st' := []) rfl rfl ?_
  unfold f_X8_fee at h
  refine g_aload_n (pc := 0) X 0 rfl dX8_fee_0 ?_
  obtain ⟨k1, h⟩ := gd_i h
  obtain ⟨a2, e3, h⟩ := bd1_i h
  refine g_getR (pc := 1) X FcX8 k1 0 e3 (by decide) rfl q_321 dX8_fee_1 ?_
  refine g_iconst (pc := 4) X (v := 1) dX8_fee_4 rfl ?_
  obtain ⟨k4, h⟩ := gd_i h
  obtain ⟨r5, w6, h7, h⟩ := bd2_i h
  refine g_callV (pc := 5) X FcX1 k4 mk_X1_lawOf q_491 q_492 q_682 (c_X1_lawOf h7) rfl rfl (by rw [Y.2.1]; decide)  rfl (rest := []) rfl (Nat.le_of_ble_eq_true rfl) (by rw [Y.2.1]; exact ⟨Nat.le_of_ble_eq_true rfl, Nat.le_of_ble_eq_true rfl⟩) dX8_fee_5 (st' := [rq V r5]) rfl ?_
  refine g_astore_nq (pc := 8) X (lv' := [(1, rq V r5), (0, rf V v0)]) dX8_fee_8 (by decide) rfl ?_
  refine g_aload_nq (pc := 9) X 0 rfl dX8_fee_9 ?_
  rcases r5 with _ | a8
  · have h := mt_n h
    refine g_ifnonnullN (pc := 10) X dX8_fee_10 ?_
    refine g_aload_n (pc := 13) X 1 rfl dX8_fee_13 ?_
    obtain ⟨k9, h⟩ := gd_i h
    obtain ⟨a10, e11, h⟩ := bd1_i h
    refine g_getR (pc := 14) X FcX8 k9 0 e11 (by decide) rfl q_321 dX8_fee_14 ?_
    obtain ⟨k12, h⟩ := gd_i h
    refine g_getI (pc := 17) X FcX1 k12 5 (by decide) rfl q_170 dX8_fee_17 ?_
    refine g_goto (pc := 20) X (tgt := 42) dX8_fee_20 rfl ?_
    obtain ⟨e1, e2⟩ := rt_i h
    exact g_iret (pc := 42) X Y.2.2.1 (Nat.le_of_ble_eq_true rfl) (Nat.le_of_ble_eq_true rfl) e1 e2 dX8_fee_42
  · have h := mt_s h
    refine g_as (lv' := [(1, rf V a8), (0, rf V v0)]) (st' := [rf V a8]) rfl rfl ?_
    refine g_ifnonnullS (pc := 10) X (tgt := 23) dX8_fee_10 rfl ?_
    refine g_aload_n (pc := 23) X 0 rfl dX8_fee_23 ?_
    refine g_aload_n (pc := 24) X 1 rfl dX8_fee_24 ?_
    obtain ⟨k13, h⟩ := gd_i h
    obtain ⟨a14, e15, h⟩ := bd1_i h
    refine g_getR (pc := 25) X FcX8 k13 0 e15 (by decide) rfl q_321 dX8_fee_25 ?_
    obtain ⟨k16, h⟩ := gd_i h
    refine g_getI (pc := 28) X FcX1 k16 5 (by decide) rfl q_170 dX8_fee_28 ?_
    refine g_aload_n (pc := 31) X 1 rfl dX8_fee_31 ?_
    obtain ⟨a17, e18, h⟩ := bd1_i h
    refine g_getR (pc := 32) X FcX8 k13 0 e18 (by decide) rfl q_321 dX8_fee_32 ?_
    obtain ⟨k19, h⟩ := gd_i h
    refine g_getI (pc := 35) X FcX1 k19 6 (by decide) rfl q_172 dX8_fee_35 ?_
    refine g_iconst (pc := 38) X (v := 0) dX8_fee_38 rfl ?_
    obtain ⟨k20, h⟩ := gd_i h
    obtain ⟨r21, w22, h23, h⟩ := bd2_i h
    refine g_callV (pc := 39) X FcX7 k20 mk_X7_value q_495 q_496 q_683 (c_X7_value h23) rfl rfl (by rw [Y.2.1]; decide)  rfl (rest := []) rfl (Nat.le_of_ble_eq_true rfl) (by rw [Y.2.1]; exact ⟨Nat.le_of_ble_eq_true rfl, Nat.le_of_ble_eq_true rfl⟩) dX8_fee_39 (st' := [.int r21]) rfl ?_
    obtain ⟨e1, e2⟩ := rt_i h
    exact g_iret (pc := 42) X Y.2.2.1 (Nat.le_of_ble_eq_true rfl) (Nat.le_of_ble_eq_true rfl) e1 e2 dX8_fee_42

def f_X8_fine (v0 : Nat) (v1 : Int32) (w : Wd) : Option (Int32 × Wd) := (if wK w v0 = 8 then
 (bd2 (f_X8_isSitter v0 v1 w) fun r2 w3 =>
 (if r2 = 0 then
 some ((-1000000001), w3)
 else
 (if wK w3 v0 = 8 then
 (bd1 (wR w3 v0 0) fun a6 =>
 (if wK w3 a6 = 1 then
 (bd1 (wR w3 a6 1) fun a9 =>
 (if aK 14 w3 a9 v1 = true then
 (bd1 (wR w3 a9 (nx v1)) fun a12 =>
 (bd1 (wR w3 v0 0) fun a14 =>
 (if wK w3 a14 = 1 then
 (bd2 (f_X1_lawOf a14 2 w3) fun r17 w18 =>
 (mt_ r17
 (if wK w18 a12 = 4 then
 some (wI w18 a12 3, w18)
 else none)
 fun a20 => (if wK w18 a12 = 4 then
 (if wK w18 a20 = 7 then
 (bd2 (f_X7_value a20 (wI w18 a12 2) (wI w18 a12 3) 0 w18) fun r24 w25 =>
 some (r24, w25))
 else none)
 else none)))
 else none)))
 else none))
 else none))
 else none)))
 else none)
theorem c_X8_fine {l : Launch} {V : Vt} {v0 : Nat} {v1 : Int32} {w w' : Wd} {r : Int32} (h : f_X8_fine v0 v1 w = some (r, w')) : MetW l V yX8_fine cX8_fine 4 (some .int) { frames := 2, cells := 0, slots := 0, locals := 48 } w [rf V v0, .int v1] (some (.int r)) w' 0 0 := by
  refine g_start (by decide) (Nat.le_of_ble_eq_true rfl) ?_
  intro t _ hrm X hret hnm
  have Y : Hd_ t V cX8_fine 4 RX8 { frames := 2, cells := 0, slots := 0, locals := 48 } (some .int) "fine" := ⟨X, hrm, hret, hnm⟩
  refine g_as (lv' := [(0, rf V v0), (1, .int v1)]) (st' := []) rfl rfl ?_
  unfold f_X8_fine at h
  refine g_aload_n (pc := 0) X 0 rfl dX8_fine_0 ?_
  refine g_iload_n (pc := 1) X 1 rfl dX8_fine_1 ?_
  obtain ⟨k1, h⟩ := gd_i h
  obtain ⟨r2, w3, h4, h⟩ := bd2_i h
  refine g_callV (pc := 2) X FcX8 k1 mk_X8_isSitter q_408 q_0 q_406 (c_X8_isSitter h4) rfl rfl (by rw [Y.2.1]; decide)  rfl (rest := []) rfl (Nat.le_of_ble_eq_true rfl) (by rw [Y.2.1]; exact ⟨Nat.le_of_ble_eq_true rfl, Nat.le_of_ble_eq_true rfl⟩) dX8_fine_2 (st' := [.int r2]) rfl ?_
  refine g_if_ne (pc := 5) X (tgt := 11) dX8_fine_5 rfl (fun c => ?_) (fun c => ?_)
  · have h := br_n c h
    refine g_aload_n (pc := 11) X 0 rfl dX8_fine_11 ?_
    obtain ⟨k5, h⟩ := gd_i h
    obtain ⟨a6, e7, h⟩ := bd1_i h
    refine g_getR (pc := 12) X FcX8 k5 0 e7 (by decide) rfl q_321 dX8_fine_12 ?_
    obtain ⟨k8, h⟩ := gd_i h
    obtain ⟨a9, e10, h⟩ := bd1_i h
    refine g_getR (pc := 15) X FcX1 k8 1 e10 (by decide) rfl q_160 dX8_fine_15 ?_
    refine g_iload_n (pc := 18) X 1 rfl dX8_fine_18 ?_
    obtain ⟨k11, h⟩ := gd_i h
    obtain ⟨a12, e13, h⟩ := bd1_i h
    refine g_aald (pc := 19) X (C := RX4) k11 (by decide) (by decide) rfl e13 dX8_fine_19 ?_
    refine g_astore_n (pc := 20) X (lv' := [(2, rf V a12), (0, rf V v0), (1, .int v1)]) dX8_fine_20 (by decide) rfl ?_
    refine g_aload_n (pc := 21) X 1 rfl dX8_fine_21 ?_
    obtain ⟨a14, e15, h⟩ := bd1_i h
    refine g_getR (pc := 22) X FcX8 k5 0 e15 (by decide) rfl q_321 dX8_fine_22 ?_
    refine g_iconst (pc := 25) X (v := 2) dX8_fine_25 rfl ?_
    obtain ⟨k16, h⟩ := gd_i h
    obtain ⟨r17, w18, h19, h⟩ := bd2_i h
    refine g_callV (pc := 26) X FcX1 k16 mk_X1_lawOf q_491 q_492 q_682 (c_X1_lawOf h19) rfl rfl (by rw [Y.2.1]; decide)  rfl (rest := []) rfl (Nat.le_of_ble_eq_true rfl) (by rw [Y.2.1]; exact ⟨Nat.le_of_ble_eq_true rfl, Nat.le_of_ble_eq_true rfl⟩) dX8_fine_26 (st' := [rq V r17]) rfl ?_
    refine g_astore_nq (pc := 29) X (lv' := [(3, rq V r17), (2, rf V a12), (0, rf V v0), (1, .int v1)]) dX8_fine_29 (by decide) rfl ?_
    refine g_aload_nq (pc := 30) X 0 rfl dX8_fine_30 ?_
    rcases r17 with _ | a20
    · have h := mt_n h
      refine g_ifnonnullN (pc := 31) X dX8_fine_31 ?_
      refine g_aload_n (pc := 34) X 1 rfl dX8_fine_34 ?_
      obtain ⟨k21, h⟩ := gd_i h
      refine g_getI (pc := 35) X FcX4 k21 3 (by decide) rfl q_144 dX8_fine_35 ?_
      refine g_goto (pc := 38) X (tgt := 54) dX8_fine_38 rfl ?_
      obtain ⟨e1, e2⟩ := rt_i h
      exact g_iret (pc := 54) X Y.2.2.1 (Nat.le_of_ble_eq_true rfl) (Nat.le_of_ble_eq_true rfl) e1 e2 dX8_fine_54
    · have h := mt_s h
      refine g_as (lv' := [(3, rf V a20), (2, rf V a12), (0, rf V v0), (1, .int v1)]) (st' := [rf V a20]) rfl rfl ?_
      refine g_ifnonnullS (pc := 31) X (tgt := 41) dX8_fine_31 rfl ?_
      refine g_aload_n (pc := 41) X 0 rfl dX8_fine_41 ?_
      refine g_aload_n (pc := 42) X 1 rfl dX8_fine_42 ?_
      obtain ⟨k22, h⟩ := gd_i h
      refine g_getI (pc := 43) X FcX4 k22 2 (by decide) rfl q_141 dX8_fine_43 ?_
      refine g_aload_n (pc := 46) X 1 rfl dX8_fine_46 ?_
      refine g_getI (pc := 47) X FcX4 k22 3 (by decide) rfl q_144 dX8_fine_47 ?_
      refine g_iconst (pc := 50) X (v := 0) dX8_fine_50 rfl ?_
      obtain ⟨k23, h⟩ := gd_i h
      obtain ⟨r24, w25, h26, h⟩ := bd2_i h
      refine g_callV (pc := 51) X FcX7 k23 mk_X7_value q_495 q_496 q_683 (c_X7_value h26) rfl rfl (by rw [Y.2.1]; decide)  rfl (rest := []) rfl (Nat.le_of_ble_eq_true rfl) (by rw [Y.2.1]; exact ⟨Nat.le_of_ble_eq_true rfl, Nat.le_of_ble_eq_true rfl⟩) dX8_fine_51 (st' := [.int r24]) rfl ?_
      obtain ⟨e1, e2⟩ := rt_i h
      exact g_iret (pc := 54) X Y.2.2.1 (Nat.le_of_ble_eq_true rfl) (Nat.le_of_ble_eq_true rfl) e1 e2 dX8_fine_54
  · have h := br_y c h
    refine g_ldc (pc := 8) X q_359 dX8_fine_8 ?_
    obtain ⟨e1, e2⟩ := rt_i h
    exact g_iret (pc := 10) X Y.2.2.1 (Nat.le_of_ble_eq_true rfl) (Nat.le_of_ble_eq_true rfl) e1 e2 dX8_fine_10

def f_X8_feed (v0 : Nat) (v1 : Int32) (v2 : Int32) (v3 : Int32) (w : Wd) : Option (Int32 × Wd) := (if wK w v0 = 8 then
 (bd1 (wR w v0 5) fun a2 =>
 (if wK w a2 = 6 then
 (if ((wI w a2 1) + 12) ≤ 96 then
 (bd1 (wR w v0 5) fun a5 =>
 (if wK w a5 = 6 then
 (bd2 (f_X6_append a5 v1 w) fun r8 w9 =>
 (if wK w9 v0 = 8 then
 (bd1 (wR w9 v0 5) fun a12 =>
 (if wK w9 a12 = 6 then
 (bd2 (f_X6_append a12 v2 w9) fun r15 w16 =>
 (if wK w16 v0 = 8 then
 (bd1 (wR w16 v0 5) fun a19 =>
 (if wK w16 a19 = 6 then
 (bd2 (f_X6_append a19 v3 w16) fun r22 w23 =>
 (if wK w23 v0 = 8 then
 (bd1 (wR w23 v0 5) fun a26 =>
 (if wK w23 a26 = 6 then
 some (wI w23 a26 1, w23)
 else none))
 else none))
 else none))
 else none))
 else none))
 else none))
 else none))
 else
 some ((-1000000003), w))
 else none))
 else none)
theorem c_X8_feed {l : Launch} {V : Vt} {v0 : Nat} {v1 : Int32} {v2 : Int32} {v3 : Int32} {w w' : Wd} {r : Int32} (h : f_X8_feed v0 v1 v2 v3 w = some (r, w')) : MetW l V yX8_feed cX8_feed 4 (some .int) { frames := 1, cells := 0, slots := 0, locals := 22 } w [rf V v0, .int v1, .int v2, .int v3] (some (.int r)) w' 0 0 := by
  refine g_start (by decide) (Nat.le_of_ble_eq_true rfl) ?_
  intro t _ hrm X hret hnm
  have Y : Hd_ t V cX8_feed 4 RX8 { frames := 1, cells := 0, slots := 0, locals := 22 } (some .int) "feed" := ⟨X, hrm, hret, hnm⟩
  refine g_as (lv' := [(0, rf V v0), (1, .int v1), (2, .int v2), (3, .int v3)]) (st' := []) rfl rfl ?_
  unfold f_X8_feed at h
  refine g_aload_n (pc := 0) X 0 rfl dX8_feed_0 ?_
  obtain ⟨k1, h⟩ := gd_i h
  obtain ⟨a2, e3, h⟩ := bd1_i h
  refine g_getR (pc := 1) X FcX8 k1 5 e3 (by decide) rfl q_326 dX8_feed_1 ?_
  obtain ⟨k4, h⟩ := gd_i h
  refine g_getI (pc := 4) X FcX6 k4 1 (by decide) rfl q_233 dX8_feed_4 ?_
  refine g_bipush (pc := 7) X (v := 12) dX8_feed_7 rfl ?_
  refine g_iadd (pc := 9) X dX8_feed_9 ?_
  refine g_bipush (pc := 10) X (v := 96) dX8_feed_10 rfl ?_
  refine g_icmp_le (pc := 12) X (tgt := 18) dX8_feed_12 rfl (fun c => ?_) (fun c => ?_)
  · have h := br_y c h
    refine g_aload_n (pc := 18) X 0 rfl dX8_feed_18 ?_
    obtain ⟨a5, e6, h⟩ := bd1_i h
    refine g_getR (pc := 19) X FcX8 k1 5 e6 (by decide) rfl q_326 dX8_feed_19 ?_
    refine g_iload_n (pc := 22) X 1 rfl dX8_feed_22 ?_
    obtain ⟨k7, h⟩ := gd_i h
    obtain ⟨r8, w9, h10, h⟩ := bd2_i h
    refine g_callV (pc := 23) X FcX6 k7 mk_X6_append q_694 q_695 q_693 (c_X6_append h10) rfl rfl (by rw [Y.2.1]; decide)  rfl (rest := []) rfl (Nat.le_of_ble_eq_true rfl) (by rw [Y.2.1]; exact ⟨Nat.le_of_ble_eq_true rfl, Nat.le_of_ble_eq_true rfl⟩) dX8_feed_23 (st' := []) rfl ?_
    refine g_aload_n (pc := 26) X 0 rfl dX8_feed_26 ?_
    obtain ⟨k11, h⟩ := gd_i h
    obtain ⟨a12, e13, h⟩ := bd1_i h
    refine g_getR (pc := 27) X FcX8 k11 5 e13 (by decide) rfl q_326 dX8_feed_27 ?_
    refine g_iload_n (pc := 30) X 2 rfl dX8_feed_30 ?_
    obtain ⟨k14, h⟩ := gd_i h
    obtain ⟨r15, w16, h17, h⟩ := bd2_i h
    refine g_callV (pc := 31) X FcX6 k14 mk_X6_append q_694 q_695 q_693 (c_X6_append h17) rfl rfl (by rw [Y.2.1]; decide)  rfl (rest := []) rfl (Nat.le_of_ble_eq_true rfl) (by rw [Y.2.1]; exact ⟨Nat.le_of_ble_eq_true rfl, Nat.le_of_ble_eq_true rfl⟩) dX8_feed_31 (st' := []) rfl ?_
    refine g_aload_n (pc := 34) X 0 rfl dX8_feed_34 ?_
    obtain ⟨k18, h⟩ := gd_i h
    obtain ⟨a19, e20, h⟩ := bd1_i h
    refine g_getR (pc := 35) X FcX8 k18 5 e20 (by decide) rfl q_326 dX8_feed_35 ?_
    refine g_iload_n (pc := 38) X 3 rfl dX8_feed_38 ?_
    obtain ⟨k21, h⟩ := gd_i h
    obtain ⟨r22, w23, h24, h⟩ := bd2_i h
    refine g_callV (pc := 39) X FcX6 k21 mk_X6_append q_694 q_695 q_693 (c_X6_append h24) rfl rfl (by rw [Y.2.1]; decide)  rfl (rest := []) rfl (Nat.le_of_ble_eq_true rfl) (by rw [Y.2.1]; exact ⟨Nat.le_of_ble_eq_true rfl, Nat.le_of_ble_eq_true rfl⟩) dX8_feed_39 (st' := []) rfl ?_
    refine g_aload_n (pc := 42) X 0 rfl dX8_feed_42 ?_
    obtain ⟨k25, h⟩ := gd_i h
    obtain ⟨a26, e27, h⟩ := bd1_i h
    refine g_getR (pc := 43) X FcX8 k25 5 e27 (by decide) rfl q_326 dX8_feed_43 ?_
    obtain ⟨k28, h⟩ := gd_i h
    refine g_getI (pc := 46) X FcX6 k28 1 (by decide) rfl q_233 dX8_feed_46 ?_
    obtain ⟨e1, e2⟩ := rt_i h
    exact g_iret (pc := 49) X Y.2.2.1 (Nat.le_of_ble_eq_true rfl) (Nat.le_of_ble_eq_true rfl) e1 e2 dX8_feed_49
  · have h := br_n c h
    refine g_ldc (pc := 15) X q_692 dX8_feed_15 ?_
    obtain ⟨e1, e2⟩ := rt_i h
    exact g_iret (pc := 17) X Y.2.2.1 (Nat.le_of_ble_eq_true rfl) (Nat.le_of_ble_eq_true rfl) e1 e2 dX8_feed_17

def f_X8_trim (v0 : Nat) (v1 : Int32) (w : Wd) : Option (Int32 × Wd) := (if wK w v0 = 8 then
 (bd1 (wR w v0 5) fun a2 =>
 (if wK w a2 = 6 then
 (bd2 (f_X8_isWithin v1 0 (wI w a2 1) w) fun r5 w6 =>
 (if r5 = 0 then
 some ((-1000000001), w6)
 else
 (if wK w6 v0 = 8 then
 (bd1 (wR w6 v0 5) fun a9 =>
 (if wK w6 a9 = 6 then
 (lb_ (sI w6 a9 1 v1) fun w12 =>
 some (v1, w12))
 else none))
 else none)))
 else none))
 else none)
theorem c_X8_trim {l : Launch} {V : Vt} {v0 : Nat} {v1 : Int32} {w w' : Wd} {r : Int32} (h : f_X8_trim v0 v1 w = some (r, w')) : MetW l V yX8_trim cX8_trim 2 (some .int) { frames := 1, cells := 0, slots := 0, locals := 22 } w [rf V v0, .int v1] (some (.int r)) w' 0 0 := by
  refine g_start (by decide) (Nat.le_of_ble_eq_true rfl) ?_
  intro t _ hrm X hret hnm
  have Y : Hd_ t V cX8_trim 2 RX8 { frames := 1, cells := 0, slots := 0, locals := 22 } (some .int) "trim" := ⟨X, hrm, hret, hnm⟩
  refine g_as (lv' := [(0, rf V v0), (1, .int v1)]) (st' := []) rfl rfl ?_
  unfold f_X8_trim at h
  refine g_iload_n (pc := 0) X 1 rfl dX8_trim_0 ?_
  refine g_iconst (pc := 1) X (v := 0) dX8_trim_1 rfl ?_
  refine g_aload_n (pc := 2) X 0 rfl dX8_trim_2 ?_
  obtain ⟨k1, h⟩ := gd_i h
  obtain ⟨a2, e3, h⟩ := bd1_i h
  refine g_getR (pc := 3) X FcX8 k1 5 e3 (by decide) rfl q_326 dX8_trim_3 ?_
  obtain ⟨k4, h⟩ := gd_i h
  refine g_getI (pc := 6) X FcX6 k4 1 (by decide) rfl q_233 dX8_trim_6 ?_
  obtain ⟨r5, w6, h7, h⟩ := bd2_i h
  refine g_callS (pc := 9) X mk_X8_isWithin q_357 q_356 (c_X8_isWithin h7) rfl rfl (by rw [Y.2.1]; decide)  rfl (rest := []) rfl (Nat.le_of_ble_eq_true rfl) (by rw [Y.2.1]; exact ⟨Nat.le_of_ble_eq_true rfl, Nat.le_of_ble_eq_true rfl⟩) dX8_trim_9 (st' := [.int r5]) rfl ?_
  refine g_if_ne (pc := 12) X (tgt := 18) dX8_trim_12 rfl (fun c => ?_) (fun c => ?_)
  · have h := br_n c h
    refine g_aload_n (pc := 18) X 0 rfl dX8_trim_18 ?_
    obtain ⟨k8, h⟩ := gd_i h
    obtain ⟨a9, e10, h⟩ := bd1_i h
    refine g_getR (pc := 19) X FcX8 k8 5 e10 (by decide) rfl q_326 dX8_trim_19 ?_
    refine g_iload_n (pc := 22) X 1 rfl dX8_trim_22 ?_
    obtain ⟨k11, h⟩ := gd_i h
    refine g_putI (pc := 23) X FcX6 k11 1 (by decide) rfl q_233 rfl rfl rfl dX8_trim_23 ?_
    obtain ⟨w12, e13, h⟩ := lb_i h
    refine g_w e13 ?_
    refine g_iload_n (pc := 26) X 1 rfl dX8_trim_26 ?_
    obtain ⟨e1, e2⟩ := rt_i h
    exact g_iret (pc := 27) X Y.2.2.1 (Nat.le_of_ble_eq_true rfl) (Nat.le_of_ble_eq_true rfl) e1 e2 dX8_trim_27
  · have h := br_y c h
    refine g_ldc (pc := 15) X q_359 dX8_trim_15 ?_
    obtain ⟨e1, e2⟩ := rt_i h
    exact g_iret (pc := 17) X Y.2.2.1 (Nat.le_of_ble_eq_true rfl) (Nat.le_of_ble_eq_true rfl) e1 e2 dX8_trim_17

def f_X8_text (v0 : Nat) (w : Wd) : Option (Int32 × Wd) := (if wK w v0 = 8 then
 (bd1 (wR w v0 5) fun a2 =>
 (if wK w a2 = 6 then
 (bd2 (f_X6_parse a2 w) fun r5 w6 =>
 (if wK w6 v0 = 8 then
 (bd1 (wR w6 v0 5) fun a9 =>
 (if wK w6 a9 = 6 then
 (lb_ (sI w6 a9 1 0) fun w12 =>
 (if 0 ≤ r5 then
 some ((-100) - r5, w12)
 else
 (bd1 (wR w12 v0 0) fun a14 =>
 (bd1 (wR w12 v0 5) fun a16 =>
 (if wK w12 a16 = 6 then
 (bd2 (f_X6_lawRead a16 w12) fun r19 w20 =>
 (bd1 r19 fun a22 =>
 (if wK w20 a14 = 1 then
 (bd2 (f_X1_enact a14 a22 w20) fun r25 w26 =>
 some (r25, w26))
 else none)))
 else none)))))
 else none))
 else none))
 else none))
 else none)
theorem c_X8_text {l : Launch} {V : Vt} {v0 : Nat} {w w' : Wd} {r : Int32} (h : f_X8_text v0 w = some (r, w')) : MetW l V yX8_text cX8_text 2 (some .int) { frames := 7, cells := 3, slots := 204, locals := 154 } w [rf V v0] (some (.int r)) w' 3 204 := by
  refine g_start (by decide) (Nat.le_of_ble_eq_true rfl) ?_
  intro t _ hrm X hret hnm
  have Y : Hd_ t V cX8_text 2 RX8 { frames := 7, cells := 3, slots := 204, locals := 154 } (some .int) "text" := ⟨X, hrm, hret, hnm⟩
  refine g_as (lv' := [(0, rf V v0)]) (st' := []) rfl rfl ?_
  unfold f_X8_text at h
  refine g_aload_n (pc := 0) X 0 rfl dX8_text_0 ?_
  obtain ⟨k1, h⟩ := gd_i h
  obtain ⟨a2, e3, h⟩ := bd1_i h
  refine g_getR (pc := 1) X FcX8 k1 5 e3 (by decide) rfl q_326 dX8_text_1 ?_
  obtain ⟨k4, h⟩ := gd_i h
  obtain ⟨r5, w6, h7, h⟩ := bd2_i h
  refine g_callV (pc := 4) X FcX6 k4 mk_X6_parse q_706 q_707 q_705 (c_X6_parse h7) rfl rfl (by rw [Y.2.1]; decide)  rfl (rest := []) rfl (Nat.le_of_ble_eq_true rfl) (by rw [Y.2.1]; exact ⟨Nat.le_of_ble_eq_true rfl, Nat.le_of_ble_eq_true rfl⟩) dX8_text_4 (st' := [.int r5]) rfl ?_
  refine g_istore_n (pc := 7) X (lv' := [(1, .int r5), (0, rf V v0)]) dX8_text_7 (by decide) rfl ?_
  refine g_aload_n (pc := 8) X 1 rfl dX8_text_8 ?_
  obtain ⟨k8, h⟩ := gd_i h
  obtain ⟨a9, e10, h⟩ := bd1_i h
  refine g_getR (pc := 9) X FcX8 k8 5 e10 (by decide) rfl q_326 dX8_text_9 ?_
  refine g_iconst (pc := 12) X (v := 0) dX8_text_12 rfl ?_
  obtain ⟨k11, h⟩ := gd_i h
  refine g_putI (pc := 13) X FcX6 k11 1 (by decide) rfl q_233 rfl rfl rfl dX8_text_13 ?_
  obtain ⟨w12, e13, h⟩ := lb_i h
  refine g_w e13 ?_
  refine g_iload_n (pc := 16) X 0 rfl dX8_text_16 ?_
  refine g_if_ge (pc := 17) X (tgt := 37) dX8_text_17 rfl (fun c => ?_) (fun c => ?_)
  · have h := br_y c h
    refine g_bipush (pc := 37) X (v := (-100)) dX8_text_37 rfl ?_
    refine g_iload_n (pc := 39) X 0 rfl dX8_text_39 ?_
    refine g_isub (pc := 40) X dX8_text_40 ?_
    obtain ⟨e1, e2⟩ := rt_i h
    exact g_iret (pc := 41) X Y.2.2.1 (Nat.le_of_ble_eq_true rfl) (Nat.le_of_ble_eq_true rfl) e1 e2 dX8_text_41
  · have h := br_n c h
    refine g_aload_n (pc := 20) X 1 rfl dX8_text_20 ?_
    obtain ⟨a14, e15, h⟩ := bd1_i h
    refine g_getR (pc := 21) X FcX8 (kd_I e13 k8) 0 e15 (by decide) rfl q_321 dX8_text_21 ?_
    refine g_aload_n (pc := 24) X 1 rfl dX8_text_24 ?_
    obtain ⟨a16, e17, h⟩ := bd1_i h
    refine g_getR (pc := 25) X FcX8 (kd_I e13 k8) 5 e17 (by decide) rfl q_326 dX8_text_25 ?_
    obtain ⟨k18, h⟩ := gd_i h
    obtain ⟨r19, w20, h21, h⟩ := bd2_i h
    refine g_callV (pc := 28) X FcX6 k18 mk_X6_lawRead q_887 q_888 q_886 (c_X6_lawRead h21) rfl rfl (by rw [Y.2.1]; decide)  rfl (rest := [rf V a14]) rfl (Nat.le_of_ble_eq_true rfl) (by rw [Y.2.1]; exact ⟨Nat.le_of_ble_eq_true rfl, Nat.le_of_ble_eq_true rfl⟩) dX8_text_28 (st' := [rq V r19, rf V a14]) rfl ?_
    obtain ⟨a22, e23, h⟩ := bd1_i h
    refine g_as (lv' := [(1, .int r5), (0, rf V v0)]) (st' := [rf V a22, rf V a14]) rfl (by rw [e23]; rfl) ?_
    obtain ⟨k24, h⟩ := gd_i h
    obtain ⟨r25, w26, h27, h⟩ := bd2_i h
    refine g_callV (pc := 31) X FcX1 k24 mk_X1_enact q_915 q_916 q_914 (c_X1_enact h27) rfl rfl (by rw [Y.2.1]; decide)  rfl (rest := []) rfl (Nat.le_of_ble_eq_true rfl) (by rw [Y.2.1]; exact ⟨Nat.le_of_ble_eq_true rfl, Nat.le_of_ble_eq_true rfl⟩) dX8_text_31 (st' := [.int r25]) rfl ?_
    refine g_goto (pc := 34) X (tgt := 41) dX8_text_34 rfl ?_
    obtain ⟨e1, e2⟩ := rt_i h
    exact g_iret (pc := 41) X Y.2.2.1 (Nat.le_of_ble_eq_true rfl) (Nat.le_of_ble_eq_true rfl) e1 e2 dX8_text_41

def f_X8_textTold (v0 : Nat) (v1 : Int32) (v2 : Int32) (w : Wd) : Option (Int32 × Wd) := (if wK w v0 = 8 then
 (bd1 (wR w v0 0) fun a2 =>
 (if wK w a2 = 1 then
 (bd2 (f_X8_isWithin v1 0 ((wI w a2 9) - 1) w) fun r5 w6 =>
 (if r5 = 0 then
 some ((-1000000001), w6)
 else
 (bd2 (f_X8_isWithin v2 0 1 w6) fun r8 w9 =>
 (if r8 = 0 then
 some ((-1000000001), w9)
 else
 (if wK w9 v0 = 8 then
 (bd1 (wR w9 v0 0) fun a12 =>
 (if wK w9 a12 = 1 then
 (bd1 (wR w9 a12 8) fun a15 =>
 (if aK 16 w9 a15 v1 = true then
 (bd1 (wR w9 a15 (nx v1)) fun a18 =>
 (if v2 = 0 then
 (if wK w9 a18 = 7 then
 some (wI w9 a18 0, w9)
 else none)
 else
 (if wK w9 a18 = 7 then
 some (wI w9 a18 1, w9)
 else none)))
 else none))
 else none))
 else none)))))
 else none))
 else none)
theorem c_X8_textTold {l : Launch} {V : Vt} {v0 : Nat} {v1 : Int32} {v2 : Int32} {w w' : Wd} {r : Int32} (h : f_X8_textTold v0 v1 v2 w = some (r, w')) : MetW l V yX8_textTold cX8_textTold 4 (some .int) { frames := 1, cells := 0, slots := 0, locals := 22 } w [rf V v0, .int v1, .int v2] (some (.int r)) w' 0 0 := by
  refine g_start (by decide) (Nat.le_of_ble_eq_true rfl) ?_
  intro t _ hrm X hret hnm
  have Y : Hd_ t V cX8_textTold 4 RX8 { frames := 1, cells := 0, slots := 0, locals := 22 } (some .int) "textTold" := ⟨X, hrm, hret, hnm⟩
  refine g_as (lv' := [(0, rf V v0), (1, .int v1), (2, .int v2)]) (st' := []) rfl rfl ?_
  unfold f_X8_textTold at h
  refine g_iload_n (pc := 0) X 1 rfl dX8_textTold_0 ?_
  refine g_iconst (pc := 1) X (v := 0) dX8_textTold_1 rfl ?_
  refine g_aload_n (pc := 2) X 0 rfl dX8_textTold_2 ?_
  obtain ⟨k1, h⟩ := gd_i h
  obtain ⟨a2, e3, h⟩ := bd1_i h
  refine g_getR (pc := 3) X FcX8 k1 0 e3 (by decide) rfl q_321 dX8_textTold_3 ?_
  obtain ⟨k4, h⟩ := gd_i h
  refine g_getI (pc := 6) X FcX1 k4 9 (by decide) rfl q_178 dX8_textTold_6 ?_
  refine g_iconst (pc := 9) X (v := 1) dX8_textTold_9 rfl ?_
  refine g_isub (pc := 10) X dX8_textTold_10 ?_
  obtain ⟨r5, w6, h7, h⟩ := bd2_i h
  refine g_callS (pc := 11) X mk_X8_isWithin q_357 q_356 (c_X8_isWithin h7) rfl rfl (by rw [Y.2.1]; decide)  rfl (rest := []) rfl (Nat.le_of_ble_eq_true rfl) (by rw [Y.2.1]; exact ⟨Nat.le_of_ble_eq_true rfl, Nat.le_of_ble_eq_true rfl⟩) dX8_textTold_11 (st' := [.int r5]) rfl ?_
  refine g_if_eq (pc := 14) X (tgt := 26) dX8_textTold_14 rfl (fun c => ?_) (fun c => ?_)
  · have h := br_y c h
    refine g_ldc (pc := 26) X q_359 dX8_textTold_26 ?_
    obtain ⟨e1, e2⟩ := rt_i h
    exact g_iret (pc := 28) X Y.2.2.1 (Nat.le_of_ble_eq_true rfl) (Nat.le_of_ble_eq_true rfl) e1 e2 dX8_textTold_28
  · have h := br_n c h
    refine g_iload_n (pc := 17) X 2 rfl dX8_textTold_17 ?_
    refine g_iconst (pc := 18) X (v := 0) dX8_textTold_18 rfl ?_
    refine g_iconst (pc := 19) X (v := 1) dX8_textTold_19 rfl ?_
    obtain ⟨r8, w9, h10, h⟩ := bd2_i h
    refine g_callS (pc := 20) X mk_X8_isWithin q_357 q_356 (c_X8_isWithin h10) rfl rfl (by rw [Y.2.1]; decide)  rfl (rest := []) rfl (Nat.le_of_ble_eq_true rfl) (by rw [Y.2.1]; exact ⟨Nat.le_of_ble_eq_true rfl, Nat.le_of_ble_eq_true rfl⟩) dX8_textTold_20 (st' := [.int r8]) rfl ?_
    refine g_if_ne (pc := 23) X (tgt := 29) dX8_textTold_23 rfl (fun c => ?_) (fun c => ?_)
    · have h := br_n c h
      refine g_aload_n (pc := 29) X 0 rfl dX8_textTold_29 ?_
      obtain ⟨k11, h⟩ := gd_i h
      obtain ⟨a12, e13, h⟩ := bd1_i h
      refine g_getR (pc := 30) X FcX8 k11 0 e13 (by decide) rfl q_321 dX8_textTold_30 ?_
      obtain ⟨k14, h⟩ := gd_i h
      obtain ⟨a15, e16, h⟩ := bd1_i h
      refine g_getR (pc := 33) X FcX1 k14 8 e16 (by decide) rfl q_176 dX8_textTold_33 ?_
      refine g_iload_n (pc := 36) X 1 rfl dX8_textTold_36 ?_
      obtain ⟨k17, h⟩ := gd_i h
      obtain ⟨a18, e19, h⟩ := bd1_i h
      refine g_aald (pc := 37) X (C := RX7) k17 (by decide) (by decide) rfl e19 dX8_textTold_37 ?_
      refine g_astore_n (pc := 38) X (lv' := [(3, rf V a18), (0, rf V v0), (1, .int v1), (2, .int v2)]) dX8_textTold_38 (by decide) rfl ?_
      refine g_iload_n (pc := 39) X 3 rfl dX8_textTold_39 ?_
      refine g_if_ne (pc := 40) X (tgt := 50) dX8_textTold_40 rfl (fun c => ?_) (fun c => ?_)
      · have h := br_n c h
        refine g_aload_n (pc := 50) X 0 rfl dX8_textTold_50 ?_
        obtain ⟨k20, h⟩ := gd_i h
        refine g_getI (pc := 51) X FcX7 k20 1 (by decide) rfl q_901 dX8_textTold_51 ?_
        obtain ⟨e1, e2⟩ := rt_i h
        exact g_iret (pc := 54) X Y.2.2.1 (Nat.le_of_ble_eq_true rfl) (Nat.le_of_ble_eq_true rfl) e1 e2 dX8_textTold_54
      · have h := br_y c h
        refine g_aload_n (pc := 43) X 0 rfl dX8_textTold_43 ?_
        obtain ⟨k21, h⟩ := gd_i h
        refine g_getI (pc := 44) X FcX7 k21 0 (by decide) rfl q_899 dX8_textTold_44 ?_
        refine g_goto (pc := 47) X (tgt := 54) dX8_textTold_47 rfl ?_
        obtain ⟨e1, e2⟩ := rt_i h
        exact g_iret (pc := 54) X Y.2.2.1 (Nat.le_of_ble_eq_true rfl) (Nat.le_of_ble_eq_true rfl) e1 e2 dX8_textTold_54
    · have h := br_y c h
      refine g_ldc (pc := 26) X q_359 dX8_textTold_26 ?_
      obtain ⟨e1, e2⟩ := rt_i h
      exact g_iret (pc := 28) X Y.2.2.1 (Nat.le_of_ble_eq_true rfl) (Nat.le_of_ble_eq_true rfl) e1 e2 dX8_textTold_28

def f_X8_why (v0 : Nat) (v1 : Int32) (w : Wd) : Option (Int32 × Wd) := (bd2 (f_X8_isWithin v1 0 2 w) fun r1 w2 =>
 (if r1 = 0 then
 some ((-1000000001), w2)
 else
 (if wK w2 v0 = 8 then
 (bd1 (wR w2 v0 0) fun a5 =>
 (if wK w2 a5 = 1 then
 (bd1 (wR w2 a5 10) fun a8 =>
 (if aK 11 w2 a8 v1 = true then
 some (wI w2 a8 (nx v1), w2)
 else none))
 else none))
 else none)))
theorem c_X8_why {l : Launch} {V : Vt} {v0 : Nat} {v1 : Int32} {w w' : Wd} {r : Int32} (h : f_X8_why v0 v1 w = some (r, w')) : MetW l V yX8_why cX8_why 2 (some .int) { frames := 1, cells := 0, slots := 0, locals := 22 } w [rf V v0, .int v1] (some (.int r)) w' 0 0 := by
  refine g_start (by decide) (Nat.le_of_ble_eq_true rfl) ?_
  intro t _ hrm X hret hnm
  have Y : Hd_ t V cX8_why 2 RX8 { frames := 1, cells := 0, slots := 0, locals := 22 } (some .int) "why" := ⟨X, hrm, hret, hnm⟩
  refine g_as (lv' := [(0, rf V v0), (1, .int v1)]) (st' := []) rfl rfl ?_
  unfold f_X8_why at h
  refine g_iload_n (pc := 0) X 1 rfl dX8_why_0 ?_
  refine g_iconst (pc := 1) X (v := 0) dX8_why_1 rfl ?_
  refine g_iconst (pc := 2) X (v := 2) dX8_why_2 rfl ?_
  obtain ⟨r1, w2, h3, h⟩ := bd2_i h
  refine g_callS (pc := 3) X mk_X8_isWithin q_357 q_356 (c_X8_isWithin h3) rfl rfl (by rw [Y.2.1]; decide)  rfl (rest := []) rfl (Nat.le_of_ble_eq_true rfl) (by rw [Y.2.1]; exact ⟨Nat.le_of_ble_eq_true rfl, Nat.le_of_ble_eq_true rfl⟩) dX8_why_3 (st' := [.int r1]) rfl ?_
  refine g_if_eq (pc := 6) X (tgt := 21) dX8_why_6 rfl (fun c => ?_) (fun c => ?_)
  · have h := br_y c h
    refine g_ldc (pc := 21) X q_359 dX8_why_21 ?_
    obtain ⟨e1, e2⟩ := rt_i h
    exact g_iret (pc := 23) X Y.2.2.1 (Nat.le_of_ble_eq_true rfl) (Nat.le_of_ble_eq_true rfl) e1 e2 dX8_why_23
  · have h := br_n c h
    refine g_aload_n (pc := 9) X 0 rfl dX8_why_9 ?_
    obtain ⟨k4, h⟩ := gd_i h
    obtain ⟨a5, e6, h⟩ := bd1_i h
    refine g_getR (pc := 10) X FcX8 k4 0 e6 (by decide) rfl q_321 dX8_why_10 ?_
    obtain ⟨k7, h⟩ := gd_i h
    obtain ⟨a8, e9, h⟩ := bd1_i h
    refine g_getR (pc := 13) X FcX1 k7 10 e9 (by decide) rfl q_180 dX8_why_13 ?_
    refine g_iload_n (pc := 16) X 1 rfl dX8_why_16 ?_
    obtain ⟨k10, h⟩ := gd_i h
    refine g_iald (pc := 17) X k10 dX8_why_17 ?_
    refine g_goto (pc := 18) X (tgt := 23) dX8_why_18 rfl ?_
    obtain ⟨e1, e2⟩ := rt_i h
    exact g_iret (pc := 23) X Y.2.2.1 (Nat.le_of_ble_eq_true rfl) (Nat.le_of_ble_eq_true rfl) e1 e2 dX8_why_23

def f_X8_sheet (v0 : Nat) (v1 : Int32) (v2 : Int32) (v3 : Int32) (w : Wd) : Option (Int32 × Wd) := (bd2 (f_X8_isSheet v1 w) fun r1 w2 =>
 (if r1 = 0 then
 some ((-1000000001), w2)
 else
 (bd2 (f_X8_isWithin v2 (-1) 1 w2) fun r4 w5 =>
 (if r4 = 0 then
 some ((-1000000001), w5)
 else
 (if v2 = (-1) then
 (if wK w5 v0 = 8 then
 (bd1 (wR w5 v0 6) fun a18 =>
 (if aK 13 w5 a18 v1 = true then
 (bd1 (wR w5 a18 (nx v1)) fun a21 =>
 (if wK w5 a21 = 3 then
 (bd2 (f_X3_clear a21 (-1) 0 w5) fun r24 w25 =>
 some (0, w25))
 else none))
 else none))
 else none)
 else
 (if v3 ≤ 24 then
 (if 0 ≤ v3 then
 (if wK w5 v0 = 8 then
 (bd1 (wR w5 v0 6) fun a8 =>
 (if aK 13 w5 a8 v1 = true then
 (bd1 (wR w5 a8 (nx v1)) fun a11 =>
 (if wK w5 a11 = 3 then
 (bd2 (f_X3_clear a11 v2 v3 w5) fun r14 w15 =>
 some (v3, w15))
 else none))
 else none))
 else none)
 else
 some ((-1000000014), w5))
 else
 some ((-1000000001), w5)))))))
theorem c_X8_sheet {l : Launch} {V : Vt} {v0 : Nat} {v1 : Int32} {v2 : Int32} {v3 : Int32} {w w' : Wd} {r : Int32} (h : f_X8_sheet v0 v1 v2 v3 w = some (r, w')) : MetW l V yX8_sheet cX8_sheet 4 (some .int) { frames := 2, cells := 0, slots := 0, locals := 42 } w [rf V v0, .int v1, .int v2, .int v3] (some (.int r)) w' 0 0 := by
  refine g_start (by decide) (Nat.le_of_ble_eq_true rfl) ?_
  intro t _ hrm X hret hnm
  have Y : Hd_ t V cX8_sheet 4 RX8 { frames := 2, cells := 0, slots := 0, locals := 42 } (some .int) "sheet" := ⟨X, hrm, hret, hnm⟩
  refine g_as (lv' := [(0, rf V v0), (1, .int v1), (2, .int v2), (3, .int v3)]) (st' := []) rfl rfl ?_
  unfold f_X8_sheet at h
  refine g_iload_n (pc := 0) X 1 rfl dX8_sheet_0 ?_
  obtain ⟨r1, w2, h3, h⟩ := bd2_i h
  refine g_callS (pc := 1) X mk_X8_isSheet q_674 q_673 (c_X8_isSheet h3) rfl rfl (by rw [Y.2.1]; decide)  rfl (rest := []) rfl (Nat.le_of_ble_eq_true rfl) (by rw [Y.2.1]; exact ⟨Nat.le_of_ble_eq_true rfl, Nat.le_of_ble_eq_true rfl⟩) dX8_sheet_1 (st' := [.int r1]) rfl ?_
  refine g_if_eq (pc := 4) X (tgt := 16) dX8_sheet_4 rfl (fun c => ?_) (fun c => ?_)
  · have h := br_y c h
    refine g_ldc (pc := 16) X q_359 dX8_sheet_16 ?_
    obtain ⟨e1, e2⟩ := rt_i h
    exact g_iret (pc := 18) X Y.2.2.1 (Nat.le_of_ble_eq_true rfl) (Nat.le_of_ble_eq_true rfl) e1 e2 dX8_sheet_18
  · have h := br_n c h
    refine g_iload_n (pc := 7) X 2 rfl dX8_sheet_7 ?_
    refine g_iconst (pc := 8) X (v := (-1)) dX8_sheet_8 rfl ?_
    refine g_iconst (pc := 9) X (v := 1) dX8_sheet_9 rfl ?_
    obtain ⟨r4, w5, h6, h⟩ := bd2_i h
    refine g_callS (pc := 10) X mk_X8_isWithin q_357 q_356 (c_X8_isWithin h6) rfl rfl (by rw [Y.2.1]; decide)  rfl (rest := []) rfl (Nat.le_of_ble_eq_true rfl) (by rw [Y.2.1]; exact ⟨Nat.le_of_ble_eq_true rfl, Nat.le_of_ble_eq_true rfl⟩) dX8_sheet_10 (st' := [.int r4]) rfl ?_
    refine g_if_ne (pc := 13) X (tgt := 19) dX8_sheet_13 rfl (fun c => ?_) (fun c => ?_)
    · have h := br_n c h
      refine g_iload_n (pc := 19) X 2 rfl dX8_sheet_19 ?_
      refine g_iconst (pc := 20) X (v := (-1)) dX8_sheet_20 rfl ?_
      refine g_icmp_ne (pc := 21) X (tgt := 37) dX8_sheet_21 rfl (fun c => ?_) (fun c => ?_)
      · have h := br_n c h
        refine g_iload_n (pc := 37) X 3 rfl dX8_sheet_37 ?_
        refine g_bipush (pc := 38) X (v := 24) dX8_sheet_38 rfl ?_
        refine g_icmp_le (pc := 40) X (tgt := 46) dX8_sheet_40 rfl (fun c => ?_) (fun c => ?_)
        · have h := br_y c h
          refine g_iload_n (pc := 46) X 3 rfl dX8_sheet_46 ?_
          refine g_if_ge (pc := 47) X (tgt := 54) dX8_sheet_47 rfl (fun c => ?_) (fun c => ?_)
          · have h := br_y c h
            refine g_aload_n (pc := 54) X 0 rfl dX8_sheet_54 ?_
            obtain ⟨k7, h⟩ := gd_i h
            obtain ⟨a8, e9, h⟩ := bd1_i h
            refine g_getR (pc := 55) X FcX8 k7 6 e9 (by decide) rfl q_327 dX8_sheet_55 ?_
            refine g_iload_n (pc := 58) X 1 rfl dX8_sheet_58 ?_
            obtain ⟨k10, h⟩ := gd_i h
            obtain ⟨a11, e12, h⟩ := bd1_i h
            refine g_aald (pc := 59) X (C := RX3) k10 (by decide) (by decide) rfl e12 dX8_sheet_59 ?_
            refine g_iload_n (pc := 60) X 2 rfl dX8_sheet_60 ?_
            refine g_iload_n (pc := 61) X 3 rfl dX8_sheet_61 ?_
            obtain ⟨k13, h⟩ := gd_i h
            obtain ⟨r14, w15, h16, h⟩ := bd2_i h
            refine g_callV (pc := 62) X FcX3 k13 mk_X3_clear q_931 q_932 q_930 (c_X3_clear h16) rfl rfl (by rw [Y.2.1]; decide)  rfl (rest := []) rfl (Nat.le_of_ble_eq_true rfl) (by rw [Y.2.1]; exact ⟨Nat.le_of_ble_eq_true rfl, Nat.le_of_ble_eq_true rfl⟩) dX8_sheet_62 (st' := []) rfl ?_
            refine g_iload_n (pc := 65) X 3 rfl dX8_sheet_65 ?_
            obtain ⟨e1, e2⟩ := rt_i h
            exact g_iret (pc := 66) X Y.2.2.1 (Nat.le_of_ble_eq_true rfl) (Nat.le_of_ble_eq_true rfl) e1 e2 dX8_sheet_66
          · have h := br_n c h
            refine g_ldcw (pc := 50) X q_934 dX8_sheet_50 ?_
            obtain ⟨e1, e2⟩ := rt_i h
            exact g_iret (pc := 53) X Y.2.2.1 (Nat.le_of_ble_eq_true rfl) (Nat.le_of_ble_eq_true rfl) e1 e2 dX8_sheet_53
        · have h := br_n c h
          refine g_ldc (pc := 43) X q_359 dX8_sheet_43 ?_
          obtain ⟨e1, e2⟩ := rt_i h
          exact g_iret (pc := 45) X Y.2.2.1 (Nat.le_of_ble_eq_true rfl) (Nat.le_of_ble_eq_true rfl) e1 e2 dX8_sheet_45
      · have h := br_y c h
        refine g_aload_n (pc := 24) X 0 rfl dX8_sheet_24 ?_
        obtain ⟨k17, h⟩ := gd_i h
        obtain ⟨a18, e19, h⟩ := bd1_i h
        refine g_getR (pc := 25) X FcX8 k17 6 e19 (by decide) rfl q_327 dX8_sheet_25 ?_
        refine g_iload_n (pc := 28) X 1 rfl dX8_sheet_28 ?_
        obtain ⟨k20, h⟩ := gd_i h
        obtain ⟨a21, e22, h⟩ := bd1_i h
        refine g_aald (pc := 29) X (C := RX3) k20 (by decide) (by decide) rfl e22 dX8_sheet_29 ?_
        refine g_iconst (pc := 30) X (v := (-1)) dX8_sheet_30 rfl ?_
        refine g_iconst (pc := 31) X (v := 0) dX8_sheet_31 rfl ?_
        obtain ⟨k23, h⟩ := gd_i h
        obtain ⟨r24, w25, h26, h⟩ := bd2_i h
        refine g_callV (pc := 32) X FcX3 k23 mk_X3_clear q_931 q_932 q_930 (c_X3_clear h26) rfl rfl (by rw [Y.2.1]; decide)  rfl (rest := []) rfl (Nat.le_of_ble_eq_true rfl) (by rw [Y.2.1]; exact ⟨Nat.le_of_ble_eq_true rfl, Nat.le_of_ble_eq_true rfl⟩) dX8_sheet_32 (st' := []) rfl ?_
        refine g_iconst (pc := 35) X (v := 0) dX8_sheet_35 rfl ?_
        obtain ⟨e1, e2⟩ := rt_i h
        exact g_iret (pc := 36) X Y.2.2.1 (Nat.le_of_ble_eq_true rfl) (Nat.le_of_ble_eq_true rfl) e1 e2 dX8_sheet_36
    · have h := br_y c h
      refine g_ldc (pc := 16) X q_359 dX8_sheet_16 ?_
      obtain ⟨e1, e2⟩ := rt_i h
      exact g_iret (pc := 18) X Y.2.2.1 (Nat.le_of_ble_eq_true rfl) (Nat.le_of_ble_eq_true rfl) e1 e2 dX8_sheet_18

