/-! by program: the pure functions of the methods, and their walks -/
def j_X9_takesE_305 (kk28 : Nat → Int32 → Int32 → Int32 → Wd → Option (Int32 × Wd)) (v0 : Nat) (v1 : Int32) (v2 : Int32) (v4 : Int32) (s0 : Int32) (s1 : Int32) (s2 : Nat) (w : Wd) : Option (Int32 × Wd) := (if s0 = 0 ∨ s0 = 1 then
 (if aK 12 w s2 s1 = true then
 (lb_ (sI w s2 (nx s1) s0) fun w29 =>
 (bd2 (f_X9_rank v4 w29) fun r31 w32 =>
 (if wK w32 v0 = 9 then
 (bd2 (f_X9_settle v0 r31 w32) fun r35 w36 =>
 (if wK w36 v0 = 9 then
 (bd1 (wR w36 v0 20) fun a39 =>
 (if aK 11 w36 a39 (wI w36 v0 21) = true then
 (lb_ (sI w36 a39 (nx (wI w36 v0 21)) v4) fun w42 =>
 (lb_ (sI w42 v0 21 ((wI w42 v0 21) + 1)) fun w44 =>
 (bd2 (f_X9_go v0 w44) fun r46 w47 =>
 kk28 v0 v1 v2 1 w47)))
 else none))
 else none))
 else none)))
 else none)
 else none)
theorem bj_X9_takesE_305 {t : Ct} {V : Vt} {r : Int32} {w' : Wd} {kk28 : Nat → Int32 → Int32 → Int32 → Wd → Option (Int32 × Wd)} (Y : Hd_ t V cX9_takesE 5 RX9 { frames := 3, cells := 0, slots := 0, locals := 63 } (some .boolean) "takesE") (hk28 : ∀ (u0 : Nat) (u1 : Int32) (u2 : Int32) (u3 : Int32) (w : Wd), kk28 u0 u1 u2 u3 w = some (r, w') → Gd t V 5 0 0 (Qe t V (some (.int r)) w' 0 0) 28 [(0, rf V u0), (1, .int u1), (2, .int u2), (3, .int u3)] [] w) {v0 : Nat} {v1 : Int32} {v2 : Int32} {v4 : Int32} {s0 : Int32} {s1 : Int32} {s2 : Nat} {w : Wd} (h : j_X9_takesE_305 kk28 v0 v1 v2 v4 s0 s1 s2 w = some (r, w')) : Gd t V 5 0 0 (Qe t V (some (.int r)) w' 0 0) 305 [(0, rf V v0), (1, .int v1), (2, .int v2), (4, .int v4)] [.int s0, .int s1, rf V s2] w := by
  have X := Y.1
  unfold j_X9_takesE_305 at h
  obtain ⟨k27, h⟩ := gd_i h
  obtain ⟨k28, h⟩ := gd_i h
  refine g_bast (pc := 305) X k28 (bz_n k27) dX9_takesE_305 ?_
  obtain ⟨w29, e30, h⟩ := lb_i h
  refine g_w e30 ?_
  refine g_aload_n (pc := 306) X 0 rfl dX9_takesE_306 ?_
  refine g_iload (pc := 307) X 3 rfl dX9_takesE_307 ?_
  obtain ⟨r31, w32, h33, h⟩ := bd2_i h
  refine g_callS (pc := 309) X mk_X9_rank q_1424 q_1423 (c_X9_rank h33) rfl rfl (by rw [Y.2.1]; decide)  rfl (rest := [rf V v0]) rfl (Nat.le_of_ble_eq_true rfl) (by rw [Y.2.1]; exact ⟨Nat.le_of_ble_eq_true rfl, Nat.le_of_ble_eq_true rfl⟩) dX9_takesE_309 (st' := [.int r31, rf V v0]) rfl ?_
  obtain ⟨k34, h⟩ := gd_i h
  obtain ⟨r35, w36, h37, h⟩ := bd2_i h
  refine g_callV (pc := 312) X FcX9 k34 mk_X9_settle q_1421 q_60 q_1419 (c_X9_settle h37) rfl rfl (by rw [Y.2.1]; decide)  rfl (rest := []) rfl (Nat.le_of_ble_eq_true rfl) (by rw [Y.2.1]; exact ⟨Nat.le_of_ble_eq_true rfl, Nat.le_of_ble_eq_true rfl⟩) dX9_takesE_312 (st' := []) rfl ?_
  refine g_aload_n (pc := 315) X 0 rfl dX9_takesE_315 ?_
  obtain ⟨k38, h⟩ := gd_i h
  obtain ⟨a39, e40, h⟩ := bd1_i h
  refine g_getR (pc := 316) X FcX9 k38 20 e40 (by decide) rfl q_1040 dX9_takesE_316 ?_
  refine g_aload_n (pc := 319) X 0 rfl dX9_takesE_319 ?_
  refine g_getI (pc := 320) X FcX9 k38 21 (by decide) rfl q_1041 dX9_takesE_320 ?_
  refine g_iload (pc := 323) X 3 rfl dX9_takesE_323 ?_
  obtain ⟨k41, h⟩ := gd_i h
  refine g_iast (pc := 325) X k41 dX9_takesE_325 ?_
  obtain ⟨w42, e43, h⟩ := lb_i h
  refine g_w e43 ?_
  refine g_aload_n (pc := 326) X 0 rfl dX9_takesE_326 ?_
  refine g_dup (pc := 327) X rfl dX9_takesE_327 ?_
  refine g_getI (pc := 328) X FcX9 (kd_I e43 k38) 21 (by decide) rfl q_1041 dX9_takesE_328 ?_
  refine g_iconst (pc := 331) X (v := 1) dX9_takesE_331 rfl ?_
  refine g_iadd (pc := 332) X dX9_takesE_332 ?_
  refine g_putI (pc := 333) X FcX9 (kd_I e43 k38) 21 (by decide) rfl q_1041 rfl rfl rfl dX9_takesE_333 ?_
  obtain ⟨w44, e45, h⟩ := lb_i h
  refine g_w e45 ?_
  refine g_iconst (pc := 336) X (v := 1) dX9_takesE_336 rfl ?_
  refine g_istore_n (pc := 337) X (lv' := [(3, .int 1), (0, rf V v0), (1, .int v1), (2, .int v2), (4, .int v4)]) dX9_takesE_337 (by decide) rfl ?_
  refine g_aload_n (pc := 338) X 1 rfl dX9_takesE_338 ?_
  obtain ⟨r46, w47, h48, h⟩ := bd2_i h
  refine g_callV (pc := 339) X FcX9 (kd_I e45 (kd_I e43 k38)) mk_X9_go q_1393 q_53 q_1391 (c_X9_go h48) rfl rfl (by rw [Y.2.1]; decide)  rfl (rest := []) rfl (Nat.le_of_ble_eq_true rfl) (by rw [Y.2.1]; exact ⟨Nat.le_of_ble_eq_true rfl, Nat.le_of_ble_eq_true rfl⟩) dX9_takesE_339 (st' := []) rfl ?_
  refine g_goto (pc := 342) X (tgt := 28) dX9_takesE_342 rfl ?_
  refine g_sub (lv' := [(0, rf V v0), (1, .int v1), (2, .int v2), (3, .int 1)]) [1, 2, 3, 0] rfl ?_
  exact hk28 _ _ _ _ _ h

def j_X9_takesE_300 (kk28 : Nat → Int32 → Int32 → Int32 → Wd → Option (Int32 × Wd)) (v0 : Nat) (v1 : Int32) (v2 : Int32) (v4 : Int32) (s0 : Int32) (s1 : Nat) (w : Wd) : Option (Int32 × Wd) := j_X9_takesE_305 kk28 v0 v1 v2 v4 1 s0 s1 w
theorem bj_X9_takesE_300 {t : Ct} {V : Vt} {r : Int32} {w' : Wd} {kk28 : Nat → Int32 → Int32 → Int32 → Wd → Option (Int32 × Wd)} (Y : Hd_ t V cX9_takesE 5 RX9 { frames := 3, cells := 0, slots := 0, locals := 63 } (some .boolean) "takesE") (hk28 : ∀ (u0 : Nat) (u1 : Int32) (u2 : Int32) (u3 : Int32) (w : Wd), kk28 u0 u1 u2 u3 w = some (r, w') → Gd t V 5 0 0 (Qe t V (some (.int r)) w' 0 0) 28 [(0, rf V u0), (1, .int u1), (2, .int u2), (3, .int u3)] [] w) {v0 : Nat} {v1 : Int32} {v2 : Int32} {v4 : Int32} {s0 : Int32} {s1 : Nat} {w : Wd} (h : j_X9_takesE_300 kk28 v0 v1 v2 v4 s0 s1 w = some (r, w')) : Gd t V 5 0 0 (Qe t V (some (.int r)) w' 0 0) 300 [(0, rf V v0), (1, .int v1), (2, .int v2), (4, .int v4)] [.int s0, rf V s1] w := by
  have X := Y.1
  unfold j_X9_takesE_300 at h
  refine g_iconst (pc := 300) X (v := 1) dX9_takesE_300 rfl ?_
  refine g_goto (pc := 301) X (tgt := 305) dX9_takesE_301 rfl ?_
  refine g_sub (lv' := [(0, rf V v0), (1, .int v1), (2, .int v2), (4, .int v4)]) [0, 1, 2, 3] rfl ?_
  exact bj_X9_takesE_305 Y hk28 h

def j_X9_takesE_304 (kk28 : Nat → Int32 → Int32 → Int32 → Wd → Option (Int32 × Wd)) (v0 : Nat) (v1 : Int32) (v2 : Int32) (v4 : Int32) (s0 : Int32) (s1 : Nat) (w : Wd) : Option (Int32 × Wd) := j_X9_takesE_305 kk28 v0 v1 v2 v4 0 s0 s1 w
theorem bj_X9_takesE_304 {t : Ct} {V : Vt} {r : Int32} {w' : Wd} {kk28 : Nat → Int32 → Int32 → Int32 → Wd → Option (Int32 × Wd)} (Y : Hd_ t V cX9_takesE 5 RX9 { frames := 3, cells := 0, slots := 0, locals := 63 } (some .boolean) "takesE") (hk28 : ∀ (u0 : Nat) (u1 : Int32) (u2 : Int32) (u3 : Int32) (w : Wd), kk28 u0 u1 u2 u3 w = some (r, w') → Gd t V 5 0 0 (Qe t V (some (.int r)) w' 0 0) 28 [(0, rf V u0), (1, .int u1), (2, .int u2), (3, .int u3)] [] w) {v0 : Nat} {v1 : Int32} {v2 : Int32} {v4 : Int32} {s0 : Int32} {s1 : Nat} {w : Wd} (h : j_X9_takesE_304 kk28 v0 v1 v2 v4 s0 s1 w = some (r, w')) : Gd t V 5 0 0 (Qe t V (some (.int r)) w' 0 0) 304 [(0, rf V v0), (1, .int v1), (2, .int v2), (4, .int v4)] [.int s0, rf V s1] w := by
  have X := Y.1
  unfold j_X9_takesE_304 at h
  refine g_iconst (pc := 304) X (v := 0) dX9_takesE_304 rfl ?_
  refine g_sub (lv' := [(0, rf V v0), (1, .int v1), (2, .int v2), (4, .int v4)]) [0, 1, 2, 3] rfl ?_
  exact bj_X9_takesE_305 Y hk28 h

def j_X9_takesE_268 (kk28 : Nat → Int32 → Int32 → Int32 → Wd → Option (Int32 × Wd)) (v0 : Nat) (v1 : Int32) (v2 : Int32) (v4 : Int32) (w : Wd) : Option (Int32 × Wd) := (if wK w v0 = 9 then
 (bd1 (wR w v0 22) fun a22 =>
 (bd2 (f_X9_rank v4 w) fun r24 w25 =>
 (if r24 = 3 then
 j_X9_takesE_300 kk28 v0 v1 v2 v4 v1 a22 w25
 else
 (bd2 (f_X9_rank v4 w25) fun r49 w50 =>
 (if r49 ≤ 3 then
 j_X9_takesE_304 kk28 v0 v1 v2 v4 v1 a22 w50
 else
 (if wK w50 v0 = 9 then
 (bd1 (wR w50 v0 22) fun a53 =>
 (if aK 12 w50 a53 v1 = true then
 (if aK 12 w50 a22 v1 = true then
 (lb_ (sI w50 a22 (nx v1) (if (wI w50 a53 (nx v1)) = 0 then 0 else 1 : Int32)) fun w57 =>
 (bd2 (f_X9_rank v4 w57) fun r59 w60 =>
 (if wK w60 v0 = 9 then
 (bd2 (f_X9_settle v0 r59 w60) fun r63 w64 =>
 (if wK w64 v0 = 9 then
 (bd1 (wR w64 v0 20) fun a67 =>
 (if aK 11 w64 a67 (wI w64 v0 21) = true then
 (lb_ (sI w64 a67 (nx (wI w64 v0 21)) v4) fun w70 =>
 (lb_ (sI w70 v0 21 ((wI w70 v0 21) + 1)) fun w72 =>
 (bd2 (f_X9_go v0 w72) fun r74 w75 =>
 kk28 v0 v1 v2 1 w75)))
 else none))
 else none))
 else none)))
 else none)
 else none))
 else none))))))
 else none)
theorem bj_X9_takesE_268 {t : Ct} {V : Vt} {r : Int32} {w' : Wd} {kk28 : Nat → Int32 → Int32 → Int32 → Wd → Option (Int32 × Wd)} (Y : Hd_ t V cX9_takesE 5 RX9 { frames := 3, cells := 0, slots := 0, locals := 63 } (some .boolean) "takesE") (hk28 : ∀ (u0 : Nat) (u1 : Int32) (u2 : Int32) (u3 : Int32) (w : Wd), kk28 u0 u1 u2 u3 w = some (r, w') → Gd t V 5 0 0 (Qe t V (some (.int r)) w' 0 0) 28 [(0, rf V u0), (1, .int u1), (2, .int u2), (3, .int u3)] [] w) {v0 : Nat} {v1 : Int32} {v2 : Int32} {v4 : Int32} {w : Wd} (h : j_X9_takesE_268 kk28 v0 v1 v2 v4 w = some (r, w')) : Gd t V 5 0 0 (Qe t V (some (.int r)) w' 0 0) 268 [(0, rf V v0), (1, .int v1), (2, .int v2), (4, .int v4)] [] w := by
  have X := Y.1
  unfold j_X9_takesE_268 at h
  refine g_aload_n (pc := 268) X 0 rfl dX9_takesE_268 ?_
  obtain ⟨k21, h⟩ := gd_i h
  obtain ⟨a22, e23, h⟩ := bd1_i h
  refine g_getR (pc := 269) X FcX9 k21 22 e23 (by decide) rfl q_1042 dX9_takesE_269 ?_
  refine g_iload_n (pc := 272) X 1 rfl dX9_takesE_272 ?_
  refine g_iload (pc := 273) X 3 rfl dX9_takesE_273 ?_
  obtain ⟨r24, w25, h26, h⟩ := bd2_i h
  refine g_callS (pc := 275) X mk_X9_rank q_1424 q_1423 (c_X9_rank h26) rfl rfl (by rw [Y.2.1]; decide)  rfl (rest := [.int v1, rf V a22]) rfl (Nat.le_of_ble_eq_true rfl) (by rw [Y.2.1]; exact ⟨Nat.le_of_ble_eq_true rfl, Nat.le_of_ble_eq_true rfl⟩) dX9_takesE_275 (st' := [.int r24, .int v1, rf V a22]) rfl ?_
  refine g_iconst (pc := 278) X (v := 3) dX9_takesE_278 rfl ?_
  refine g_icmp_eq (pc := 279) X (tgt := 300) dX9_takesE_279 rfl (fun c => ?_) (fun c => ?_)
  · have h := br_y c h
    refine g_sub (lv' := [(0, rf V v0), (1, .int v1), (2, .int v2), (4, .int v4)]) [0, 1, 2, 3] rfl ?_
    exact bj_X9_takesE_300 Y hk28 h
  · have h := br_n c h
    refine g_iload (pc := 282) X 3 rfl dX9_takesE_282 ?_
    obtain ⟨r49, w50, h51, h⟩ := bd2_i h
    refine g_callS (pc := 284) X mk_X9_rank q_1424 q_1423 (c_X9_rank h51) rfl rfl (by rw [Y.2.1]; decide)  rfl (rest := [.int v1, rf V a22]) rfl (Nat.le_of_ble_eq_true rfl) (by rw [Y.2.1]; exact ⟨Nat.le_of_ble_eq_true rfl, Nat.le_of_ble_eq_true rfl⟩) dX9_takesE_284 (st' := [.int r49, .int v1, rf V a22]) rfl ?_
    refine g_iconst (pc := 287) X (v := 3) dX9_takesE_287 rfl ?_
    refine g_icmp_le (pc := 288) X (tgt := 304) dX9_takesE_288 rfl (fun c => ?_) (fun c => ?_)
    · have h := br_y c h
      refine g_sub (lv' := [(0, rf V v0), (1, .int v1), (2, .int v2), (4, .int v4)]) [0, 1, 2, 3] rfl ?_
      exact bj_X9_takesE_304 Y hk28 h
    · have h := br_n c h
      refine g_aload_n (pc := 291) X 0 rfl dX9_takesE_291 ?_
      obtain ⟨k52, h⟩ := gd_i h
      obtain ⟨a53, e54, h⟩ := bd1_i h
      refine g_getR (pc := 292) X FcX9 k52 22 e54 (by decide) rfl q_1042 dX9_takesE_292 ?_
      refine g_iload_n (pc := 295) X 1 rfl dX9_takesE_295 ?_
      obtain ⟨k55, h⟩ := gd_i h
      refine g_bald (pc := 296) X k55 dX9_takesE_296 ?_
      have kJ : Gd t V 5 0 0 (Qe t V (some (.int r)) w' 0 0) 305 [(0, rf V v0), (1, .int v1), (2, .int v2), (4, .int v4)] [.int (if (wI w50 a53 (nx v1)) = 0 then 0 else 1 : Int32), .int v1, rf V a22] w50 := by
        obtain ⟨k56, h⟩ := gd_i h
        refine g_bast (pc := 305) X k56 (bz_n (bz_ite (Or.inl rfl) (Or.inr rfl))) dX9_takesE_305 ?_
        obtain ⟨w57, e58, h⟩ := lb_i h
        refine g_w e58 ?_
        refine g_aload_n (pc := 306) X 0 rfl dX9_takesE_306 ?_
        refine g_iload (pc := 307) X 3 rfl dX9_takesE_307 ?_
        obtain ⟨r59, w60, h61, h⟩ := bd2_i h
        refine g_callS (pc := 309) X mk_X9_rank q_1424 q_1423 (c_X9_rank h61) rfl rfl (by rw [Y.2.1]; decide)  rfl (rest := [rf V v0]) rfl (Nat.le_of_ble_eq_true rfl) (by rw [Y.2.1]; exact ⟨Nat.le_of_ble_eq_true rfl, Nat.le_of_ble_eq_true rfl⟩) dX9_takesE_309 (st' := [.int r59, rf V v0]) rfl ?_
        obtain ⟨k62, h⟩ := gd_i h
        obtain ⟨r63, w64, h65, h⟩ := bd2_i h
        refine g_callV (pc := 312) X FcX9 k62 mk_X9_settle q_1421 q_60 q_1419 (c_X9_settle h65) rfl rfl (by rw [Y.2.1]; decide)  rfl (rest := []) rfl (Nat.le_of_ble_eq_true rfl) (by rw [Y.2.1]; exact ⟨Nat.le_of_ble_eq_true rfl, Nat.le_of_ble_eq_true rfl⟩) dX9_takesE_312 (st' := []) rfl ?_
        refine g_aload_n (pc := 315) X 0 rfl dX9_takesE_315 ?_
        obtain ⟨k66, h⟩ := gd_i h
        obtain ⟨a67, e68, h⟩ := bd1_i h
        refine g_getR (pc := 316) X FcX9 k66 20 e68 (by decide) rfl q_1040 dX9_takesE_316 ?_
        refine g_aload_n (pc := 319) X 0 rfl dX9_takesE_319 ?_
        refine g_getI (pc := 320) X FcX9 k66 21 (by decide) rfl q_1041 dX9_takesE_320 ?_
        refine g_iload (pc := 323) X 3 rfl dX9_takesE_323 ?_
        obtain ⟨k69, h⟩ := gd_i h
        refine g_iast (pc := 325) X k69 dX9_takesE_325 ?_
        obtain ⟨w70, e71, h⟩ := lb_i h
        refine g_w e71 ?_
        refine g_aload_n (pc := 326) X 0 rfl dX9_takesE_326 ?_
        refine g_dup (pc := 327) X rfl dX9_takesE_327 ?_
        refine g_getI (pc := 328) X FcX9 (kd_I e71 k66) 21 (by decide) rfl q_1041 dX9_takesE_328 ?_
        refine g_iconst (pc := 331) X (v := 1) dX9_takesE_331 rfl ?_
        refine g_iadd (pc := 332) X dX9_takesE_332 ?_
        refine g_putI (pc := 333) X FcX9 (kd_I e71 k66) 21 (by decide) rfl q_1041 rfl rfl rfl dX9_takesE_333 ?_
        obtain ⟨w72, e73, h⟩ := lb_i h
        refine g_w e73 ?_
        refine g_iconst (pc := 336) X (v := 1) dX9_takesE_336 rfl ?_
        refine g_istore_n (pc := 337) X (lv' := [(3, .int 1), (0, rf V v0), (1, .int v1), (2, .int v2), (4, .int v4)]) dX9_takesE_337 (by decide) rfl ?_
        refine g_aload_n (pc := 338) X 1 rfl dX9_takesE_338 ?_
        obtain ⟨r74, w75, h76, h⟩ := bd2_i h
        refine g_callV (pc := 339) X FcX9 (kd_I e73 (kd_I e71 k66)) mk_X9_go q_1393 q_53 q_1391 (c_X9_go h76) rfl rfl (by rw [Y.2.1]; decide)  rfl (rest := []) rfl (Nat.le_of_ble_eq_true rfl) (by rw [Y.2.1]; exact ⟨Nat.le_of_ble_eq_true rfl, Nat.le_of_ble_eq_true rfl⟩) dX9_takesE_339 (st' := []) rfl ?_
        refine g_goto (pc := 342) X (tgt := 28) dX9_takesE_342 rfl ?_
        refine g_sub (lv' := [(0, rf V v0), (1, .int v1), (2, .int v2), (3, .int 1)]) [1, 2, 3, 0] rfl ?_
        exact hk28 _ _ _ _ _ h
      refine g_if_eq (pc := 297) X (tgt := 304) dX9_takesE_297 rfl (fun c0 => ?_) (fun c0 => ?_)
      · refine g_iconst (pc := 304) X (v := 0) dX9_takesE_304 rfl ?_
        exact g_top (by rw [if_pos c0]) kJ
      · refine g_iconst (pc := 300) X (v := 1) dX9_takesE_300 rfl ?_
        refine g_goto (pc := 301) X (tgt := 305) dX9_takesE_301 rfl ?_
        exact g_top (by rw [if_neg c0]) kJ

def j_X9_takesE_237 (kk28 : Nat → Int32 → Int32 → Int32 → Wd → Option (Int32 × Wd)) (v0 : Nat) (v1 : Int32) (v2 : Int32) (w : Wd) : Option (Int32 × Wd) := (if wK w v0 = 9 then
 (bd2 (f_X9_signHere v0 w) fun r15 w16 =>
 (if r15 = 0 then
 some (0, w16)
 else
 (bd2 (f_X9_rank r15 w16) fun r18 w19 =>
 (if r18 = 3 then
 (if wK w19 v0 = 9 then
 (bd1 (wR w19 v0 22) fun a78 =>
 (if aK 12 w19 a78 v1 = true then
 (if (wI w19 a78 (nx v1)) = 0 then
 j_X9_takesE_268 kk28 v0 v1 v2 r15 w19
 else
 some (0, w19))
 else none))
 else none)
 else
 j_X9_takesE_268 kk28 v0 v1 v2 r15 w19))))
 else none)
theorem bj_X9_takesE_237 {t : Ct} {V : Vt} {r : Int32} {w' : Wd} {kk28 : Nat → Int32 → Int32 → Int32 → Wd → Option (Int32 × Wd)} (Y : Hd_ t V cX9_takesE 5 RX9 { frames := 3, cells := 0, slots := 0, locals := 63 } (some .boolean) "takesE") (hk28 : ∀ (u0 : Nat) (u1 : Int32) (u2 : Int32) (u3 : Int32) (w : Wd), kk28 u0 u1 u2 u3 w = some (r, w') → Gd t V 5 0 0 (Qe t V (some (.int r)) w' 0 0) 28 [(0, rf V u0), (1, .int u1), (2, .int u2), (3, .int u3)] [] w) {v0 : Nat} {v1 : Int32} {v2 : Int32} {w : Wd} (h : j_X9_takesE_237 kk28 v0 v1 v2 w = some (r, w')) : Gd t V 5 0 0 (Qe t V (some (.int r)) w' 0 0) 237 [(0, rf V v0), (1, .int v1), (2, .int v2)] [] w := by
  have X := Y.1
  unfold j_X9_takesE_237 at h
  refine g_aload_n (pc := 237) X 0 rfl dX9_takesE_237 ?_
  obtain ⟨k14, h⟩ := gd_i h
  obtain ⟨r15, w16, h17, h⟩ := bd2_i h
  refine g_callV (pc := 238) X FcX9 k14 mk_X9_signHere q_1432 q_62 q_1430 (c_X9_signHere h17) rfl rfl (by rw [Y.2.1]; decide)  rfl (rest := []) rfl (Nat.le_of_ble_eq_true rfl) (by rw [Y.2.1]; exact ⟨Nat.le_of_ble_eq_true rfl, Nat.le_of_ble_eq_true rfl⟩) dX9_takesE_238 (st' := [.int r15]) rfl ?_
  refine g_istore (pc := 241) X (lv' := [(4, .int r15), (0, rf V v0), (1, .int v1), (2, .int v2)]) dX9_takesE_241 (by decide) rfl ?_
  refine g_iload (pc := 243) X 0 rfl dX9_takesE_243 ?_
  refine g_if_eq (pc := 245) X (tgt := 266) dX9_takesE_245 rfl (fun c => ?_) (fun c => ?_)
  · have h := br_y c h
    refine g_iconst (pc := 266) X (v := 0) dX9_takesE_266 rfl ?_
    obtain ⟨e1, e2⟩ := rt_i h
    exact g_zret (pc := 267) X Y.2.2.1 (Or.inl rfl) (Nat.le_of_ble_eq_true rfl) (Nat.le_of_ble_eq_true rfl) e1 e2 dX9_takesE_267
  · have h := br_n c h
    refine g_iload (pc := 248) X 0 rfl dX9_takesE_248 ?_
    obtain ⟨r18, w19, h20, h⟩ := bd2_i h
    refine g_callS (pc := 250) X mk_X9_rank q_1424 q_1423 (c_X9_rank h20) rfl rfl (by rw [Y.2.1]; decide)  rfl (rest := []) rfl (Nat.le_of_ble_eq_true rfl) (by rw [Y.2.1]; exact ⟨Nat.le_of_ble_eq_true rfl, Nat.le_of_ble_eq_true rfl⟩) dX9_takesE_250 (st' := [.int r18]) rfl ?_
    refine g_iconst (pc := 253) X (v := 3) dX9_takesE_253 rfl ?_
    refine g_icmp_ne (pc := 254) X (tgt := 268) dX9_takesE_254 rfl (fun c => ?_) (fun c => ?_)
    · have h := br_n c h
      refine g_sub (lv' := [(0, rf V v0), (1, .int v1), (2, .int v2), (4, .int r15)]) [1, 2, 3, 0] rfl ?_
      exact bj_X9_takesE_268 Y hk28 h
    · have h := br_y c h
      refine g_aload_n (pc := 257) X 1 rfl dX9_takesE_257 ?_
      obtain ⟨k77, h⟩ := gd_i h
      obtain ⟨a78, e79, h⟩ := bd1_i h
      refine g_getR (pc := 258) X FcX9 k77 22 e79 (by decide) rfl q_1042 dX9_takesE_258 ?_
      refine g_iload_n (pc := 261) X 2 rfl dX9_takesE_261 ?_
      obtain ⟨k80, h⟩ := gd_i h
      refine g_bald (pc := 262) X k80 dX9_takesE_262 ?_
      refine g_if_eq (pc := 263) X (tgt := 268) dX9_takesE_263 rfl (fun c => ?_) (fun c => ?_)
      · have h := br_y c h
        refine g_sub (lv' := [(0, rf V v0), (1, .int v1), (2, .int v2), (4, .int r15)]) [1, 2, 3, 0] rfl ?_
        exact bj_X9_takesE_268 Y hk28 h
      · have h := br_n c h
        refine g_iconst (pc := 266) X (v := 0) dX9_takesE_266 rfl ?_
        obtain ⟨e1, e2⟩ := rt_i h
        exact g_zret (pc := 267) X Y.2.2.1 (Or.inl rfl) (Nat.le_of_ble_eq_true rfl) (Nat.le_of_ble_eq_true rfl) e1 e2 dX9_takesE_267

def j_X9_takesE_172 (kk28 : Nat → Int32 → Int32 → Int32 → Wd → Option (Int32 × Wd)) (v0 : Nat) (v1 : Int32) (v3 : Int32) (w : Wd) : Option (Int32 × Wd) := (if wK w v0 = 9 then
 (bd2 (f_X9_notsOpen v0 w) fun r107 w108 =>
 kk28 v0 v1 r107 v3 w108)
 else none)
theorem bj_X9_takesE_172 {t : Ct} {V : Vt} {r : Int32} {w' : Wd} {kk28 : Nat → Int32 → Int32 → Int32 → Wd → Option (Int32 × Wd)} (Y : Hd_ t V cX9_takesE 5 RX9 { frames := 3, cells := 0, slots := 0, locals := 63 } (some .boolean) "takesE") (hk28 : ∀ (u0 : Nat) (u1 : Int32) (u2 : Int32) (u3 : Int32) (w : Wd), kk28 u0 u1 u2 u3 w = some (r, w') → Gd t V 5 0 0 (Qe t V (some (.int r)) w' 0 0) 28 [(0, rf V u0), (1, .int u1), (2, .int u2), (3, .int u3)] [] w) {v0 : Nat} {v1 : Int32} {v3 : Int32} {w : Wd} (h : j_X9_takesE_172 kk28 v0 v1 v3 w = some (r, w')) : Gd t V 5 0 0 (Qe t V (some (.int r)) w' 0 0) 172 [(0, rf V v0), (1, .int v1), (3, .int v3)] [] w := by
  have X := Y.1
  unfold j_X9_takesE_172 at h
  refine g_aload_n (pc := 172) X 0 rfl dX9_takesE_172 ?_
  obtain ⟨k106, h⟩ := gd_i h
  obtain ⟨r107, w108, h109, h⟩ := bd2_i h
  refine g_callV (pc := 173) X FcX9 k106 mk_X9_notsOpen q_1428 q_61 q_1426 (c_X9_notsOpen h109) rfl rfl (by rw [Y.2.1]; decide)  rfl (rest := []) rfl (Nat.le_of_ble_eq_true rfl) (by rw [Y.2.1]; exact ⟨Nat.le_of_ble_eq_true rfl, Nat.le_of_ble_eq_true rfl⟩) dX9_takesE_173 (st' := [.int r107]) rfl ?_
  refine g_istore_n (pc := 176) X (lv' := [(2, .int r107), (0, rf V v0), (1, .int v1), (3, .int v3)]) dX9_takesE_176 (by decide) rfl ?_
  refine g_goto (pc := 177) X (tgt := 28) dX9_takesE_177 rfl ?_
  refine g_sub (lv' := [(0, rf V v0), (1, .int v1), (2, .int r107), (3, .int v3)]) [1, 2, 0, 3] rfl ?_
  exact hk28 _ _ _ _ _ h

def j_X9_takesE_158 (kk28 : Nat → Int32 → Int32 → Int32 → Wd → Option (Int32 × Wd)) (v0 : Nat) (v1 : Int32) (w : Wd) : Option (Int32 × Wd) := (if wK w v0 = 9 then
 (bd2 (f_X9_takesPart v0 w) fun r103 w104 =>
 (if r103 = 0 then
 some (0, w104)
 else
 j_X9_takesE_172 kk28 v0 v1 0 w104))
 else none)
theorem bj_X9_takesE_158 {t : Ct} {V : Vt} {r : Int32} {w' : Wd} {kk28 : Nat → Int32 → Int32 → Int32 → Wd → Option (Int32 × Wd)} (Y : Hd_ t V cX9_takesE 5 RX9 { frames := 3, cells := 0, slots := 0, locals := 63 } (some .boolean) "takesE") (hk28 : ∀ (u0 : Nat) (u1 : Int32) (u2 : Int32) (u3 : Int32) (w : Wd), kk28 u0 u1 u2 u3 w = some (r, w') → Gd t V 5 0 0 (Qe t V (some (.int r)) w' 0 0) 28 [(0, rf V u0), (1, .int u1), (2, .int u2), (3, .int u3)] [] w) {v0 : Nat} {v1 : Int32} {w : Wd} (h : j_X9_takesE_158 kk28 v0 v1 w = some (r, w')) : Gd t V 5 0 0 (Qe t V (some (.int r)) w' 0 0) 158 [(0, rf V v0), (1, .int v1)] [] w := by
  have X := Y.1
  unfold j_X9_takesE_158 at h
  refine g_aload_n (pc := 158) X 0 rfl dX9_takesE_158 ?_
  obtain ⟨k102, h⟩ := gd_i h
  obtain ⟨r103, w104, h105, h⟩ := bd2_i h
  refine g_callV (pc := 159) X FcX9 k102 mk_X9_takesPart q_1413 q_58 q_1411 (c_X9_takesPart h105) rfl rfl (by rw [Y.2.1]; decide)  rfl (rest := []) rfl (Nat.le_of_ble_eq_true rfl) (by rw [Y.2.1]; exact ⟨Nat.le_of_ble_eq_true rfl, Nat.le_of_ble_eq_true rfl⟩) dX9_takesE_159 (st' := [.int r103]) rfl ?_
  refine g_if_eq (pc := 162) X (tgt := 170) dX9_takesE_162 rfl (fun c => ?_) (fun c => ?_)
  · have h := br_y c h
    refine g_iconst (pc := 170) X (v := 0) dX9_takesE_170 rfl ?_
    obtain ⟨e1, e2⟩ := rt_i h
    exact g_zret (pc := 171) X Y.2.2.1 (Or.inl rfl) (Nat.le_of_ble_eq_true rfl) (Nat.le_of_ble_eq_true rfl) e1 e2 dX9_takesE_171
  · have h := br_n c h
    refine g_iconst (pc := 165) X (v := 0) dX9_takesE_165 rfl ?_
    refine g_istore_n (pc := 166) X (lv' := [(3, .int 0), (0, rf V v0), (1, .int v1)]) dX9_takesE_166 (by decide) rfl ?_
    refine g_goto (pc := 167) X (tgt := 172) dX9_takesE_167 rfl ?_
    refine g_sub (lv' := [(0, rf V v0), (1, .int v1), (3, .int 0)]) [1, 2, 0] rfl ?_
    exact bj_X9_takesE_172 Y hk28 h

def j_X9_takesE_97 (kk28 : Nat → Int32 → Int32 → Int32 → Wd → Option (Int32 × Wd)) (v0 : Nat) (v1 : Int32) (v3 : Int32) (w : Wd) : Option (Int32 × Wd) := (if wK w v0 = 9 then
 (if (wI w v0 11) = 3 then
 (if (wI w v0 12) = 40 then
 (if 8 ≤ v1 then
 j_X9_takesE_158 kk28 v0 v1 w
 else
 (bd1 (wR w v0 20) fun a110 =>
 (if aK 11 w a110 (wI w v0 21) = true then
 (lb_ (sI w a110 (nx (wI w v0 21)) (-11)) fun w113 =>
 (lb_ (sI w113 v0 21 ((wI w113 v0 21) + 1)) fun w115 =>
 (lb_ (v1 + 1) fun x117 =>
 (bd1 (wR w115 v0 22) fun a119 =>
 (if aK 12 w115 a119 x117 = true then
 (lb_ (sI w115 a119 (nx x117) 0) fun w122 =>
 (bd2 (f_X9_go v0 w122) fun r124 w125 =>
 j_X9_takesE_172 kk28 v0 x117 v3 w125))
 else none)))))
 else none)))
 else
 j_X9_takesE_158 kk28 v0 v1 w)
 else
 j_X9_takesE_158 kk28 v0 v1 w)
 else none)
theorem bj_X9_takesE_97 {t : Ct} {V : Vt} {r : Int32} {w' : Wd} {kk28 : Nat → Int32 → Int32 → Int32 → Wd → Option (Int32 × Wd)} (Y : Hd_ t V cX9_takesE 5 RX9 { frames := 3, cells := 0, slots := 0, locals := 63 } (some .boolean) "takesE") (hk28 : ∀ (u0 : Nat) (u1 : Int32) (u2 : Int32) (u3 : Int32) (w : Wd), kk28 u0 u1 u2 u3 w = some (r, w') → Gd t V 5 0 0 (Qe t V (some (.int r)) w' 0 0) 28 [(0, rf V u0), (1, .int u1), (2, .int u2), (3, .int u3)] [] w) {v0 : Nat} {v1 : Int32} {v3 : Int32} {w : Wd} (h : j_X9_takesE_97 kk28 v0 v1 v3 w = some (r, w')) : Gd t V 5 0 0 (Qe t V (some (.int r)) w' 0 0) 97 [(0, rf V v0), (1, .int v1), (3, .int v3)] [] w := by
  have X := Y.1
  unfold j_X9_takesE_97 at h
  refine g_aload_n (pc := 97) X 0 rfl dX9_takesE_97 ?_
  obtain ⟨k101, h⟩ := gd_i h
  refine g_getI (pc := 98) X FcX9 k101 11 (by decide) rfl q_1031 dX9_takesE_98 ?_
  refine g_iconst (pc := 101) X (v := 3) dX9_takesE_101 rfl ?_
  refine g_icmp_ne (pc := 102) X (tgt := 158) dX9_takesE_102 rfl (fun c => ?_) (fun c => ?_)
  · have h := br_n c h
    refine g_sub (lv' := [(0, rf V v0), (1, .int v1)]) [0, 1] rfl ?_
    exact bj_X9_takesE_158 Y hk28 h
  · have h := br_y c h
    refine g_aload_n (pc := 105) X 0 rfl dX9_takesE_105 ?_
    refine g_getI (pc := 106) X FcX9 k101 12 (by decide) rfl q_1032 dX9_takesE_106 ?_
    refine g_bipush (pc := 109) X (v := 40) dX9_takesE_109 rfl ?_
    refine g_icmp_ne (pc := 111) X (tgt := 158) dX9_takesE_111 rfl (fun c => ?_) (fun c => ?_)
    · have h := br_n c h
      refine g_sub (lv' := [(0, rf V v0), (1, .int v1)]) [0, 1] rfl ?_
      exact bj_X9_takesE_158 Y hk28 h
    · have h := br_y c h
      refine g_iload_n (pc := 114) X 1 rfl dX9_takesE_114 ?_
      refine g_bipush (pc := 115) X (v := 8) dX9_takesE_115 rfl ?_
      refine g_icmp_ge (pc := 117) X (tgt := 158) dX9_takesE_117 rfl (fun c => ?_) (fun c => ?_)
      · have h := br_y c h
        refine g_sub (lv' := [(0, rf V v0), (1, .int v1)]) [0, 1] rfl ?_
        exact bj_X9_takesE_158 Y hk28 h
      · have h := br_n c h
        refine g_aload_n (pc := 120) X 0 rfl dX9_takesE_120 ?_
        obtain ⟨a110, e111, h⟩ := bd1_i h
        refine g_getR (pc := 121) X FcX9 k101 20 e111 (by decide) rfl q_1040 dX9_takesE_121 ?_
        refine g_aload_n (pc := 124) X 0 rfl dX9_takesE_124 ?_
        refine g_getI (pc := 125) X FcX9 k101 21 (by decide) rfl q_1041 dX9_takesE_125 ?_
        refine g_bipush (pc := 128) X (v := (-11)) dX9_takesE_128 rfl ?_
        obtain ⟨k112, h⟩ := gd_i h
        refine g_iast (pc := 130) X k112 dX9_takesE_130 ?_
        obtain ⟨w113, e114, h⟩ := lb_i h
        refine g_w e114 ?_
        refine g_aload_n (pc := 131) X 0 rfl dX9_takesE_131 ?_
        refine g_dup (pc := 132) X rfl dX9_takesE_132 ?_
        refine g_getI (pc := 133) X FcX9 (kd_I e114 k101) 21 (by decide) rfl q_1041 dX9_takesE_133 ?_
        refine g_iconst (pc := 136) X (v := 1) dX9_takesE_136 rfl ?_
        refine g_iadd (pc := 137) X dX9_takesE_137 ?_
        refine g_putI (pc := 138) X FcX9 (kd_I e114 k101) 21 (by decide) rfl q_1041 rfl rfl rfl dX9_takesE_138 ?_
        obtain ⟨w115, e116, h⟩ := lb_i h
        refine g_w e116 ?_
        obtain ⟨x117, e118, h⟩ := lb_i h
        refine g_iinc (pc := 141) X 1 rfl dX9_takesE_141 (v := x117) e118.symm (by decide) (lv' := [(1, .int x117), (0, rf V v0), (3, .int v3)]) rfl ?_
        refine g_aload_n (pc := 144) X 1 rfl dX9_takesE_144 ?_
        obtain ⟨a119, e120, h⟩ := bd1_i h
        refine g_getR (pc := 145) X FcX9 (kd_I e116 (kd_I e114 k101)) 22 e120 (by decide) rfl q_1042 dX9_takesE_145 ?_
        refine g_iload_n (pc := 148) X 0 rfl dX9_takesE_148 ?_
        refine g_iconst (pc := 149) X (v := 0) dX9_takesE_149 rfl ?_
        obtain ⟨k121, h⟩ := gd_i h
        refine g_bast (pc := 150) X k121 (bz_n (Or.inl rfl)) dX9_takesE_150 ?_
        obtain ⟨w122, e123, h⟩ := lb_i h
        refine g_w e123 ?_
        refine g_aload_n (pc := 151) X 1 rfl dX9_takesE_151 ?_
        obtain ⟨r124, w125, h126, h⟩ := bd2_i h
        refine g_callV (pc := 152) X FcX9 (kd_I e123 (kd_I e116 (kd_I e114 k101))) mk_X9_go q_1393 q_53 q_1391 (c_X9_go h126) rfl rfl (by rw [Y.2.1]; decide)  rfl (rest := []) rfl (Nat.le_of_ble_eq_true rfl) (by rw [Y.2.1]; exact ⟨Nat.le_of_ble_eq_true rfl, Nat.le_of_ble_eq_true rfl⟩) dX9_takesE_152 (st' := []) rfl ?_
        refine g_goto (pc := 155) X (tgt := 172) dX9_takesE_155 rfl ?_
        refine g_sub (lv' := [(0, rf V v0), (1, .int x117), (3, .int v3)]) [1, 0, 2] rfl ?_
        exact bj_X9_takesE_172 Y hk28 h

def j_X9_takesE_39 (kk28 : Nat → Int32 → Int32 → Int32 → Wd → Option (Int32 × Wd)) (v0 : Nat) (v1 : Int32) (v2 : Int32) (v3 : Int32) (w : Wd) : Option (Int32 × Wd) := (if v3 = 0 then
 (if wK w v0 = 9 then
 (if (wI w v0 11) = 3 then
 (if (wI w v0 12) = 41 then
 (if v1 ≤ 0 then
 j_X9_takesE_237 kk28 v0 v1 v2 w
 else
 (bd2 (f_X9_settle v0 0 w) fun r81 w82 =>
 (if wK w82 v0 = 9 then
 (lb_ (sI w82 v0 21 ((wI w82 v0 21) - 1)) fun w85 =>
 (lb_ (v1 + (-1)) fun x87 =>
 (bd2 (f_X9_settle v0 6 w85) fun r89 w90 =>
 (if wK w90 v0 = 9 then
 (bd2 (f_X9_notsOpen v0 w90) fun r93 w94 =>
 (if wK w94 v0 = 9 then
 (bd2 (f_X9_go v0 w94) fun r97 w98 =>
 kk28 v0 x87 r93 v3 w98)
 else none))
 else none))))
 else none)))
 else
 j_X9_takesE_237 kk28 v0 v1 v2 w)
 else
 j_X9_takesE_237 kk28 v0 v1 v2 w)
 else none)
 else
 (if wK w v0 = 9 then
 (if (wI w v0 11) = 3 then
 (if (wI w v0 12) = 33 then
 (if 8 ≤ v2 then
 j_X9_takesE_97 kk28 v0 v1 v3 w
 else
 (bd1 (wR w v0 20) fun a127 =>
 (if aK 11 w a127 (wI w v0 21) = true then
 (lb_ (sI w a127 (nx (wI w v0 21)) (-10)) fun w130 =>
 (lb_ (sI w130 v0 21 ((wI w130 v0 21) + 1)) fun w132 =>
 (lb_ (v2 + 1) fun x134 =>
 (bd2 (f_X9_go v0 w132) fun r136 w137 =>
 j_X9_takesE_172 kk28 v0 v1 v3 w137))))
 else none)))
 else
 j_X9_takesE_97 kk28 v0 v1 v3 w)
 else
 j_X9_takesE_97 kk28 v0 v1 v3 w)
 else none))
theorem bj_X9_takesE_39 {t : Ct} {V : Vt} {r : Int32} {w' : Wd} {kk28 : Nat → Int32 → Int32 → Int32 → Wd → Option (Int32 × Wd)} (Y : Hd_ t V cX9_takesE 5 RX9 { frames := 3, cells := 0, slots := 0, locals := 63 } (some .boolean) "takesE") (hk28 : ∀ (u0 : Nat) (u1 : Int32) (u2 : Int32) (u3 : Int32) (w : Wd), kk28 u0 u1 u2 u3 w = some (r, w') → Gd t V 5 0 0 (Qe t V (some (.int r)) w' 0 0) 28 [(0, rf V u0), (1, .int u1), (2, .int u2), (3, .int u3)] [] w) {v0 : Nat} {v1 : Int32} {v2 : Int32} {v3 : Int32} {w : Wd} (h : j_X9_takesE_39 kk28 v0 v1 v2 v3 w = some (r, w')) : Gd t V 5 0 0 (Qe t V (some (.int r)) w' 0 0) 39 [(0, rf V v0), (1, .int v1), (2, .int v2), (3, .int v3)] [] w := by
  have X := Y.1
  unfold j_X9_takesE_39 at h
  refine g_iload_n (pc := 39) X 3 rfl dX9_takesE_39 ?_
  refine g_if_eq (pc := 40) X (tgt := 180) dX9_takesE_40 rfl (fun c => ?_) (fun c => ?_)
  · have h := br_y c h
    refine g_aload_n (pc := 180) X 0 rfl dX9_takesE_180 ?_
    obtain ⟨k13, h⟩ := gd_i h
    refine g_getI (pc := 181) X FcX9 k13 11 (by decide) rfl q_1031 dX9_takesE_181 ?_
    refine g_iconst (pc := 184) X (v := 3) dX9_takesE_184 rfl ?_
    refine g_icmp_ne (pc := 185) X (tgt := 237) dX9_takesE_185 rfl (fun c => ?_) (fun c => ?_)
    · have h := br_n c h
      refine g_sub (lv' := [(0, rf V v0), (1, .int v1), (2, .int v2)]) [0, 1, 2] rfl ?_
      exact bj_X9_takesE_237 Y hk28 h
    · have h := br_y c h
      refine g_aload_n (pc := 188) X 0 rfl dX9_takesE_188 ?_
      refine g_getI (pc := 189) X FcX9 k13 12 (by decide) rfl q_1032 dX9_takesE_189 ?_
      refine g_bipush (pc := 192) X (v := 41) dX9_takesE_192 rfl ?_
      refine g_icmp_ne (pc := 194) X (tgt := 237) dX9_takesE_194 rfl (fun c => ?_) (fun c => ?_)
      · have h := br_n c h
        refine g_sub (lv' := [(0, rf V v0), (1, .int v1), (2, .int v2)]) [0, 1, 2] rfl ?_
        exact bj_X9_takesE_237 Y hk28 h
      · have h := br_y c h
        refine g_iload_n (pc := 197) X 1 rfl dX9_takesE_197 ?_
        refine g_if_le (pc := 198) X (tgt := 237) dX9_takesE_198 rfl (fun c => ?_) (fun c => ?_)
        · have h := br_y c h
          refine g_sub (lv' := [(0, rf V v0), (1, .int v1), (2, .int v2)]) [0, 1, 2] rfl ?_
          exact bj_X9_takesE_237 Y hk28 h
        · have h := br_n c h
          refine g_aload_n (pc := 201) X 0 rfl dX9_takesE_201 ?_
          refine g_iconst (pc := 202) X (v := 0) dX9_takesE_202 rfl ?_
          obtain ⟨r81, w82, h83, h⟩ := bd2_i h
          refine g_callV (pc := 203) X FcX9 k13 mk_X9_settle q_1421 q_60 q_1419 (c_X9_settle h83) rfl rfl (by rw [Y.2.1]; decide)  rfl (rest := []) rfl (Nat.le_of_ble_eq_true rfl) (by rw [Y.2.1]; exact ⟨Nat.le_of_ble_eq_true rfl, Nat.le_of_ble_eq_true rfl⟩) dX9_takesE_203 (st' := []) rfl ?_
          refine g_aload_n (pc := 206) X 0 rfl dX9_takesE_206 ?_
          refine g_dup (pc := 207) X rfl dX9_takesE_207 ?_
          obtain ⟨k84, h⟩ := gd_i h
          refine g_getI (pc := 208) X FcX9 k84 21 (by decide) rfl q_1041 dX9_takesE_208 ?_
          refine g_iconst (pc := 211) X (v := 1) dX9_takesE_211 rfl ?_
          refine g_isub (pc := 212) X dX9_takesE_212 ?_
          refine g_putI (pc := 213) X FcX9 k84 21 (by decide) rfl q_1041 rfl rfl rfl dX9_takesE_213 ?_
          obtain ⟨w85, e86, h⟩ := lb_i h
          refine g_w e86 ?_
          obtain ⟨x87, e88, h⟩ := lb_i h
          refine g_iinc (pc := 216) X 1 rfl dX9_takesE_216 (v := x87) e88.symm (by decide) (lv' := [(1, .int x87), (0, rf V v0), (2, .int v2), (3, .int v3)]) rfl ?_
          refine g_aload_n (pc := 219) X 1 rfl dX9_takesE_219 ?_
          refine g_bipush (pc := 220) X (v := 6) dX9_takesE_220 rfl ?_
          obtain ⟨r89, w90, h91, h⟩ := bd2_i h
          refine g_callV (pc := 222) X FcX9 (kd_I e86 k84) mk_X9_settle q_1421 q_60 q_1419 (c_X9_settle h91) rfl rfl (by rw [Y.2.1]; decide)  rfl (rest := []) rfl (Nat.le_of_ble_eq_true rfl) (by rw [Y.2.1]; exact ⟨Nat.le_of_ble_eq_true rfl, Nat.le_of_ble_eq_true rfl⟩) dX9_takesE_222 (st' := []) rfl ?_
          refine g_aload_n (pc := 225) X 1 rfl dX9_takesE_225 ?_
          obtain ⟨k92, h⟩ := gd_i h
          obtain ⟨r93, w94, h95, h⟩ := bd2_i h
          refine g_callV (pc := 226) X FcX9 k92 mk_X9_notsOpen q_1428 q_61 q_1426 (c_X9_notsOpen h95) rfl rfl (by rw [Y.2.1]; decide)  rfl (rest := []) rfl (Nat.le_of_ble_eq_true rfl) (by rw [Y.2.1]; exact ⟨Nat.le_of_ble_eq_true rfl, Nat.le_of_ble_eq_true rfl⟩) dX9_takesE_226 (st' := [.int r93]) rfl ?_
          refine g_istore_n (pc := 229) X (lv' := [(2, .int r93), (1, .int x87), (0, rf V v0), (3, .int v3)]) dX9_takesE_229 (by decide) rfl ?_
          refine g_aload_n (pc := 230) X 2 rfl dX9_takesE_230 ?_
          obtain ⟨k96, h⟩ := gd_i h
          obtain ⟨r97, w98, h99, h⟩ := bd2_i h
          refine g_callV (pc := 231) X FcX9 k96 mk_X9_go q_1393 q_53 q_1391 (c_X9_go h99) rfl rfl (by rw [Y.2.1]; decide)  rfl (rest := []) rfl (Nat.le_of_ble_eq_true rfl) (by rw [Y.2.1]; exact ⟨Nat.le_of_ble_eq_true rfl, Nat.le_of_ble_eq_true rfl⟩) dX9_takesE_231 (st' := []) rfl ?_
          refine g_goto (pc := 234) X (tgt := 28) dX9_takesE_234 rfl ?_
          refine g_sub (lv' := [(0, rf V v0), (1, .int x87), (2, .int r93), (3, .int v3)]) [2, 1, 0, 3] rfl ?_
          exact hk28 _ _ _ _ _ h
  · have h := br_n c h
    refine g_aload_n (pc := 43) X 0 rfl dX9_takesE_43 ?_
    obtain ⟨k100, h⟩ := gd_i h
    refine g_getI (pc := 44) X FcX9 k100 11 (by decide) rfl q_1031 dX9_takesE_44 ?_
    refine g_iconst (pc := 47) X (v := 3) dX9_takesE_47 rfl ?_
    refine g_icmp_ne (pc := 48) X (tgt := 97) dX9_takesE_48 rfl (fun c => ?_) (fun c => ?_)
    · have h := br_n c h
      refine g_sub (lv' := [(0, rf V v0), (1, .int v1), (3, .int v3)]) [0, 1, 3] rfl ?_
      exact bj_X9_takesE_97 Y hk28 h
    · have h := br_y c h
      refine g_aload_n (pc := 51) X 0 rfl dX9_takesE_51 ?_
      refine g_getI (pc := 52) X FcX9 k100 12 (by decide) rfl q_1032 dX9_takesE_52 ?_
      refine g_bipush (pc := 55) X (v := 33) dX9_takesE_55 rfl ?_
      refine g_icmp_ne (pc := 57) X (tgt := 97) dX9_takesE_57 rfl (fun c => ?_) (fun c => ?_)
      · have h := br_n c h
        refine g_sub (lv' := [(0, rf V v0), (1, .int v1), (3, .int v3)]) [0, 1, 3] rfl ?_
        exact bj_X9_takesE_97 Y hk28 h
      · have h := br_y c h
        refine g_iload_n (pc := 60) X 2 rfl dX9_takesE_60 ?_
        refine g_bipush (pc := 61) X (v := 8) dX9_takesE_61 rfl ?_
        refine g_icmp_ge (pc := 63) X (tgt := 97) dX9_takesE_63 rfl (fun c => ?_) (fun c => ?_)
        · have h := br_y c h
          refine g_sub (lv' := [(0, rf V v0), (1, .int v1), (3, .int v3)]) [0, 1, 3] rfl ?_
          exact bj_X9_takesE_97 Y hk28 h
        · have h := br_n c h
          refine g_aload_n (pc := 66) X 0 rfl dX9_takesE_66 ?_
          obtain ⟨a127, e128, h⟩ := bd1_i h
          refine g_getR (pc := 67) X FcX9 k100 20 e128 (by decide) rfl q_1040 dX9_takesE_67 ?_
          refine g_aload_n (pc := 70) X 0 rfl dX9_takesE_70 ?_
          refine g_getI (pc := 71) X FcX9 k100 21 (by decide) rfl q_1041 dX9_takesE_71 ?_
          refine g_bipush (pc := 74) X (v := (-10)) dX9_takesE_74 rfl ?_
          obtain ⟨k129, h⟩ := gd_i h
          refine g_iast (pc := 76) X k129 dX9_takesE_76 ?_
          obtain ⟨w130, e131, h⟩ := lb_i h
          refine g_w e131 ?_
          refine g_aload_n (pc := 77) X 0 rfl dX9_takesE_77 ?_
          refine g_dup (pc := 78) X rfl dX9_takesE_78 ?_
          refine g_getI (pc := 79) X FcX9 (kd_I e131 k100) 21 (by decide) rfl q_1041 dX9_takesE_79 ?_
          refine g_iconst (pc := 82) X (v := 1) dX9_takesE_82 rfl ?_
          refine g_iadd (pc := 83) X dX9_takesE_83 ?_
          refine g_putI (pc := 84) X FcX9 (kd_I e131 k100) 21 (by decide) rfl q_1041 rfl rfl rfl dX9_takesE_84 ?_
          obtain ⟨w132, e133, h⟩ := lb_i h
          refine g_w e133 ?_
          obtain ⟨x134, e135, h⟩ := lb_i h
          refine g_iinc (pc := 87) X 2 rfl dX9_takesE_87 (v := x134) e135.symm (by decide) (lv' := [(2, .int x134), (0, rf V v0), (1, .int v1), (3, .int v3)]) rfl ?_
          refine g_aload_n (pc := 90) X 1 rfl dX9_takesE_90 ?_
          obtain ⟨r136, w137, h138, h⟩ := bd2_i h
          refine g_callV (pc := 91) X FcX9 (kd_I e133 (kd_I e131 k100)) mk_X9_go q_1393 q_53 q_1391 (c_X9_go h138) rfl rfl (by rw [Y.2.1]; decide)  rfl (rest := []) rfl (Nat.le_of_ble_eq_true rfl) (by rw [Y.2.1]; exact ⟨Nat.le_of_ble_eq_true rfl, Nat.le_of_ble_eq_true rfl⟩) dX9_takesE_91 (st' := []) rfl ?_
          refine g_goto (pc := 94) X (tgt := 172) dX9_takesE_94 rfl ?_
          refine g_sub (lv' := [(0, rf V v0), (1, .int v1), (3, .int v3)]) [1, 2, 3] rfl ?_
          exact bj_X9_takesE_172 Y hk28 h

def L_X9_takesE_28  (n : Nat) (v0 : Nat) (v1 : Int32) (v2 : Int32) (v3 : Int32) (w : Wd) : Option (Int32 × Wd) := match n with
  | 0 => none
  | n + 1 => (if v3 = 0 then
 (if wK w v0 = 9 then
 (if (wI w v0 11) = 0 then
 (bd2 (f_X9_settle v0 0 w) fun r140 w141 =>
 some ((if v1 = 0 then 1 else 0 : Int32), w141))
 else
 j_X9_takesE_39 (L_X9_takesE_28 n) v0 v1 v2 v3 w)
 else none)
 else
 j_X9_takesE_39 (L_X9_takesE_28 n) v0 v1 v2 v3 w)
theorem bL_X9_takesE_28 {t : Ct} {V : Vt} {r : Int32} {w' : Wd} (Y : Hd_ t V cX9_takesE 5 RX9 { frames := 3, cells := 0, slots := 0, locals := 63 } (some .boolean) "takesE") : ∀ {n : Nat} {v0 : Nat} {v1 : Int32} {v2 : Int32} {v3 : Int32} {w : Wd}, L_X9_takesE_28  n v0 v1 v2 v3 w = some (r, w') → Gd t V 5 0 0 (Qe t V (some (.int r)) w' 0 0) 28 [(0, rf V v0), (1, .int v1), (2, .int v2), (3, .int v3)] [] w := by
  have X := Y.1
  intro n
  induction n with
  | zero => intro v0 v1 v2 v3 w h; cases h
  | succ n ih0 =>
    have ih : ∀ (v0 : Nat) (v1 : Int32) (v2 : Int32) (v3 : Int32) (w : Wd), L_X9_takesE_28  n v0 v1 v2 v3 w = some (r, w') → Gd t V 5 0 0 (Qe t V (some (.int r)) w' 0 0) 28 [(0, rf V v0), (1, .int v1), (2, .int v2), (3, .int v3)] [] w := fun v0 v1 v2 v3 w h => ih0 h
    clear ih0
    intro v0 v1 v2 v3 w h
    unfold L_X9_takesE_28 at h
    refine g_iload_n (pc := 28) X 3 rfl dX9_takesE_28 ?_
    refine g_if_ne (pc := 29) X (tgt := 39) dX9_takesE_29 rfl (fun c => ?_) (fun c => ?_)
    · have h := br_n c h
      refine g_sub (lv' := [(0, rf V v0), (1, .int v1), (2, .int v2), (3, .int v3)]) [0, 1, 2, 3] rfl ?_
      exact bj_X9_takesE_39 Y (ih) h
    · have h := br_y c h
      refine g_aload_n (pc := 32) X 0 rfl dX9_takesE_32 ?_
      obtain ⟨k139, h⟩ := gd_i h
      refine g_getI (pc := 33) X FcX9 k139 11 (by decide) rfl q_1031 dX9_takesE_33 ?_
      refine g_if_eq (pc := 36) X (tgt := 345) dX9_takesE_36 rfl (fun c => ?_) (fun c => ?_)
      · have h := br_y c h
        refine g_aload_n (pc := 345) X 0 rfl dX9_takesE_345 ?_
        refine g_iconst (pc := 346) X (v := 0) dX9_takesE_346 rfl ?_
        obtain ⟨r140, w141, h142, h⟩ := bd2_i h
        refine g_callV (pc := 347) X FcX9 k139 mk_X9_settle q_1421 q_60 q_1419 (c_X9_settle h142) rfl rfl (by rw [Y.2.1]; decide)  rfl (rest := []) rfl (Nat.le_of_ble_eq_true rfl) (by rw [Y.2.1]; exact ⟨Nat.le_of_ble_eq_true rfl, Nat.le_of_ble_eq_true rfl⟩) dX9_takesE_347 (st' := []) rfl ?_
        refine g_iload_n (pc := 350) X 1 rfl dX9_takesE_350 ?_
        have kJ : Gd t V 5 0 0 (Qe t V (some (.int r)) w' 0 0) 359 [(0, rf V v0), (1, .int v1), (2, .int v2), (3, .int v3)] [.int (if v1 = 0 then 1 else 0 : Int32)] w141 := by
          obtain ⟨e1, e2⟩ := rt_i h
          exact g_zret (pc := 359) X Y.2.2.1 (bz_ite (Or.inr rfl) (Or.inl rfl)) (Nat.le_of_ble_eq_true rfl) (Nat.le_of_ble_eq_true rfl) e1 e2 dX9_takesE_359
        refine g_if_ne (pc := 351) X (tgt := 358) dX9_takesE_351 rfl (fun c0 => ?_) (fun c0 => ?_)
        · refine g_iconst (pc := 358) X (v := 0) dX9_takesE_358 rfl ?_
          exact g_top (by rw [if_neg c0]) kJ
        · refine g_iconst (pc := 354) X (v := 1) dX9_takesE_354 rfl ?_
          refine g_goto (pc := 355) X (tgt := 359) dX9_takesE_355 rfl ?_
          exact g_top (by rw [if_pos c0]) kJ
      · have h := br_n c h
        refine g_sub (lv' := [(0, rf V v0), (1, .int v1), (2, .int v2), (3, .int v3)]) [0, 1, 2, 3] rfl ?_
        exact bj_X9_takesE_39 Y (ih) h

def f_X9_takesE (v0 : Nat) (w : Wd) : Option (Int32 × Wd) := (if wK w v0 = 9 then
 (lb_ (sI w v0 18 0) fun w2 =>
 (lb_ (sI w2 v0 19 0) fun w4 =>
 (lb_ (sI w4 v0 21 0) fun w6 =>
 (bd1 (wR w6 v0 22) fun a8 =>
 (if aK 12 w6 a8 0 = true then
 (lb_ (sI w6 a8 (nx 0) 0) fun w11 =>
 L_X9_takesE_28 FU v0 0 0 1 w11)
 else none)))))
 else none)
theorem c_X9_takesE {l : Launch} {V : Vt} {v0 : Nat} {w w' : Wd} {r : Int32} (h : f_X9_takesE v0 w = some (r, w')) : MetW l V yX9_takesE cX9_takesE 5 (some .boolean) { frames := 3, cells := 0, slots := 0, locals := 63 } w [rf V v0] (some (.int r)) w' 0 0 := by
  refine g_start (by decide) (Nat.le_of_ble_eq_true rfl) ?_
  intro t _ hrm X hret hnm
  have Y : Hd_ t V cX9_takesE 5 RX9 { frames := 3, cells := 0, slots := 0, locals := 63 } (some .boolean) "takesE" := ⟨X, hrm, hret, hnm⟩
  refine g_as (lv' := [(0, rf V v0)]) (st' := []) rfl rfl ?_
  unfold f_X9_takesE at h
  refine g_iconst (pc := 0) X (v := 0) dX9_takesE_0 rfl ?_
  refine g_istore_n (pc := 1) X (lv' := [(1, .int 0), (0, rf V v0)]) dX9_takesE_1 (by decide) rfl ?_
  refine g_iconst (pc := 2) X (v := 0) dX9_takesE_2 rfl ?_
  refine g_istore_n (pc := 3) X (lv' := [(2, .int 0), (1, .int 0), (0, rf V v0)]) dX9_takesE_3 (by decide) rfl ?_
  refine g_iconst (pc := 4) X (v := 1) dX9_takesE_4 rfl ?_
  refine g_istore_n (pc := 5) X (lv' := [(3, .int 1), (2, .int 0), (1, .int 0), (0, rf V v0)]) dX9_takesE_5 (by decide) rfl ?_
  refine g_aload_n (pc := 6) X 3 rfl dX9_takesE_6 ?_
  refine g_iconst (pc := 7) X (v := 0) dX9_takesE_7 rfl ?_
  obtain ⟨k1, h⟩ := gd_i h
  refine g_putI (pc := 8) X FcX9 k1 18 (by decide) rfl q_1038 rfl rfl rfl dX9_takesE_8 ?_
  obtain ⟨w2, e3, h⟩ := lb_i h
  refine g_w e3 ?_
  refine g_aload_n (pc := 11) X 3 rfl dX9_takesE_11 ?_
  refine g_iconst (pc := 12) X (v := 0) dX9_takesE_12 rfl ?_
  refine g_putI (pc := 13) X FcX9 (kd_I e3 k1) 19 (by decide) rfl q_1039 rfl rfl rfl dX9_takesE_13 ?_
  obtain ⟨w4, e5, h⟩ := lb_i h
  refine g_w e5 ?_
  refine g_aload_n (pc := 16) X 3 rfl dX9_takesE_16 ?_
  refine g_iconst (pc := 17) X (v := 0) dX9_takesE_17 rfl ?_
  refine g_putI (pc := 18) X FcX9 (kd_I e5 (kd_I e3 k1)) 21 (by decide) rfl q_1041 rfl rfl rfl dX9_takesE_18 ?_
  obtain ⟨w6, e7, h⟩ := lb_i h
  refine g_w e7 ?_
  refine g_aload_n (pc := 21) X 3 rfl dX9_takesE_21 ?_
  obtain ⟨a8, e9, h⟩ := bd1_i h
  refine g_getR (pc := 22) X FcX9 (kd_I e7 (kd_I e5 (kd_I e3 k1))) 22 e9 (by decide) rfl q_1042 dX9_takesE_22 ?_
  refine g_iconst (pc := 25) X (v := 0) dX9_takesE_25 rfl ?_
  refine g_iconst (pc := 26) X (v := 0) dX9_takesE_26 rfl ?_
  obtain ⟨k10, h⟩ := gd_i h
  refine g_bast (pc := 27) X k10 (bz_n (Or.inl rfl)) dX9_takesE_27 ?_
  obtain ⟨w11, e12, h⟩ := lb_i h
  refine g_w e12 ?_
  refine g_sub (lv' := [(0, rf V v0), (1, .int 0), (2, .int 0), (3, .int 1)]) [3, 2, 1, 0] rfl ?_
  exact bL_X9_takesE_28 Y  h

def L_X9_text_117  (n : Nat) (v0 : Nat) (v2 : Int32) (v3 : Int32) (w : Wd) : Option (Int32 × Wd) := match n with
  | 0 => none
  | n + 1 => (if wK w v0 = 9 then
 (if (wI w v0 18) ≤ v3 then
 (bd1 (wR w v0 0) fun a35 =>
 (if aK 11 w a35 11 = true then
 (if aK 11 w a35 11 = true then
 (lb_ (sI w a35 (nx 11) ((wI w a35 (nx 11)) + 1)) fun w39 =>
 some (v2, w39))
 else none)
 else none))
 else
 (bd1 (wR w v0 0) fun a41 =>
 (bd1 (wR w v0 17) fun a43 =>
 (if aK 11 w a43 v3 = true then
 (if aK 11 w a41 ((100 + (96 * v2)) + v3) = true then
 (lb_ (sI w a41 (nx ((100 + (96 * v2)) + v3)) (wI w a43 (nx v3))) fun w47 =>
 (lb_ (v3 + 1) fun x49 =>
 L_X9_text_117 n v0 v2 x49 w47))
 else none)
 else none))))
 else none)
theorem bL_X9_text_117 {t : Ct} {V : Vt} {r : Int32} {w' : Wd} (Y : Hd_ t V cX9_text 4 RX9 { frames := 4, cells := 0, slots := 0, locals := 87 } (some .int) "text") : ∀ {n : Nat} {v0 : Nat} {v2 : Int32} {v3 : Int32} {w : Wd}, L_X9_text_117  n v0 v2 v3 w = some (r, w') → Gd t V 4 0 0 (Qe t V (some (.int r)) w' 0 0) 117 [(0, rf V v0), (2, .int v2), (3, .int v3)] [] w := by
  have X := Y.1
  intro n
  induction n with
  | zero => intro v0 v2 v3 w h; cases h
  | succ n ih0 =>
    have ih : ∀ (v0 : Nat) (v2 : Int32) (v3 : Int32) (w : Wd), L_X9_text_117  n v0 v2 v3 w = some (r, w') → Gd t V 4 0 0 (Qe t V (some (.int r)) w' 0 0) 117 [(0, rf V v0), (2, .int v2), (3, .int v3)] [] w := fun v0 v2 v3 w h => ih0 h
    clear ih0
    intro v0 v2 v3 w h
    unfold L_X9_text_117 at h
    refine g_iload_n (pc := 117) X 2 rfl dX9_text_117 ?_
    refine g_aload_n (pc := 118) X 0 rfl dX9_text_118 ?_
    obtain ⟨k34, h⟩ := gd_i h
    refine g_getI (pc := 119) X FcX9 k34 18 (by decide) rfl q_1038 dX9_text_119 ?_
    refine g_icmp_ge (pc := 122) X (tgt := 151) dX9_text_122 rfl (fun c => ?_) (fun c => ?_)
    · have h := br_y c h
      refine g_aload_n (pc := 151) X 0 rfl dX9_text_151 ?_
      obtain ⟨a35, e36, h⟩ := bd1_i h
      refine g_getR (pc := 152) X FcX9 k34 0 e36 (by decide) rfl q_1020 dX9_text_152 ?_
      refine g_bipush (pc := 155) X (v := 11) dX9_text_155 rfl ?_
      refine g_dup2 (pc := 157) X rfl rfl dX9_text_157 ?_
      obtain ⟨k37, h⟩ := gd_i h
      refine g_iald (pc := 158) X k37 dX9_text_158 ?_
      refine g_iconst (pc := 159) X (v := 1) dX9_text_159 rfl ?_
      refine g_iadd (pc := 160) X dX9_text_160 ?_
      obtain ⟨k38, h⟩ := gd_i h
      refine g_iast (pc := 161) X k38 dX9_text_161 ?_
      obtain ⟨w39, e40, h⟩ := lb_i h
      refine g_w e40 ?_
      refine g_iload_n (pc := 162) X 1 rfl dX9_text_162 ?_
      obtain ⟨e1, e2⟩ := rt_i h
      exact g_iret (pc := 163) X Y.2.2.1 (Nat.le_of_ble_eq_true rfl) (Nat.le_of_ble_eq_true rfl) e1 e2 dX9_text_163
    · have h := br_n c h
      refine g_aload_n (pc := 125) X 0 rfl dX9_text_125 ?_
      obtain ⟨a41, e42, h⟩ := bd1_i h
      refine g_getR (pc := 126) X FcX9 k34 0 e42 (by decide) rfl q_1020 dX9_text_126 ?_
      refine g_bipush (pc := 129) X (v := 100) dX9_text_129 rfl ?_
      refine g_bipush (pc := 131) X (v := 96) dX9_text_131 rfl ?_
      refine g_iload_n (pc := 133) X 1 rfl dX9_text_133 ?_
      refine g_imul (pc := 134) X dX9_text_134 ?_
      refine g_iadd (pc := 135) X dX9_text_135 ?_
      refine g_iload_n (pc := 136) X 2 rfl dX9_text_136 ?_
      refine g_iadd (pc := 137) X dX9_text_137 ?_
      refine g_aload_n (pc := 138) X 0 rfl dX9_text_138 ?_
      obtain ⟨a43, e44, h⟩ := bd1_i h
      refine g_getR (pc := 139) X FcX9 k34 17 e44 (by decide) rfl q_1037 dX9_text_139 ?_
      refine g_iload_n (pc := 142) X 2 rfl dX9_text_142 ?_
      obtain ⟨k45, h⟩ := gd_i h
      refine g_iald (pc := 143) X k45 dX9_text_143 ?_
      obtain ⟨k46, h⟩ := gd_i h
      refine g_iast (pc := 144) X k46 dX9_text_144 ?_
      obtain ⟨w47, e48, h⟩ := lb_i h
      refine g_w e48 ?_
      obtain ⟨x49, e50, h⟩ := lb_i h
      refine g_iinc (pc := 145) X 2 rfl dX9_text_145 (v := x49) e50.symm (by decide) (lv' := [(3, .int x49), (0, rf V v0), (2, .int v2)]) rfl ?_
      refine g_goto (pc := 148) X (tgt := 117) dX9_text_148 rfl ?_
      refine g_sub (lv' := [(0, rf V v0), (2, .int v2), (3, .int x49)]) [1, 2, 0] rfl ?_
      exact ih _ _ _ _ h

def j_X9_text_33  (v0 : Nat) (s0 : Int32) (w : Wd) : Option (Int32 × Wd) := (if wK w v0 = 9 then
 (lb_ (sI w v0 8 0) fun w14 =>
 (if s0 = 0 then
 some ((-100) - (wI w14 v0 10), w14)
 else
 (bd1 (wR w14 v0 0) fun a16 =>
 (if aK 11 w14 a16 11 = true then
 (if (wI w14 a16 (nx 11)) = 14 then
 some ((-1000000003), w14)
 else
 (bd1 (wR w14 v0 0) fun a19 =>
 (if aK 11 w14 a19 11 = true then
 (lb_ (wI w14 a19 (nx 11)) fun x22 =>
 (bd1 (wR w14 v0 0) fun a24 =>
 (if aK 11 w14 a24 (72 + (2 * x22)) = true then
 (lb_ (sI w14 a24 (nx (72 + (2 * x22))) ((1000 * (wI w14 v0 14)) + (wI w14 v0 18))) fun w27 =>
 (bd1 (wR w27 v0 0) fun a29 =>
 (if aK 11 w27 a29 ((72 + (2 * x22)) + 1) = true then
 (lb_ (sI w27 a29 (nx ((72 + (2 * x22)) + 1)) (wI w27 v0 19)) fun w32 =>
 L_X9_text_117 FU v0 x22 0 w32)
 else none)))
 else none)))
 else none)))
 else none))))
 else none)
theorem bj_X9_text_33 {t : Ct} {V : Vt} {r : Int32} {w' : Wd} (Y : Hd_ t V cX9_text 4 RX9 { frames := 4, cells := 0, slots := 0, locals := 87 } (some .int) "text") {v0 : Nat} {s0 : Int32} {w : Wd} (h : j_X9_text_33  v0 s0 w = some (r, w')) : Gd t V 4 0 0 (Qe t V (some (.int r)) w' 0 0) 33 [(0, rf V v0)] [.int s0] w := by
  have X := Y.1
  unfold j_X9_text_33 at h
  refine g_istore_n (pc := 33) X (lv' := [(1, .int s0), (0, rf V v0)]) dX9_text_33 (by decide) rfl ?_
  refine g_aload_n (pc := 34) X 1 rfl dX9_text_34 ?_
  refine g_iconst (pc := 35) X (v := 0) dX9_text_35 rfl ?_
  obtain ⟨k13, h⟩ := gd_i h
  refine g_putI (pc := 36) X FcX9 k13 8 (by decide) rfl q_1028 rfl rfl rfl dX9_text_36 ?_
  obtain ⟨w14, e15, h⟩ := lb_i h
  refine g_w e15 ?_
  refine g_iload_n (pc := 39) X 0 rfl dX9_text_39 ?_
  refine g_if_ne (pc := 40) X (tgt := 51) dX9_text_40 rfl (fun c => ?_) (fun c => ?_)
  · have h := br_n c h
    refine g_aload_n (pc := 51) X 1 rfl dX9_text_51 ?_
    obtain ⟨a16, e17, h⟩ := bd1_i h
    refine g_getR (pc := 52) X FcX9 (kd_I e15 k13) 0 e17 (by decide) rfl q_1020 dX9_text_52 ?_
    refine g_bipush (pc := 55) X (v := 11) dX9_text_55 rfl ?_
    obtain ⟨k18, h⟩ := gd_i h
    refine g_iald (pc := 57) X k18 dX9_text_57 ?_
    refine g_bipush (pc := 58) X (v := 14) dX9_text_58 rfl ?_
    refine g_icmp_ne (pc := 60) X (tgt := 66) dX9_text_60 rfl (fun c => ?_) (fun c => ?_)
    · have h := br_n c h
      refine g_aload_n (pc := 66) X 1 rfl dX9_text_66 ?_
      obtain ⟨a19, e20, h⟩ := bd1_i h
      refine g_getR (pc := 67) X FcX9 (kd_I e15 k13) 0 e20 (by decide) rfl q_1020 dX9_text_67 ?_
      refine g_bipush (pc := 70) X (v := 11) dX9_text_70 rfl ?_
      obtain ⟨k21, h⟩ := gd_i h
      refine g_iald (pc := 72) X k21 dX9_text_72 ?_
      obtain ⟨x22, e23, h⟩ := lb_i h
      refine g_top e23 ?_
      refine g_istore_n (pc := 73) X (lv' := [(2, .int x22), (1, .int s0), (0, rf V v0)]) dX9_text_73 (by decide) rfl ?_
      refine g_aload_n (pc := 74) X 2 rfl dX9_text_74 ?_
      obtain ⟨a24, e25, h⟩ := bd1_i h
      refine g_getR (pc := 75) X FcX9 (kd_I e15 k13) 0 e25 (by decide) rfl q_1020 dX9_text_75 ?_
      refine g_bipush (pc := 78) X (v := 72) dX9_text_78 rfl ?_
      refine g_iconst (pc := 80) X (v := 2) dX9_text_80 rfl ?_
      refine g_iload_n (pc := 81) X 0 rfl dX9_text_81 ?_
      refine g_imul (pc := 82) X dX9_text_82 ?_
      refine g_iadd (pc := 83) X dX9_text_83 ?_
      refine g_sipush (pc := 84) X (v := 1000) dX9_text_84 rfl ?_
      refine g_aload_n (pc := 87) X 2 rfl dX9_text_87 ?_
      refine g_getI (pc := 88) X FcX9 (kd_I e15 k13) 14 (by decide) rfl q_1034 dX9_text_88 ?_
      refine g_imul (pc := 91) X dX9_text_91 ?_
      refine g_aload_n (pc := 92) X 2 rfl dX9_text_92 ?_
      refine g_getI (pc := 93) X FcX9 (kd_I e15 k13) 18 (by decide) rfl q_1038 dX9_text_93 ?_
      refine g_iadd (pc := 96) X dX9_text_96 ?_
      obtain ⟨k26, h⟩ := gd_i h
      refine g_iast (pc := 97) X k26 dX9_text_97 ?_
      obtain ⟨w27, e28, h⟩ := lb_i h
      refine g_w e28 ?_
      refine g_aload_n (pc := 98) X 2 rfl dX9_text_98 ?_
      obtain ⟨a29, e30, h⟩ := bd1_i h
      refine g_getR (pc := 99) X FcX9 (kd_I e28 (kd_I e15 k13)) 0 e30 (by decide) rfl q_1020 dX9_text_99 ?_
      refine g_bipush (pc := 102) X (v := 72) dX9_text_102 rfl ?_
      refine g_iconst (pc := 104) X (v := 2) dX9_text_104 rfl ?_
      refine g_iload_n (pc := 105) X 0 rfl dX9_text_105 ?_
      refine g_imul (pc := 106) X dX9_text_106 ?_
      refine g_iadd (pc := 107) X dX9_text_107 ?_
      refine g_iconst (pc := 108) X (v := 1) dX9_text_108 rfl ?_
      refine g_iadd (pc := 109) X dX9_text_109 ?_
      refine g_aload_n (pc := 110) X 2 rfl dX9_text_110 ?_
      refine g_getI (pc := 111) X FcX9 (kd_I e28 (kd_I e15 k13)) 19 (by decide) rfl q_1039 dX9_text_111 ?_
      obtain ⟨k31, h⟩ := gd_i h
      refine g_iast (pc := 114) X k31 dX9_text_114 ?_
      obtain ⟨w32, e33, h⟩ := lb_i h
      refine g_w e33 ?_
      refine g_iconst (pc := 115) X (v := 0) dX9_text_115 rfl ?_
      refine g_istore_n (pc := 116) X (lv' := [(3, .int 0), (2, .int x22), (1, .int s0), (0, rf V v0)]) dX9_text_116 (by decide) rfl ?_
      refine g_sub (lv' := [(0, rf V v0), (2, .int x22), (3, .int 0)]) [3, 1, 0] rfl ?_
      exact bL_X9_text_117 Y  h
    · have h := br_y c h
      refine g_ldc (pc := 63) X q_1152 dX9_text_63 ?_
      obtain ⟨e1, e2⟩ := rt_i h
      exact g_iret (pc := 65) X Y.2.2.1 (Nat.le_of_ble_eq_true rfl) (Nat.le_of_ble_eq_true rfl) e1 e2 dX9_text_65
  · have h := br_y c h
    refine g_bipush (pc := 43) X (v := (-100)) dX9_text_43 rfl ?_
    refine g_aload_n (pc := 45) X 1 rfl dX9_text_45 ?_
    refine g_getI (pc := 46) X FcX9 (kd_I e15 k13) 10 (by decide) rfl q_1030 dX9_text_46 ?_
    refine g_isub (pc := 49) X dX9_text_49 ?_
    obtain ⟨e1, e2⟩ := rt_i h
    exact g_iret (pc := 50) X Y.2.2.1 (Nat.le_of_ble_eq_true rfl) (Nat.le_of_ble_eq_true rfl) e1 e2 dX9_text_50

def j_X9_text_32  (v0 : Nat) (w : Wd) : Option (Int32 × Wd) := j_X9_text_33 v0 0 w
theorem bj_X9_text_32 {t : Ct} {V : Vt} {r : Int32} {w' : Wd} (Y : Hd_ t V cX9_text 4 RX9 { frames := 4, cells := 0, slots := 0, locals := 87 } (some .int) "text") {v0 : Nat} {w : Wd} (h : j_X9_text_32  v0 w = some (r, w')) : Gd t V 4 0 0 (Qe t V (some (.int r)) w' 0 0) 32 [(0, rf V v0)] [] w := by
  have X := Y.1
  unfold j_X9_text_32 at h
  refine g_iconst (pc := 32) X (v := 0) dX9_text_32 rfl ?_
  refine g_sub (lv' := [(0, rf V v0)]) [0] rfl ?_
  exact bj_X9_text_33 Y  h

def f_X9_text (v0 : Nat) (w : Wd) : Option (Int32 × Wd) := (if wK w v0 = 9 then
 (lb_ (sI w v0 9 0) fun w2 =>
 (lb_ (sI w2 v0 13 (-1)) fun w4 =>
 (bd2 (f_X9_go v0 w4) fun r6 w7 =>
 (if wK w7 v0 = 9 then
 (bd2 (f_X9_takesKey v0 w7) fun r10 w11 =>
 (if r10 = 0 then
 j_X9_text_32 v0 w11
 else
 (if wK w11 v0 = 9 then
 (bd2 (f_X9_takesE v0 w11) fun r52 w53 =>
 (lb_ (if r52 = 0 then 0 else 1 : Int32) fun x55 =>
 (if wK w53 v0 = 9 then
 (lb_ (sI w53 v0 8 0) fun w58 =>
 (if x55 = 0 then
 some ((-100) - (wI w58 v0 10), w58)
 else
 (bd1 (wR w58 v0 0) fun a60 =>
 (if aK 11 w58 a60 11 = true then
 (if (wI w58 a60 (nx 11)) = 14 then
 some ((-1000000003), w58)
 else
 (bd1 (wR w58 v0 0) fun a63 =>
 (if aK 11 w58 a63 11 = true then
 (lb_ (wI w58 a63 (nx 11)) fun x66 =>
 (bd1 (wR w58 v0 0) fun a68 =>
 (if aK 11 w58 a68 (72 + (2 * x66)) = true then
 (lb_ (sI w58 a68 (nx (72 + (2 * x66))) ((1000 * (wI w58 v0 14)) + (wI w58 v0 18))) fun w71 =>
 (bd1 (wR w71 v0 0) fun a73 =>
 (if aK 11 w71 a73 ((72 + (2 * x66)) + 1) = true then
 (lb_ (sI w71 a73 (nx ((72 + (2 * x66)) + 1)) (wI w71 v0 19)) fun w76 =>
 L_X9_text_117 FU v0 x66 0 w76)
 else none)))
 else none)))
 else none)))
 else none))))
 else none)))
 else none)))
 else none))))
 else none)
theorem c_X9_text {l : Launch} {V : Vt} {v0 : Nat} {w w' : Wd} {r : Int32} (h : f_X9_text v0 w = some (r, w')) : MetW l V yX9_text cX9_text 4 (some .int) { frames := 4, cells := 0, slots := 0, locals := 87 } w [rf V v0] (some (.int r)) w' 0 0 := by
  refine g_start (by decide) (Nat.le_of_ble_eq_true rfl) ?_
  intro t _ hrm X hret hnm
  have Y : Hd_ t V cX9_text 4 RX9 { frames := 4, cells := 0, slots := 0, locals := 87 } (some .int) "text" := ⟨X, hrm, hret, hnm⟩
  refine g_as (lv' := [(0, rf V v0)]) (st' := []) rfl rfl ?_
  unfold f_X9_text at h
  refine g_aload_n (pc := 0) X 0 rfl dX9_text_0 ?_
  refine g_iconst (pc := 1) X (v := 0) dX9_text_1 rfl ?_
  obtain ⟨k1, h⟩ := gd_i h
  refine g_putI (pc := 2) X FcX9 k1 9 (by decide) rfl q_1029 rfl rfl rfl dX9_text_2 ?_
  obtain ⟨w2, e3, h⟩ := lb_i h
  refine g_w e3 ?_
  refine g_aload_n (pc := 5) X 0 rfl dX9_text_5 ?_
  refine g_iconst (pc := 6) X (v := (-1)) dX9_text_6 rfl ?_
  refine g_putI (pc := 7) X FcX9 (kd_I e3 k1) 13 (by decide) rfl q_1033 rfl rfl rfl dX9_text_7 ?_
  obtain ⟨w4, e5, h⟩ := lb_i h
  refine g_w e5 ?_
  refine g_aload_n (pc := 10) X 0 rfl dX9_text_10 ?_
  obtain ⟨r6, w7, h8, h⟩ := bd2_i h
  refine g_callV (pc := 11) X FcX9 (kd_I e5 (kd_I e3 k1)) mk_X9_go q_1393 q_53 q_1391 (c_X9_go h8) rfl rfl (by rw [Y.2.1]; decide)  rfl (rest := []) rfl (Nat.le_of_ble_eq_true rfl) (by rw [Y.2.1]; exact ⟨Nat.le_of_ble_eq_true rfl, Nat.le_of_ble_eq_true rfl⟩) dX9_text_11 (st' := []) rfl ?_
  refine g_aload_n (pc := 14) X 0 rfl dX9_text_14 ?_
  obtain ⟨k9, h⟩ := gd_i h
  obtain ⟨r10, w11, h12, h⟩ := bd2_i h
  refine g_callV (pc := 15) X FcX9 k9 mk_X9_takesKey q_1405 q_56 q_1403 (c_X9_takesKey h12) rfl rfl (by rw [Y.2.1]; decide)  rfl (rest := []) rfl (Nat.le_of_ble_eq_true rfl) (by rw [Y.2.1]; exact ⟨Nat.le_of_ble_eq_true rfl, Nat.le_of_ble_eq_true rfl⟩) dX9_text_15 (st' := [.int r10]) rfl ?_
  refine g_if_eq (pc := 18) X (tgt := 32) dX9_text_18 rfl (fun c => ?_) (fun c => ?_)
  · have h := br_y c h
    refine g_sub (lv' := [(0, rf V v0)]) [0] rfl ?_
    exact bj_X9_text_32 Y  h
  · have h := br_n c h
    refine g_aload_n (pc := 21) X 0 rfl dX9_text_21 ?_
    obtain ⟨k51, h⟩ := gd_i h
    obtain ⟨r52, w53, h54, h⟩ := bd2_i h
    refine g_callV (pc := 22) X FcX9 k51 mk_X9_takesE q_1409 q_57 q_1407 (c_X9_takesE h54) rfl rfl (by rw [Y.2.1]; decide)  rfl (rest := []) rfl (Nat.le_of_ble_eq_true rfl) (by rw [Y.2.1]; exact ⟨Nat.le_of_ble_eq_true rfl, Nat.le_of_ble_eq_true rfl⟩) dX9_text_22 (st' := [.int r52]) rfl ?_
    have kJ : Gd t V 4 0 0 (Qe t V (some (.int r)) w' 0 0) 33 [(0, rf V v0)] [.int (if r52 = 0 then 0 else 1 : Int32)] w53 := by
      obtain ⟨x55, e56, h⟩ := lb_i h
      refine g_top e56 ?_
      refine g_istore_n (pc := 33) X (lv' := [(1, .int x55), (0, rf V v0)]) dX9_text_33 (by decide) rfl ?_
      refine g_aload_n (pc := 34) X 1 rfl dX9_text_34 ?_
      refine g_iconst (pc := 35) X (v := 0) dX9_text_35 rfl ?_
      obtain ⟨k57, h⟩ := gd_i h
      refine g_putI (pc := 36) X FcX9 k57 8 (by decide) rfl q_1028 rfl rfl rfl dX9_text_36 ?_
      obtain ⟨w58, e59, h⟩ := lb_i h
      refine g_w e59 ?_
      refine g_iload_n (pc := 39) X 0 rfl dX9_text_39 ?_
      refine g_if_ne (pc := 40) X (tgt := 51) dX9_text_40 rfl (fun c => ?_) (fun c => ?_)
      · have h := br_n c h
        refine g_aload_n (pc := 51) X 1 rfl dX9_text_51 ?_
        obtain ⟨a60, e61, h⟩ := bd1_i h
        refine g_getR (pc := 52) X FcX9 (kd_I e59 k57) 0 e61 (by decide) rfl q_1020 dX9_text_52 ?_
        refine g_bipush (pc := 55) X (v := 11) dX9_text_55 rfl ?_
        obtain ⟨k62, h⟩ := gd_i h
        refine g_iald (pc := 57) X k62 dX9_text_57 ?_
        refine g_bipush (pc := 58) X (v := 14) dX9_text_58 rfl ?_
        refine g_icmp_ne (pc := 60) X (tgt := 66) dX9_text_60 rfl (fun c => ?_) (fun c => ?_)
        · have h := br_n c h
          refine g_aload_n (pc := 66) X 1 rfl dX9_text_66 ?_
          obtain ⟨a63, e64, h⟩ := bd1_i h
          refine g_getR (pc := 67) X FcX9 (kd_I e59 k57) 0 e64 (by decide) rfl q_1020 dX9_text_67 ?_
          refine g_bipush (pc := 70) X (v := 11) dX9_text_70 rfl ?_
          obtain ⟨k65, h⟩ := gd_i h
          refine g_iald (pc := 72) X k65 dX9_text_72 ?_
          obtain ⟨x66, e67, h⟩ := lb_i h
          refine g_top e67 ?_
          refine g_istore_n (pc := 73) X (lv' := [(2, .int x66), (1, .int x55), (0, rf V v0)]) dX9_text_73 (by decide) rfl ?_
          refine g_aload_n (pc := 74) X 2 rfl dX9_text_74 ?_
          obtain ⟨a68, e69, h⟩ := bd1_i h
          refine g_getR (pc := 75) X FcX9 (kd_I e59 k57) 0 e69 (by decide) rfl q_1020 dX9_text_75 ?_
          refine g_bipush (pc := 78) X (v := 72) dX9_text_78 rfl ?_
          refine g_iconst (pc := 80) X (v := 2) dX9_text_80 rfl ?_
          refine g_iload_n (pc := 81) X 0 rfl dX9_text_81 ?_
          refine g_imul (pc := 82) X dX9_text_82 ?_
          refine g_iadd (pc := 83) X dX9_text_83 ?_
          refine g_sipush (pc := 84) X (v := 1000) dX9_text_84 rfl ?_
          refine g_aload_n (pc := 87) X 2 rfl dX9_text_87 ?_
          refine g_getI (pc := 88) X FcX9 (kd_I e59 k57) 14 (by decide) rfl q_1034 dX9_text_88 ?_
          refine g_imul (pc := 91) X dX9_text_91 ?_
          refine g_aload_n (pc := 92) X 2 rfl dX9_text_92 ?_
          refine g_getI (pc := 93) X FcX9 (kd_I e59 k57) 18 (by decide) rfl q_1038 dX9_text_93 ?_
          refine g_iadd (pc := 96) X dX9_text_96 ?_
          obtain ⟨k70, h⟩ := gd_i h
          refine g_iast (pc := 97) X k70 dX9_text_97 ?_
          obtain ⟨w71, e72, h⟩ := lb_i h
          refine g_w e72 ?_
          refine g_aload_n (pc := 98) X 2 rfl dX9_text_98 ?_
          obtain ⟨a73, e74, h⟩ := bd1_i h
          refine g_getR (pc := 99) X FcX9 (kd_I e72 (kd_I e59 k57)) 0 e74 (by decide) rfl q_1020 dX9_text_99 ?_
          refine g_bipush (pc := 102) X (v := 72) dX9_text_102 rfl ?_
          refine g_iconst (pc := 104) X (v := 2) dX9_text_104 rfl ?_
          refine g_iload_n (pc := 105) X 0 rfl dX9_text_105 ?_
          refine g_imul (pc := 106) X dX9_text_106 ?_
          refine g_iadd (pc := 107) X dX9_text_107 ?_
          refine g_iconst (pc := 108) X (v := 1) dX9_text_108 rfl ?_
          refine g_iadd (pc := 109) X dX9_text_109 ?_
          refine g_aload_n (pc := 110) X 2 rfl dX9_text_110 ?_
          refine g_getI (pc := 111) X FcX9 (kd_I e72 (kd_I e59 k57)) 19 (by decide) rfl q_1039 dX9_text_111 ?_
          obtain ⟨k75, h⟩ := gd_i h
          refine g_iast (pc := 114) X k75 dX9_text_114 ?_
          obtain ⟨w76, e77, h⟩ := lb_i h
          refine g_w e77 ?_
          refine g_iconst (pc := 115) X (v := 0) dX9_text_115 rfl ?_
          refine g_istore_n (pc := 116) X (lv' := [(3, .int 0), (2, .int x66), (1, .int x55), (0, rf V v0)]) dX9_text_116 (by decide) rfl ?_
          refine g_sub (lv' := [(0, rf V v0), (2, .int x66), (3, .int 0)]) [3, 1, 0] rfl ?_
          exact bL_X9_text_117 Y  h
        · have h := br_y c h
          refine g_ldc (pc := 63) X q_1152 dX9_text_63 ?_
          obtain ⟨e1, e2⟩ := rt_i h
          exact g_iret (pc := 65) X Y.2.2.1 (Nat.le_of_ble_eq_true rfl) (Nat.le_of_ble_eq_true rfl) e1 e2 dX9_text_65
      · have h := br_y c h
        refine g_bipush (pc := 43) X (v := (-100)) dX9_text_43 rfl ?_
        refine g_aload_n (pc := 45) X 1 rfl dX9_text_45 ?_
        refine g_getI (pc := 46) X FcX9 (kd_I e59 k57) 10 (by decide) rfl q_1030 dX9_text_46 ?_
        refine g_isub (pc := 49) X dX9_text_49 ?_
        obtain ⟨e1, e2⟩ := rt_i h
        exact g_iret (pc := 50) X Y.2.2.1 (Nat.le_of_ble_eq_true rfl) (Nat.le_of_ble_eq_true rfl) e1 e2 dX9_text_50
    refine g_if_eq (pc := 25) X (tgt := 32) dX9_text_25 rfl (fun c0 => ?_) (fun c0 => ?_)
    · refine g_iconst (pc := 32) X (v := 0) dX9_text_32 rfl ?_
      exact g_top (by rw [if_pos c0]) kJ
    · refine g_iconst (pc := 28) X (v := 1) dX9_text_28 rfl ?_
      refine g_goto (pc := 29) X (tgt := 33) dX9_text_29 rfl ?_
      exact g_top (by rw [if_neg c0]) kJ

def f_X9_textTold (v0 : Nat) (v1 : Int32) (v2 : Int32) (w : Wd) : Option (Int32 × Wd) := (if wK w v0 = 9 then
 (bd1 (wR w v0 0) fun a2 =>
 (if aK 11 w a2 11 = true then
 (bd2 (f_X9_in v1 0 ((wI w a2 (nx 11)) - 1) w) fun r5 w6 =>
 (if r5 = 0 then
 some ((-1000000001), w6)
 else
 (bd2 (f_X9_in v2 0 1 w6) fun r8 w9 =>
 (if r8 = 0 then
 some ((-1000000001), w9)
 else
 (if v2 = 0 then
 (if wK w9 v0 = 9 then
 (bd1 (wR w9 v0 0) fun a16 =>
 (if aK 11 w9 a16 (72 + (2 * v1)) = true then
 some ((wI w9 a16 (nx (72 + (2 * v1)))) / 1000, w9)
 else none))
 else none)
 else
 (if wK w9 v0 = 9 then
 (bd1 (wR w9 v0 0) fun a12 =>
 (if aK 11 w9 a12 ((72 + (2 * v1)) + 1) = true then
 some (wI w9 a12 (nx ((72 + (2 * v1)) + 1)), w9)
 else none))
 else none))))))
 else none))
 else none)
theorem c_X9_textTold {l : Launch} {V : Vt} {v0 : Nat} {v1 : Int32} {v2 : Int32} {w w' : Wd} {r : Int32} (h : f_X9_textTold v0 v1 v2 w = some (r, w')) : MetW l V yX9_textTold cX9_textTold 3 (some .int) { frames := 1, cells := 0, slots := 0, locals := 22 } w [rf V v0, .int v1, .int v2] (some (.int r)) w' 0 0 := by
  refine g_start (by decide) (Nat.le_of_ble_eq_true rfl) ?_
  intro t _ hrm X hret hnm
  have Y : Hd_ t V cX9_textTold 3 RX9 { frames := 1, cells := 0, slots := 0, locals := 22 } (some .int) "textTold" := ⟨X, hrm, hret, hnm⟩
  refine g_as (lv' := [(0, rf V v0), (1, .int v1), (2, .int v2)]) (st' := []) rfl rfl ?_
  unfold f_X9_textTold at h
  refine g_iload_n (pc := 0) X 1 rfl dX9_textTold_0 ?_
  refine g_iconst (pc := 1) X (v := 0) dX9_textTold_1 rfl ?_
  refine g_aload_n (pc := 2) X 0 rfl dX9_textTold_2 ?_
  obtain ⟨k1, h⟩ := gd_i h
  obtain ⟨a2, e3, h⟩ := bd1_i h
  refine g_getR (pc := 3) X FcX9 k1 0 e3 (by decide) rfl q_1020 dX9_textTold_3 ?_
  refine g_bipush (pc := 6) X (v := 11) dX9_textTold_6 rfl ?_
  obtain ⟨k4, h⟩ := gd_i h
  refine g_iald (pc := 8) X k4 dX9_textTold_8 ?_
  refine g_iconst (pc := 9) X (v := 1) dX9_textTold_9 rfl ?_
  refine g_isub (pc := 10) X dX9_textTold_10 ?_
  obtain ⟨r5, w6, h7, h⟩ := bd2_i h
  refine g_callS (pc := 11) X mk_X9_in q_1133 q_1132 (c_X9_in h7) rfl rfl (by rw [Y.2.1]; decide)  rfl (rest := []) rfl (Nat.le_of_ble_eq_true rfl) (by rw [Y.2.1]; exact ⟨Nat.le_of_ble_eq_true rfl, Nat.le_of_ble_eq_true rfl⟩) dX9_textTold_11 (st' := [.int r5]) rfl ?_
  refine g_if_eq (pc := 14) X (tgt := 26) dX9_textTold_14 rfl (fun c => ?_) (fun c => ?_)
  · have h := br_y c h
    refine g_ldc (pc := 26) X q_1135 dX9_textTold_26 ?_
    obtain ⟨e1, e2⟩ := rt_i h
    exact g_iret (pc := 28) X Y.2.2.1 (Nat.le_of_ble_eq_true rfl) (Nat.le_of_ble_eq_true rfl) e1 e2 dX9_textTold_28
  · have h := br_n c h
    refine g_iload_n (pc := 17) X 2 rfl dX9_textTold_17 ?_
    refine g_iconst (pc := 18) X (v := 0) dX9_textTold_18 rfl ?_
    refine g_iconst (pc := 19) X (v := 1) dX9_textTold_19 rfl ?_
    obtain ⟨r8, w9, h10, h⟩ := bd2_i h
    refine g_callS (pc := 20) X mk_X9_in q_1133 q_1132 (c_X9_in h10) rfl rfl (by rw [Y.2.1]; decide)  rfl (rest := []) rfl (Nat.le_of_ble_eq_true rfl) (by rw [Y.2.1]; exact ⟨Nat.le_of_ble_eq_true rfl, Nat.le_of_ble_eq_true rfl⟩) dX9_textTold_20 (st' := [.int r8]) rfl ?_
    refine g_if_ne (pc := 23) X (tgt := 29) dX9_textTold_23 rfl (fun c => ?_) (fun c => ?_)
    · have h := br_n c h
      refine g_iload_n (pc := 29) X 2 rfl dX9_textTold_29 ?_
      refine g_if_ne (pc := 30) X (tgt := 51) dX9_textTold_30 rfl (fun c => ?_) (fun c => ?_)
      · have h := br_n c h
        refine g_aload_n (pc := 51) X 0 rfl dX9_textTold_51 ?_
        obtain ⟨k11, h⟩ := gd_i h
        obtain ⟨a12, e13, h⟩ := bd1_i h
        refine g_getR (pc := 52) X FcX9 k11 0 e13 (by decide) rfl q_1020 dX9_textTold_52 ?_
        refine g_bipush (pc := 55) X (v := 72) dX9_textTold_55 rfl ?_
        refine g_iconst (pc := 57) X (v := 2) dX9_textTold_57 rfl ?_
        refine g_iload_n (pc := 58) X 1 rfl dX9_textTold_58 ?_
        refine g_imul (pc := 59) X dX9_textTold_59 ?_
        refine g_iadd (pc := 60) X dX9_textTold_60 ?_
        refine g_iconst (pc := 61) X (v := 1) dX9_textTold_61 rfl ?_
        refine g_iadd (pc := 62) X dX9_textTold_62 ?_
        obtain ⟨k14, h⟩ := gd_i h
        refine g_iald (pc := 63) X k14 dX9_textTold_63 ?_
        obtain ⟨e1, e2⟩ := rt_i h
        exact g_iret (pc := 64) X Y.2.2.1 (Nat.le_of_ble_eq_true rfl) (Nat.le_of_ble_eq_true rfl) e1 e2 dX9_textTold_64
      · have h := br_y c h
        refine g_aload_n (pc := 33) X 0 rfl dX9_textTold_33 ?_
        obtain ⟨k15, h⟩ := gd_i h
        obtain ⟨a16, e17, h⟩ := bd1_i h
        refine g_getR (pc := 34) X FcX9 k15 0 e17 (by decide) rfl q_1020 dX9_textTold_34 ?_
        refine g_bipush (pc := 37) X (v := 72) dX9_textTold_37 rfl ?_
        refine g_iconst (pc := 39) X (v := 2) dX9_textTold_39 rfl ?_
        refine g_iload_n (pc := 40) X 1 rfl dX9_textTold_40 ?_
        refine g_imul (pc := 41) X dX9_textTold_41 ?_
        refine g_iadd (pc := 42) X dX9_textTold_42 ?_
        obtain ⟨k18, h⟩ := gd_i h
        refine g_iald (pc := 43) X k18 dX9_textTold_43 ?_
        refine g_sipush (pc := 44) X (v := 1000) dX9_textTold_44 rfl ?_
        refine g_idiv (pc := 47) X (by decide) dX9_textTold_47 ?_
        refine g_goto (pc := 48) X (tgt := 64) dX9_textTold_48 rfl ?_
        obtain ⟨e1, e2⟩ := rt_i h
        exact g_iret (pc := 64) X Y.2.2.1 (Nat.le_of_ble_eq_true rfl) (Nat.le_of_ble_eq_true rfl) e1 e2 dX9_textTold_64
    · have h := br_y c h
      refine g_ldc (pc := 26) X q_1135 dX9_textTold_26 ?_
      obtain ⟨e1, e2⟩ := rt_i h
      exact g_iret (pc := 28) X Y.2.2.1 (Nat.le_of_ble_eq_true rfl) (Nat.le_of_ble_eq_true rfl) e1 e2 dX9_textTold_28

def f_X9_why (v0 : Nat) (v1 : Int32) (w : Wd) : Option (Int32 × Wd) := (bd2 (f_X9_in v1 0 2 w) fun r1 w2 =>
 (if r1 = 0 then
 some ((-1000000001), w2)
 else
 (if wK w2 v0 = 9 then
 (bd2 (f_X9_counts v0 v1 w2) fun r5 w6 =>
 some ((if 0 ≤ r5 then r5 else (-1000000005) : Int32), w6))
 else none)))
theorem c_X9_why {l : Launch} {V : Vt} {v0 : Nat} {v1 : Int32} {w w' : Wd} {r : Int32} (h : f_X9_why v0 v1 w = some (r, w')) : MetW l V yX9_why cX9_why 3 (some .int) { frames := 1, cells := 0, slots := 0, locals := 22 } w [rf V v0, .int v1] (some (.int r)) w' 0 0 := by
  refine g_start (by decide) (Nat.le_of_ble_eq_true rfl) ?_
  intro t _ hrm X hret hnm
  have Y : Hd_ t V cX9_why 3 RX9 { frames := 1, cells := 0, slots := 0, locals := 22 } (some .int) "why" := ⟨X, hrm, hret, hnm⟩
  refine g_as (lv' := [(0, rf V v0), (1, .int v1)]) (st' := []) rfl rfl ?_
  unfold f_X9_why at h
  refine g_iload_n (pc := 0) X 1 rfl dX9_why_0 ?_
  refine g_iconst (pc := 1) X (v := 0) dX9_why_1 rfl ?_
  refine g_iconst (pc := 2) X (v := 2) dX9_why_2 rfl ?_
  obtain ⟨r1, w2, h3, h⟩ := bd2_i h
  refine g_callS (pc := 3) X mk_X9_in q_1133 q_1132 (c_X9_in h3) rfl rfl (by rw [Y.2.1]; decide)  rfl (rest := []) rfl (Nat.le_of_ble_eq_true rfl) (by rw [Y.2.1]; exact ⟨Nat.le_of_ble_eq_true rfl, Nat.le_of_ble_eq_true rfl⟩) dX9_why_3 (st' := [.int r1]) rfl ?_
  refine g_if_ne (pc := 6) X (tgt := 12) dX9_why_6 rfl (fun c => ?_) (fun c => ?_)
  · have h := br_n c h
    refine g_aload_n (pc := 12) X 0 rfl dX9_why_12 ?_
    refine g_iload_n (pc := 13) X 1 rfl dX9_why_13 ?_
    obtain ⟨k4, h⟩ := gd_i h
    obtain ⟨r5, w6, h7, h⟩ := bd2_i h
    refine g_callV (pc := 14) X FcX9 k4 mk_X9_counts q_1238 q_40 q_1236 (c_X9_counts h7) rfl rfl (by rw [Y.2.1]; decide)  rfl (rest := []) rfl (Nat.le_of_ble_eq_true rfl) (by rw [Y.2.1]; exact ⟨Nat.le_of_ble_eq_true rfl, Nat.le_of_ble_eq_true rfl⟩) dX9_why_14 (st' := [.int r5]) rfl ?_
    refine g_istore_n (pc := 17) X (lv' := [(2, .int r5), (0, rf V v0), (1, .int v1)]) dX9_why_17 (by decide) rfl ?_
    refine g_iload_n (pc := 18) X 0 rfl dX9_why_18 ?_
    have kJ : Gd t V 3 0 0 (Qe t V (some (.int r)) w' 0 0) 28 [(2, .int r5), (0, rf V v0), (1, .int v1)] [.int (if 0 ≤ r5 then r5 else (-1000000005) : Int32)] w6 := by
      obtain ⟨e1, e2⟩ := rt_i h
      exact g_iret (pc := 28) X Y.2.2.1 (Nat.le_of_ble_eq_true rfl) (Nat.le_of_ble_eq_true rfl) e1 e2 dX9_why_28
    refine g_if_ge (pc := 19) X (tgt := 27) dX9_why_19 rfl (fun c0 => ?_) (fun c0 => ?_)
    · refine g_iload_n (pc := 27) X 0 rfl dX9_why_27 ?_
      exact g_top (by rw [if_pos c0]) kJ
    · refine g_ldc (pc := 22) X q_1261 dX9_why_22 ?_
      refine g_goto (pc := 24) X (tgt := 28) dX9_why_24 rfl ?_
      exact g_top (by rw [if_neg c0]) kJ
  · have h := br_y c h
    refine g_ldc (pc := 9) X q_1135 dX9_why_9 ?_
    obtain ⟨e1, e2⟩ := rt_i h
    exact g_iret (pc := 11) X Y.2.2.1 (Nat.le_of_ble_eq_true rfl) (Nat.le_of_ble_eq_true rfl) e1 e2 dX9_why_11

def f_X9_isSlot (v0 : Int32) (w : Wd) : Option (Int32 × Wd) := (bd2 (f_X9_in v0 0 4 w) fun r1 w2 =>
 (if r1 = 0 ∨ r1 = 1 then
 some (r1, w2)
 else none))
theorem c_X9_isSlot {l : Launch} {V : Vt} {v0 : Int32} {w w' : Wd} {r : Int32} (h : f_X9_isSlot v0 w = some (r, w')) : MetW l V yX9_isSlot cX9_isSlot 1 (some .boolean) { frames := 1, cells := 0, slots := 0, locals := 22 } w [.int v0] (some (.int r)) w' 0 0 := by
  refine g_start (by decide) (Nat.le_of_ble_eq_true rfl) ?_
  intro t _ hrm X hret hnm
  have Y : Hd_ t V cX9_isSlot 1 RX9 { frames := 1, cells := 0, slots := 0, locals := 22 } (some .boolean) "isSlot" := ⟨X, hrm, hret, hnm⟩
  refine g_as (lv' := [(0, .int v0)]) (st' := []) rfl rfl ?_
  unfold f_X9_isSlot at h
  refine g_iload_n (pc := 0) X 0 rfl dX9_isSlot_0 ?_
  refine g_iconst (pc := 1) X (v := 0) dX9_isSlot_1 rfl ?_
  refine g_iconst (pc := 2) X (v := 4) dX9_isSlot_2 rfl ?_
  obtain ⟨r1, w2, h3, h⟩ := bd2_i h
  refine g_callS (pc := 3) X mk_X9_in q_1133 q_1132 (c_X9_in h3) rfl rfl (by rw [Y.2.1]; decide)  rfl (rest := []) rfl (Nat.le_of_ble_eq_true rfl) (by rw [Y.2.1]; exact ⟨Nat.le_of_ble_eq_true rfl, Nat.le_of_ble_eq_true rfl⟩) dX9_isSlot_3 (st' := [.int r1]) rfl ?_
  obtain ⟨k4, h⟩ := gd_i h
  obtain ⟨e1, e2⟩ := rt_i h
  exact g_zret (pc := 6) X Y.2.2.1 k4 (Nat.le_of_ble_eq_true rfl) (Nat.le_of_ble_eq_true rfl) e1 e2 dX9_isSlot_6

def L_X9_sheet_66  (n : Nat) (v0 : Nat) (v1 : Int32) (v4 : Int32) (w : Wd) : Option (Int32 × Wd) := match n with
  | 0 => none
  | n + 1 => (if 24 ≤ v4 then
 (if wK w v0 = 9 then
 (bd1 (wR w v0 26) fun a19 =>
 (if aK 11 w a19 v1 = true then
 some (wI w a19 (nx v1), w)
 else none))
 else none)
 else
 (if wK w v0 = 9 then
 (bd1 (wR w v0 27) fun a23 =>
 (if aK 11 w a23 ((24 * v1) + v4) = true then
 (lb_ (sI w a23 (nx ((24 * v1) + v4)) 0) fun w26 =>
 (lb_ (v4 + 1) fun x28 =>
 L_X9_sheet_66 n v0 v1 x28 w26))
 else none))
 else none))
theorem bL_X9_sheet_66 {t : Ct} {V : Vt} {r : Int32} {w' : Wd} (Y : Hd_ t V cX9_sheet 5 RX9 { frames := 2, cells := 0, slots := 0, locals := 42 } (some .int) "sheet") : ∀ {n : Nat} {v0 : Nat} {v1 : Int32} {v4 : Int32} {w : Wd}, L_X9_sheet_66  n v0 v1 v4 w = some (r, w') → Gd t V 5 0 0 (Qe t V (some (.int r)) w' 0 0) 66 [(0, rf V v0), (1, .int v1), (4, .int v4)] [] w := by
  have X := Y.1
  intro n
  induction n with
  | zero => intro v0 v1 v4 w h; cases h
  | succ n ih0 =>
    have ih : ∀ (v0 : Nat) (v1 : Int32) (v4 : Int32) (w : Wd), L_X9_sheet_66  n v0 v1 v4 w = some (r, w') → Gd t V 5 0 0 (Qe t V (some (.int r)) w' 0 0) 66 [(0, rf V v0), (1, .int v1), (4, .int v4)] [] w := fun v0 v1 v4 w h => ih0 h
    clear ih0
    intro v0 v1 v4 w h
    unfold L_X9_sheet_66 at h
    refine g_iload (pc := 66) X 2 rfl dX9_sheet_66 ?_
    refine g_bipush (pc := 68) X (v := 24) dX9_sheet_68 rfl ?_
    refine g_icmp_ge (pc := 70) X (tgt := 92) dX9_sheet_70 rfl (fun c => ?_) (fun c => ?_)
    · have h := br_y c h
      refine g_aload_n (pc := 92) X 0 rfl dX9_sheet_92 ?_
      obtain ⟨k18, h⟩ := gd_i h
      obtain ⟨a19, e20, h⟩ := bd1_i h
      refine g_getR (pc := 93) X FcX9 k18 26 e20 (by decide) rfl q_1046 dX9_sheet_93 ?_
      refine g_iload_n (pc := 96) X 1 rfl dX9_sheet_96 ?_
      obtain ⟨k21, h⟩ := gd_i h
      refine g_iald (pc := 97) X k21 dX9_sheet_97 ?_
      obtain ⟨e1, e2⟩ := rt_i h
      exact g_iret (pc := 98) X Y.2.2.1 (Nat.le_of_ble_eq_true rfl) (Nat.le_of_ble_eq_true rfl) e1 e2 dX9_sheet_98
    · have h := br_n c h
      refine g_aload_n (pc := 73) X 0 rfl dX9_sheet_73 ?_
      obtain ⟨k22, h⟩ := gd_i h
      obtain ⟨a23, e24, h⟩ := bd1_i h
      refine g_getR (pc := 74) X FcX9 k22 27 e24 (by decide) rfl q_1047 dX9_sheet_74 ?_
      refine g_bipush (pc := 77) X (v := 24) dX9_sheet_77 rfl ?_
      refine g_iload_n (pc := 79) X 1 rfl dX9_sheet_79 ?_
      refine g_imul (pc := 80) X dX9_sheet_80 ?_
      refine g_iload (pc := 81) X 2 rfl dX9_sheet_81 ?_
      refine g_iadd (pc := 83) X dX9_sheet_83 ?_
      refine g_iconst (pc := 84) X (v := 0) dX9_sheet_84 rfl ?_
      obtain ⟨k25, h⟩ := gd_i h
      refine g_iast (pc := 85) X k25 dX9_sheet_85 ?_
      obtain ⟨w26, e27, h⟩ := lb_i h
      refine g_w e27 ?_
      obtain ⟨x28, e29, h⟩ := lb_i h
      refine g_iinc (pc := 86) X 2 rfl dX9_sheet_86 (v := x28) e29.symm (by decide) (lv' := [(4, .int x28), (0, rf V v0), (1, .int v1)]) rfl ?_
      refine g_goto (pc := 89) X (tgt := 66) dX9_sheet_89 rfl ?_
      refine g_sub (lv' := [(0, rf V v0), (1, .int v1), (4, .int x28)]) [1, 2, 0] rfl ?_
      exact ih _ _ _ _ h

def j_X9_sheet_41  (v0 : Nat) (v1 : Int32) (v2 : Int32) (v3 : Int32) (w : Wd) : Option (Int32 × Wd) := (if wK w v0 = 9 then
 (bd1 (wR w v0 25) fun a8 =>
 (if aK 11 w a8 v1 = true then
 (lb_ (sI w a8 (nx v1) v2) fun w11 =>
 (bd1 (wR w11 v0 26) fun a13 =>
 (if aK 11 w11 a13 v1 = true then
 (lb_ (sI w11 a13 (nx v1) (if 0 ≤ v2 then v3 else 0 : Int32)) fun w16 =>
 L_X9_sheet_66 FU v0 v1 0 w16)
 else none)))
 else none))
 else none)
theorem bj_X9_sheet_41 {t : Ct} {V : Vt} {r : Int32} {w' : Wd} (Y : Hd_ t V cX9_sheet 5 RX9 { frames := 2, cells := 0, slots := 0, locals := 42 } (some .int) "sheet") {v0 : Nat} {v1 : Int32} {v2 : Int32} {v3 : Int32} {w : Wd} (h : j_X9_sheet_41  v0 v1 v2 v3 w = some (r, w')) : Gd t V 5 0 0 (Qe t V (some (.int r)) w' 0 0) 41 [(0, rf V v0), (1, .int v1), (2, .int v2), (3, .int v3)] [] w := by
  have X := Y.1
  unfold j_X9_sheet_41 at h
  refine g_aload_n (pc := 41) X 0 rfl dX9_sheet_41 ?_
  obtain ⟨k7, h⟩ := gd_i h
  obtain ⟨a8, e9, h⟩ := bd1_i h
  refine g_getR (pc := 42) X FcX9 k7 25 e9 (by decide) rfl q_1045 dX9_sheet_42 ?_
  refine g_iload_n (pc := 45) X 1 rfl dX9_sheet_45 ?_
  refine g_iload_n (pc := 46) X 2 rfl dX9_sheet_46 ?_
  obtain ⟨k10, h⟩ := gd_i h
  refine g_iast (pc := 47) X k10 dX9_sheet_47 ?_
  obtain ⟨w11, e12, h⟩ := lb_i h
  refine g_w e12 ?_
  refine g_aload_n (pc := 48) X 0 rfl dX9_sheet_48 ?_
  obtain ⟨a13, e14, h⟩ := bd1_i h
  refine g_getR (pc := 49) X FcX9 (kd_I e12 k7) 26 e14 (by decide) rfl q_1046 dX9_sheet_49 ?_
  refine g_iload_n (pc := 52) X 1 rfl dX9_sheet_52 ?_
  refine g_iload_n (pc := 53) X 2 rfl dX9_sheet_53 ?_
  have kJ : Gd t V 5 0 0 (Qe t V (some (.int r)) w' 0 0) 62 [(0, rf V v0), (1, .int v1), (2, .int v2), (3, .int v3)] [.int (if 0 ≤ v2 then v3 else 0 : Int32), .int v1, rf V a13] w11 := by
    obtain ⟨k15, h⟩ := gd_i h
    refine g_iast (pc := 62) X k15 dX9_sheet_62 ?_
    obtain ⟨w16, e17, h⟩ := lb_i h
    refine g_w e17 ?_
    refine g_iconst (pc := 63) X (v := 0) dX9_sheet_63 rfl ?_
    refine g_istore (pc := 64) X (lv' := [(4, .int 0), (0, rf V v0), (1, .int v1), (2, .int v2), (3, .int v3)]) dX9_sheet_64 (by decide) rfl ?_
    refine g_sub (lv' := [(0, rf V v0), (1, .int v1), (4, .int 0)]) [1, 2, 0] rfl ?_
    exact bL_X9_sheet_66 Y  h
  refine g_if_ge (pc := 54) X (tgt := 61) dX9_sheet_54 rfl (fun c0 => ?_) (fun c0 => ?_)
  · refine g_iload_n (pc := 61) X 3 rfl dX9_sheet_61 ?_
    exact g_top (by rw [if_pos c0]) kJ
  · refine g_iconst (pc := 57) X (v := 0) dX9_sheet_57 rfl ?_
    refine g_goto (pc := 58) X (tgt := 62) dX9_sheet_58 rfl ?_
    exact g_top (by rw [if_neg c0]) kJ

def j_X9_sheet_29  (v0 : Nat) (v1 : Int32) (v2 : Int32) (v3 : Int32) (w : Wd) : Option (Int32 × Wd) := (if v2 < 0 then
 j_X9_sheet_41 v0 v1 v2 v3 w
 else
 (if 0 ≤ v3 then
 j_X9_sheet_41 v0 v1 v2 v3 w
 else
 some ((-1000000014), w)))
theorem bj_X9_sheet_29 {t : Ct} {V : Vt} {r : Int32} {w' : Wd} (Y : Hd_ t V cX9_sheet 5 RX9 { frames := 2, cells := 0, slots := 0, locals := 42 } (some .int) "sheet") {v0 : Nat} {v1 : Int32} {v2 : Int32} {v3 : Int32} {w : Wd} (h : j_X9_sheet_29  v0 v1 v2 v3 w = some (r, w')) : Gd t V 5 0 0 (Qe t V (some (.int r)) w' 0 0) 29 [(0, rf V v0), (1, .int v1), (2, .int v2), (3, .int v3)] [] w := by
  have X := Y.1
  unfold j_X9_sheet_29 at h
  refine g_iload_n (pc := 29) X 2 rfl dX9_sheet_29 ?_
  refine g_if_lt (pc := 30) X (tgt := 41) dX9_sheet_30 rfl (fun c => ?_) (fun c => ?_)
  · have h := br_y c h
    refine g_sub (lv' := [(0, rf V v0), (1, .int v1), (2, .int v2), (3, .int v3)]) [0, 1, 2, 3] rfl ?_
    exact bj_X9_sheet_41 Y  h
  · have h := br_n c h
    refine g_iload_n (pc := 33) X 3 rfl dX9_sheet_33 ?_
    refine g_if_ge (pc := 34) X (tgt := 41) dX9_sheet_34 rfl (fun c => ?_) (fun c => ?_)
    · have h := br_y c h
      refine g_sub (lv' := [(0, rf V v0), (1, .int v1), (2, .int v2), (3, .int v3)]) [0, 1, 2, 3] rfl ?_
      exact bj_X9_sheet_41 Y  h
    · have h := br_n c h
      refine g_ldcw (pc := 37) X q_1446 dX9_sheet_37 ?_
      obtain ⟨e1, e2⟩ := rt_i h
      exact g_iret (pc := 40) X Y.2.2.1 (Nat.le_of_ble_eq_true rfl) (Nat.le_of_ble_eq_true rfl) e1 e2 dX9_sheet_40

def f_X9_sheet (v0 : Nat) (v1 : Int32) (v2 : Int32) (v3 : Int32) (w : Wd) : Option (Int32 × Wd) := (bd2 (f_X9_isSheet v1 w) fun r1 w2 =>
 (if r1 = 0 then
 some ((-1000000001), w2)
 else
 (bd2 (f_X9_in v2 (-1) 1 w2) fun r4 w5 =>
 (if r4 = 0 then
 some ((-1000000001), w5)
 else
 (if v2 < 0 then
 j_X9_sheet_29 v0 v1 v2 v3 w5
 else
 (if v3 ≤ 24 then
 j_X9_sheet_29 v0 v1 v2 v3 w5
 else
 some ((-1000000001), w5)))))))
theorem c_X9_sheet {l : Launch} {V : Vt} {v0 : Nat} {v1 : Int32} {v2 : Int32} {v3 : Int32} {w w' : Wd} {r : Int32} (h : f_X9_sheet v0 v1 v2 v3 w = some (r, w')) : MetW l V yX9_sheet cX9_sheet 5 (some .int) { frames := 2, cells := 0, slots := 0, locals := 42 } w [rf V v0, .int v1, .int v2, .int v3] (some (.int r)) w' 0 0 := by
  refine g_start (by decide) (Nat.le_of_ble_eq_true rfl) ?_
  intro t _ hrm X hret hnm
  have Y : Hd_ t V cX9_sheet 5 RX9 { frames := 2, cells := 0, slots := 0, locals := 42 } (some .int) "sheet" := ⟨X, hrm, hret, hnm⟩
  refine g_as (lv' := [(0, rf V v0), (1, .int v1), (2, .int v2), (3, .int v3)]) (st' := []) rfl rfl ?_
  unfold f_X9_sheet at h
  refine g_iload_n (pc := 0) X 1 rfl dX9_sheet_0 ?_
  obtain ⟨r1, w2, h3, h⟩ := bd2_i h
  refine g_callS (pc := 1) X mk_X9_isSheet q_1368 q_1367 (c_X9_isSheet h3) rfl rfl (by rw [Y.2.1]; decide)  rfl (rest := []) rfl (Nat.le_of_ble_eq_true rfl) (by rw [Y.2.1]; exact ⟨Nat.le_of_ble_eq_true rfl, Nat.le_of_ble_eq_true rfl⟩) dX9_sheet_1 (st' := [.int r1]) rfl ?_
  refine g_if_eq (pc := 4) X (tgt := 26) dX9_sheet_4 rfl (fun c => ?_) (fun c => ?_)
  · have h := br_y c h
    refine g_ldc (pc := 26) X q_1135 dX9_sheet_26 ?_
    obtain ⟨e1, e2⟩ := rt_i h
    exact g_iret (pc := 28) X Y.2.2.1 (Nat.le_of_ble_eq_true rfl) (Nat.le_of_ble_eq_true rfl) e1 e2 dX9_sheet_28
  · have h := br_n c h
    refine g_iload_n (pc := 7) X 2 rfl dX9_sheet_7 ?_
    refine g_iconst (pc := 8) X (v := (-1)) dX9_sheet_8 rfl ?_
    refine g_iconst (pc := 9) X (v := 1) dX9_sheet_9 rfl ?_
    obtain ⟨r4, w5, h6, h⟩ := bd2_i h
    refine g_callS (pc := 10) X mk_X9_in q_1133 q_1132 (c_X9_in h6) rfl rfl (by rw [Y.2.1]; decide)  rfl (rest := []) rfl (Nat.le_of_ble_eq_true rfl) (by rw [Y.2.1]; exact ⟨Nat.le_of_ble_eq_true rfl, Nat.le_of_ble_eq_true rfl⟩) dX9_sheet_10 (st' := [.int r4]) rfl ?_
    refine g_if_eq (pc := 13) X (tgt := 26) dX9_sheet_13 rfl (fun c => ?_) (fun c => ?_)
    · have h := br_y c h
      refine g_ldc (pc := 26) X q_1135 dX9_sheet_26 ?_
      obtain ⟨e1, e2⟩ := rt_i h
      exact g_iret (pc := 28) X Y.2.2.1 (Nat.le_of_ble_eq_true rfl) (Nat.le_of_ble_eq_true rfl) e1 e2 dX9_sheet_28
    · have h := br_n c h
      refine g_iload_n (pc := 16) X 2 rfl dX9_sheet_16 ?_
      refine g_if_lt (pc := 17) X (tgt := 29) dX9_sheet_17 rfl (fun c => ?_) (fun c => ?_)
      · have h := br_y c h
        refine g_sub (lv' := [(0, rf V v0), (1, .int v1), (2, .int v2), (3, .int v3)]) [0, 1, 2, 3] rfl ?_
        exact bj_X9_sheet_29 Y  h
      · have h := br_n c h
        refine g_iload_n (pc := 20) X 3 rfl dX9_sheet_20 ?_
        refine g_bipush (pc := 21) X (v := 24) dX9_sheet_21 rfl ?_
        refine g_icmp_le (pc := 23) X (tgt := 29) dX9_sheet_23 rfl (fun c => ?_) (fun c => ?_)
        · have h := br_y c h
          refine g_sub (lv' := [(0, rf V v0), (1, .int v1), (2, .int v2), (3, .int v3)]) [0, 1, 2, 3] rfl ?_
          exact bj_X9_sheet_29 Y  h
        · have h := br_n c h
          refine g_ldc (pc := 26) X q_1135 dX9_sheet_26 ?_
          obtain ⟨e1, e2⟩ := rt_i h
          exact g_iret (pc := 28) X Y.2.2.1 (Nat.le_of_ble_eq_true rfl) (Nat.le_of_ble_eq_true rfl) e1 e2 dX9_sheet_28

def j_X9_mark_117  (s0 : Int32) (s1 : Int32) (s2 : Nat) (w : Wd) : Option (Int32 × Wd) := (if aK 11 w s2 s1 = true then
 (lb_ (sI w s2 (nx s1) s0) fun w29 =>
 some (1, w29))
 else none)
theorem bj_X9_mark_117 {t : Ct} {V : Vt} {r : Int32} {w' : Wd} (Y : Hd_ t V cX9_mark 4 RX9 { frames := 2, cells := 0, slots := 0, locals := 42 } (some .int) "mark") {s0 : Int32} {s1 : Int32} {s2 : Nat} {w : Wd} (h : j_X9_mark_117  s0 s1 s2 w = some (r, w')) : Gd t V 4 0 0 (Qe t V (some (.int r)) w' 0 0) 117 [] [.int s0, .int s1, rf V s2] w := by
  have X := Y.1
  unfold j_X9_mark_117 at h
  obtain ⟨k28, h⟩ := gd_i h
  refine g_iast (pc := 117) X k28 dX9_mark_117 ?_
  obtain ⟨w29, e30, h⟩ := lb_i h
  refine g_w e30 ?_
  refine g_iconst (pc := 118) X (v := 1) dX9_mark_118 rfl ?_
  obtain ⟨e1, e2⟩ := rt_i h
  exact g_iret (pc := 119) X Y.2.2.1 (Nat.le_of_ble_eq_true rfl) (Nat.le_of_ble_eq_true rfl) e1 e2 dX9_mark_119

def j_X9_mark_92  (v0 : Nat) (v1 : Int32) (v2 : Int32) (v3 : Int32) (w : Wd) : Option (Int32 × Wd) := (if wK w v0 = 9 then
 (bd1 (wR w v0 27) fun a23 =>
 (bd1 (wR w v0 25) fun a25 =>
 (if aK 11 w a25 v1 = true then
 (if (wI w a25 (nx v1)) = 0 then
 j_X9_mark_117 (Int16.toInt32 (Int32.toInt16 v3)) ((24 * v1) + v2) a23 w
 else
 j_X9_mark_117 v3 ((24 * v1) + v2) a23 w)
 else none)))
 else none)
theorem bj_X9_mark_92 {t : Ct} {V : Vt} {r : Int32} {w' : Wd} (Y : Hd_ t V cX9_mark 4 RX9 { frames := 2, cells := 0, slots := 0, locals := 42 } (some .int) "mark") {v0 : Nat} {v1 : Int32} {v2 : Int32} {v3 : Int32} {w : Wd} (h : j_X9_mark_92  v0 v1 v2 v3 w = some (r, w')) : Gd t V 4 0 0 (Qe t V (some (.int r)) w' 0 0) 92 [(0, rf V v0), (1, .int v1), (2, .int v2), (3, .int v3)] [] w := by
  have X := Y.1
  unfold j_X9_mark_92 at h
  refine g_aload_n (pc := 92) X 0 rfl dX9_mark_92 ?_
  obtain ⟨k22, h⟩ := gd_i h
  obtain ⟨a23, e24, h⟩ := bd1_i h
  refine g_getR (pc := 93) X FcX9 k22 27 e24 (by decide) rfl q_1047 dX9_mark_93 ?_
  refine g_bipush (pc := 96) X (v := 24) dX9_mark_96 rfl ?_
  refine g_iload_n (pc := 98) X 1 rfl dX9_mark_98 ?_
  refine g_imul (pc := 99) X dX9_mark_99 ?_
  refine g_iload_n (pc := 100) X 2 rfl dX9_mark_100 ?_
  refine g_iadd (pc := 101) X dX9_mark_101 ?_
  refine g_aload_n (pc := 102) X 0 rfl dX9_mark_102 ?_
  obtain ⟨a25, e26, h⟩ := bd1_i h
  refine g_getR (pc := 103) X FcX9 k22 25 e26 (by decide) rfl q_1045 dX9_mark_103 ?_
  refine g_iload_n (pc := 106) X 1 rfl dX9_mark_106 ?_
  obtain ⟨k27, h⟩ := gd_i h
  refine g_iald (pc := 107) X k27 dX9_mark_107 ?_
  refine g_if_ne (pc := 108) X (tgt := 116) dX9_mark_108 rfl (fun c => ?_) (fun c => ?_)
  · have h := br_n c h
    refine g_iload_n (pc := 116) X 3 rfl dX9_mark_116 ?_
    refine g_sub (lv' := []) [] rfl ?_
    exact bj_X9_mark_117 Y  h
  · have h := br_y c h
    refine g_iload_n (pc := 111) X 3 rfl dX9_mark_111 ?_
    refine g_i2s (pc := 112) X dX9_mark_112 ?_
    refine g_goto (pc := 113) X (tgt := 117) dX9_mark_113 rfl ?_
    refine g_sub (lv' := []) [] rfl ?_
    exact bj_X9_mark_117 Y  h

def j_X9_mark_60  (v0 : Nat) (v1 : Int32) (v2 : Int32) (v3 : Int32) (w : Wd) : Option (Int32 × Wd) := (if wK w v0 = 9 then
 (bd1 (wR w v0 25) fun a19 =>
 (if aK 11 w a19 v1 = true then
 (if (wI w a19 (nx v1)) = 1 then
 (if v3 = (-1000000005) then
 j_X9_mark_92 v0 v1 v2 v3 w
 else
 (bd2 (f_X9_in v3 (-99999) 99999 w) fun r31 w32 =>
 (if r31 = 0 then
 some ((-1000000001), w32)
 else
 j_X9_mark_92 v0 v1 v2 v3 w32)))
 else
 j_X9_mark_92 v0 v1 v2 v3 w)
 else none))
 else none)
theorem bj_X9_mark_60 {t : Ct} {V : Vt} {r : Int32} {w' : Wd} (Y : Hd_ t V cX9_mark 4 RX9 { frames := 2, cells := 0, slots := 0, locals := 42 } (some .int) "mark") {v0 : Nat} {v1 : Int32} {v2 : Int32} {v3 : Int32} {w : Wd} (h : j_X9_mark_60  v0 v1 v2 v3 w = some (r, w')) : Gd t V 4 0 0 (Qe t V (some (.int r)) w' 0 0) 60 [(0, rf V v0), (1, .int v1), (2, .int v2), (3, .int v3)] [] w := by
  have X := Y.1
  unfold j_X9_mark_60 at h
  refine g_aload_n (pc := 60) X 0 rfl dX9_mark_60 ?_
  obtain ⟨k18, h⟩ := gd_i h
  obtain ⟨a19, e20, h⟩ := bd1_i h
  refine g_getR (pc := 61) X FcX9 k18 25 e20 (by decide) rfl q_1045 dX9_mark_61 ?_
  refine g_iload_n (pc := 64) X 1 rfl dX9_mark_64 ?_
  obtain ⟨k21, h⟩ := gd_i h
  refine g_iald (pc := 65) X k21 dX9_mark_65 ?_
  refine g_iconst (pc := 66) X (v := 1) dX9_mark_66 rfl ?_
  refine g_icmp_ne (pc := 67) X (tgt := 92) dX9_mark_67 rfl (fun c => ?_) (fun c => ?_)
  · have h := br_n c h
    refine g_sub (lv' := [(0, rf V v0), (1, .int v1), (2, .int v2), (3, .int v3)]) [0, 1, 2, 3] rfl ?_
    exact bj_X9_mark_92 Y  h
  · have h := br_y c h
    refine g_iload_n (pc := 70) X 3 rfl dX9_mark_70 ?_
    refine g_ldc (pc := 71) X q_1261 dX9_mark_71 ?_
    refine g_icmp_eq (pc := 73) X (tgt := 92) dX9_mark_73 rfl (fun c => ?_) (fun c => ?_)
    · have h := br_y c h
      refine g_sub (lv' := [(0, rf V v0), (1, .int v1), (2, .int v2), (3, .int v3)]) [0, 1, 2, 3] rfl ?_
      exact bj_X9_mark_92 Y  h
    · have h := br_n c h
      refine g_iload_n (pc := 76) X 3 rfl dX9_mark_76 ?_
      refine g_ldcw (pc := 77) X q_1452 dX9_mark_77 ?_
      refine g_ldcw (pc := 80) X q_1453 dX9_mark_80 ?_
      obtain ⟨r31, w32, h33, h⟩ := bd2_i h
      refine g_callS (pc := 83) X mk_X9_in q_1133 q_1132 (c_X9_in h33) rfl rfl (by rw [Y.2.1]; decide)  rfl (rest := []) rfl (Nat.le_of_ble_eq_true rfl) (by rw [Y.2.1]; exact ⟨Nat.le_of_ble_eq_true rfl, Nat.le_of_ble_eq_true rfl⟩) dX9_mark_83 (st' := [.int r31]) rfl ?_
      refine g_if_ne (pc := 86) X (tgt := 92) dX9_mark_86 rfl (fun c => ?_) (fun c => ?_)
      · have h := br_n c h
        refine g_sub (lv' := [(0, rf V v0), (1, .int v1), (2, .int v2), (3, .int v3)]) [0, 1, 2, 3] rfl ?_
        exact bj_X9_mark_92 Y  h
      · have h := br_y c h
        refine g_ldc (pc := 89) X q_1135 dX9_mark_89 ?_
        obtain ⟨e1, e2⟩ := rt_i h
        exact g_iret (pc := 91) X Y.2.2.1 (Nat.le_of_ble_eq_true rfl) (Nat.le_of_ble_eq_true rfl) e1 e2 dX9_mark_91

def f_X9_mark (v0 : Nat) (v1 : Int32) (v2 : Int32) (v3 : Int32) (w : Wd) : Option (Int32 × Wd) := (bd2 (f_X9_isSheet v1 w) fun r1 w2 =>
 (if r1 = 0 then
 some ((-1000000001), w2)
 else
 (if wK w2 v0 = 9 then
 (bd1 (wR w2 v0 25) fun a5 =>
 (if aK 11 w2 a5 v1 = true then
 (if 0 ≤ (wI w2 a5 (nx v1)) then
 (bd1 (wR w2 v0 26) fun a8 =>
 (if aK 11 w2 a8 v1 = true then
 (bd2 (f_X9_in v2 0 ((wI w2 a8 (nx v1)) - 1) w2) fun r11 w12 =>
 (if r11 = 0 then
 some ((-1000000013), w12)
 else
 (if wK w12 v0 = 9 then
 (bd1 (wR w12 v0 25) fun a15 =>
 (if aK 11 w12 a15 v1 = true then
 (if (wI w12 a15 (nx v1)) = 0 then
 (if v3 = (-1000000005) then
 some ((-1000000012), w12)
 else
 j_X9_mark_60 v0 v1 v2 v3 w12)
 else
 j_X9_mark_60 v0 v1 v2 v3 w12)
 else none))
 else none)))
 else none))
 else
 some ((-1000000011), w2))
 else none))
 else none)))
theorem c_X9_mark {l : Launch} {V : Vt} {v0 : Nat} {v1 : Int32} {v2 : Int32} {v3 : Int32} {w w' : Wd} {r : Int32} (h : f_X9_mark v0 v1 v2 v3 w = some (r, w')) : MetW l V yX9_mark cX9_mark 4 (some .int) { frames := 2, cells := 0, slots := 0, locals := 42 } w [rf V v0, .int v1, .int v2, .int v3] (some (.int r)) w' 0 0 := by
  refine g_start (by decide) (Nat.le_of_ble_eq_true rfl) ?_
  intro t _ hrm X hret hnm
  have Y : Hd_ t V cX9_mark 4 RX9 { frames := 2, cells := 0, slots := 0, locals := 42 } (some .int) "mark" := ⟨X, hrm, hret, hnm⟩
  refine g_as (lv' := [(0, rf V v0), (1, .int v1), (2, .int v2), (3, .int v3)]) (st' := []) rfl rfl ?_
  unfold f_X9_mark at h
  refine g_iload_n (pc := 0) X 1 rfl dX9_mark_0 ?_
  obtain ⟨r1, w2, h3, h⟩ := bd2_i h
  refine g_callS (pc := 1) X mk_X9_isSheet q_1368 q_1367 (c_X9_isSheet h3) rfl rfl (by rw [Y.2.1]; decide)  rfl (rest := []) rfl (Nat.le_of_ble_eq_true rfl) (by rw [Y.2.1]; exact ⟨Nat.le_of_ble_eq_true rfl, Nat.le_of_ble_eq_true rfl⟩) dX9_mark_1 (st' := [.int r1]) rfl ?_
  refine g_if_ne (pc := 4) X (tgt := 10) dX9_mark_4 rfl (fun c => ?_) (fun c => ?_)
  · have h := br_n c h
    refine g_aload_n (pc := 10) X 0 rfl dX9_mark_10 ?_
    obtain ⟨k4, h⟩ := gd_i h
    obtain ⟨a5, e6, h⟩ := bd1_i h
    refine g_getR (pc := 11) X FcX9 k4 25 e6 (by decide) rfl q_1045 dX9_mark_11 ?_
    refine g_iload_n (pc := 14) X 1 rfl dX9_mark_14 ?_
    obtain ⟨k7, h⟩ := gd_i h
    refine g_iald (pc := 15) X k7 dX9_mark_15 ?_
    refine g_if_ge (pc := 16) X (tgt := 22) dX9_mark_16 rfl (fun c => ?_) (fun c => ?_)
    · have h := br_y c h
      refine g_iload_n (pc := 22) X 2 rfl dX9_mark_22 ?_
      refine g_iconst (pc := 23) X (v := 0) dX9_mark_23 rfl ?_
      refine g_aload_n (pc := 24) X 0 rfl dX9_mark_24 ?_
      obtain ⟨a8, e9, h⟩ := bd1_i h
      refine g_getR (pc := 25) X FcX9 k4 26 e9 (by decide) rfl q_1046 dX9_mark_25 ?_
      refine g_iload_n (pc := 28) X 1 rfl dX9_mark_28 ?_
      obtain ⟨k10, h⟩ := gd_i h
      refine g_iald (pc := 29) X k10 dX9_mark_29 ?_
      refine g_iconst (pc := 30) X (v := 1) dX9_mark_30 rfl ?_
      refine g_isub (pc := 31) X dX9_mark_31 ?_
      obtain ⟨r11, w12, h13, h⟩ := bd2_i h
      refine g_callS (pc := 32) X mk_X9_in q_1133 q_1132 (c_X9_in h13) rfl rfl (by rw [Y.2.1]; decide)  rfl (rest := []) rfl (Nat.le_of_ble_eq_true rfl) (by rw [Y.2.1]; exact ⟨Nat.le_of_ble_eq_true rfl, Nat.le_of_ble_eq_true rfl⟩) dX9_mark_32 (st' := [.int r11]) rfl ?_
      refine g_if_ne (pc := 35) X (tgt := 42) dX9_mark_35 rfl (fun c => ?_) (fun c => ?_)
      · have h := br_n c h
        refine g_aload_n (pc := 42) X 0 rfl dX9_mark_42 ?_
        obtain ⟨k14, h⟩ := gd_i h
        obtain ⟨a15, e16, h⟩ := bd1_i h
        refine g_getR (pc := 43) X FcX9 k14 25 e16 (by decide) rfl q_1045 dX9_mark_43 ?_
        refine g_iload_n (pc := 46) X 1 rfl dX9_mark_46 ?_
        obtain ⟨k17, h⟩ := gd_i h
        refine g_iald (pc := 47) X k17 dX9_mark_47 ?_
        refine g_if_ne (pc := 48) X (tgt := 60) dX9_mark_48 rfl (fun c => ?_) (fun c => ?_)
        · have h := br_n c h
          refine g_sub (lv' := [(0, rf V v0), (1, .int v1), (2, .int v2), (3, .int v3)]) [0, 1, 2, 3] rfl ?_
          exact bj_X9_mark_60 Y  h
        · have h := br_y c h
          refine g_iload_n (pc := 51) X 3 rfl dX9_mark_51 ?_
          refine g_ldc (pc := 52) X q_1261 dX9_mark_52 ?_
          refine g_icmp_ne (pc := 54) X (tgt := 60) dX9_mark_54 rfl (fun c => ?_) (fun c => ?_)
          · have h := br_n c h
            refine g_sub (lv' := [(0, rf V v0), (1, .int v1), (2, .int v2), (3, .int v3)]) [0, 1, 2, 3] rfl ?_
            exact bj_X9_mark_60 Y  h
          · have h := br_y c h
            refine g_ldc (pc := 57) X q_1214 dX9_mark_57 ?_
            obtain ⟨e1, e2⟩ := rt_i h
            exact g_iret (pc := 59) X Y.2.2.1 (Nat.le_of_ble_eq_true rfl) (Nat.le_of_ble_eq_true rfl) e1 e2 dX9_mark_59
      · have h := br_y c h
        refine g_ldcw (pc := 38) X q_1451 dX9_mark_38 ?_
        obtain ⟨e1, e2⟩ := rt_i h
        exact g_iret (pc := 41) X Y.2.2.1 (Nat.le_of_ble_eq_true rfl) (Nat.le_of_ble_eq_true rfl) e1 e2 dX9_mark_41
    · have h := br_n c h
      refine g_ldc (pc := 19) X q_1370 dX9_mark_19 ?_
      obtain ⟨e1, e2⟩ := rt_i h
      exact g_iret (pc := 21) X Y.2.2.1 (Nat.le_of_ble_eq_true rfl) (Nat.le_of_ble_eq_true rfl) e1 e2 dX9_mark_21
  · have h := br_y c h
    refine g_ldc (pc := 7) X q_1135 dX9_mark_7 ?_
    obtain ⟨e1, e2⟩ := rt_i h
    exact g_iret (pc := 9) X Y.2.2.1 (Nat.le_of_ble_eq_true rfl) (Nat.le_of_ble_eq_true rfl) e1 e2 dX9_mark_9

def j_X9_pour_86 (kk26 : Nat → Int32 → Int32 → Int32 → Wd → Option (Int32 × Wd)) (v0 : Nat) (v1 : Int32) (v2 : Int32) (v3 : Int32) (s0 : Int32) (w : Wd) : Option (Int32 × Wd) := (if wK w v0 = 9 then
 (bd2 (f_X9_becomes v0 (12 + v3) s0 w) fun r24 w25 =>
 (lb_ (v2 + (if r24 = s0 then 0 else 1 : Int32)) fun x27 =>
 (lb_ (v3 + 1) fun x29 =>
 kk26 v0 v1 x27 x29 w25)))
 else none)
theorem bj_X9_pour_86 {t : Ct} {V : Vt} {r : Int32} {w' : Wd} {kk26 : Nat → Int32 → Int32 → Int32 → Wd → Option (Int32 × Wd)} (Y : Hd_ t V cX9_pour 6 RX9 { frames := 2, cells := 0, slots := 0, locals := 42 } (some .int) "pour") (hk26 : ∀ (u0 : Nat) (u1 : Int32) (u2 : Int32) (u3 : Int32) (w : Wd), kk26 u0 u1 u2 u3 w = some (r, w') → Gd t V 6 0 0 (Qe t V (some (.int r)) w' 0 0) 26 [(0, rf V u0), (1, .int u1), (2, .int u2), (3, .int u3)] [] w) {v0 : Nat} {v1 : Int32} {v2 : Int32} {v3 : Int32} {s0 : Int32} {w : Wd} (h : j_X9_pour_86 kk26 v0 v1 v2 v3 s0 w = some (r, w')) : Gd t V 6 0 0 (Qe t V (some (.int r)) w' 0 0) 86 [(0, rf V v0), (1, .int v1), (2, .int v2), (3, .int v3)] [.int s0] w := by
  have X := Y.1
  unfold j_X9_pour_86 at h
  refine g_istore (pc := 86) X (lv' := [(5, .int s0), (0, rf V v0), (1, .int v1), (2, .int v2), (3, .int v3)]) dX9_pour_86 (by decide) rfl ?_
  refine g_iload_n (pc := 88) X 3 rfl dX9_pour_88 ?_
  refine g_aload_n (pc := 89) X 1 rfl dX9_pour_89 ?_
  refine g_bipush (pc := 90) X (v := 12) dX9_pour_90 rfl ?_
  refine g_iload_n (pc := 92) X 4 rfl dX9_pour_92 ?_
  refine g_iadd (pc := 93) X dX9_pour_93 ?_
  refine g_iload (pc := 94) X 0 rfl dX9_pour_94 ?_
  obtain ⟨k23, h⟩ := gd_i h
  obtain ⟨r24, w25, h26, h⟩ := bd2_i h
  refine g_callV (pc := 96) X FcX9 k23 mk_X9_becomes q_1222 q_37 q_1220 (c_X9_becomes h26) rfl rfl (by rw [Y.2.1]; decide)  rfl (rest := [.int v2]) rfl (Nat.le_of_ble_eq_true rfl) (by rw [Y.2.1]; exact ⟨Nat.le_of_ble_eq_true rfl, Nat.le_of_ble_eq_true rfl⟩) dX9_pour_96 (st' := [.int r24, .int v2]) rfl ?_
  refine g_iload (pc := 99) X 0 rfl dX9_pour_99 ?_
  have kJ : Gd t V 6 0 0 (Qe t V (some (.int r)) w' 0 0) 109 [(5, .int s0), (0, rf V v0), (1, .int v1), (2, .int v2), (3, .int v3)] [.int (if r24 = s0 then 0 else 1 : Int32), .int v2] w25 := by
    refine g_iadd (pc := 109) X dX9_pour_109 ?_
    obtain ⟨x27, e28, h⟩ := lb_i h
    refine g_top e28 ?_
    refine g_istore_n (pc := 110) X (lv' := [(2, .int x27), (5, .int s0), (0, rf V v0), (1, .int v1), (3, .int v3)]) dX9_pour_110 (by decide) rfl ?_
    obtain ⟨x29, e30, h⟩ := lb_i h
    refine g_iinc (pc := 111) X 4 rfl dX9_pour_111 (v := x29) e30.symm (by decide) (lv' := [(3, .int x29), (2, .int x27), (5, .int s0), (0, rf V v0), (1, .int v1)]) rfl ?_
    refine g_goto (pc := 114) X (tgt := 26) dX9_pour_114 rfl ?_
    refine g_sub (lv' := [(0, rf V v0), (1, .int v1), (2, .int x27), (3, .int x29)]) [3, 4, 1, 0] rfl ?_
    exact hk26 _ _ _ _ _ h
  refine g_icmp_ne (pc := 101) X (tgt := 108) dX9_pour_101 rfl (fun c0 => ?_) (fun c0 => ?_)
  · refine g_iconst (pc := 108) X (v := 1) dX9_pour_108 rfl ?_
    exact g_top (by rw [if_neg c0]) kJ
  · refine g_iconst (pc := 104) X (v := 0) dX9_pour_104 rfl ?_
    refine g_goto (pc := 105) X (tgt := 109) dX9_pour_105 rfl ?_
    exact g_top (by rw [if_pos c0]) kJ

def L_X9_pour_26  (n : Nat) (v0 : Nat) (v1 : Int32) (v2 : Int32) (v3 : Int32) (w : Wd) : Option (Int32 × Wd) := match n with
  | 0 => none
  | n + 1 => (if wK w v0 = 9 then
 (bd1 (wR w v0 26) fun a9 =>
 (if aK 11 w a9 v1 = true then
 (if (wI w a9 (nx v1)) ≤ v3 then
 some (v2, w)
 else
 (bd1 (wR w v0 0) fun a12 =>
 (if aK 11 w a12 2 = true then
 (if (wI w a12 (nx 2)) ≤ v3 then
 some (v2, w)
 else
 (bd1 (wR w v0 27) fun a15 =>
 (if aK 11 w a15 ((24 * v1) + v3) = true then
 (lb_ (wI w a15 (nx ((24 * v1) + v3))) fun x18 =>
 (if x18 = (-1000000005) then
 (bd1 (wR w v0 0) fun a31 =>
 (if aK 11 w a31 (12 + v3) = true then
 j_X9_pour_86 (L_X9_pour_26 n) v0 v1 v2 v3 (wI w a31 (nx (12 + v3))) w
 else none))
 else
 (bd2 (f_X9_within x18 0 99 w) fun r20 w21 =>
 j_X9_pour_86 (L_X9_pour_26 n) v0 v1 v2 v3 r20 w21)))
 else none)))
 else none)))
 else none))
 else none)
theorem bL_X9_pour_26 {t : Ct} {V : Vt} {r : Int32} {w' : Wd} (Y : Hd_ t V cX9_pour 6 RX9 { frames := 2, cells := 0, slots := 0, locals := 42 } (some .int) "pour") : ∀ {n : Nat} {v0 : Nat} {v1 : Int32} {v2 : Int32} {v3 : Int32} {w : Wd}, L_X9_pour_26  n v0 v1 v2 v3 w = some (r, w') → Gd t V 6 0 0 (Qe t V (some (.int r)) w' 0 0) 26 [(0, rf V v0), (1, .int v1), (2, .int v2), (3, .int v3)] [] w := by
  have X := Y.1
  intro n
  induction n with
  | zero => intro v0 v1 v2 v3 w h; cases h
  | succ n ih0 =>
    have ih : ∀ (v0 : Nat) (v1 : Int32) (v2 : Int32) (v3 : Int32) (w : Wd), L_X9_pour_26  n v0 v1 v2 v3 w = some (r, w') → Gd t V 6 0 0 (Qe t V (some (.int r)) w' 0 0) 26 [(0, rf V v0), (1, .int v1), (2, .int v2), (3, .int v3)] [] w := fun v0 v1 v2 v3 w h => ih0 h
    clear ih0
    intro v0 v1 v2 v3 w h
    unfold L_X9_pour_26 at h
    refine g_iload_n (pc := 26) X 3 rfl dX9_pour_26 ?_
    refine g_aload_n (pc := 27) X 0 rfl dX9_pour_27 ?_
    obtain ⟨k8, h⟩ := gd_i h
    obtain ⟨a9, e10, h⟩ := bd1_i h
    refine g_getR (pc := 28) X FcX9 k8 26 e10 (by decide) rfl q_1046 dX9_pour_28 ?_
    refine g_iload_n (pc := 31) X 1 rfl dX9_pour_31 ?_
    obtain ⟨k11, h⟩ := gd_i h
    refine g_iald (pc := 32) X k11 dX9_pour_32 ?_
    refine g_icmp_ge (pc := 33) X (tgt := 117) dX9_pour_33 rfl (fun c => ?_) (fun c => ?_)
    · have h := br_y c h
      refine g_iload_n (pc := 117) X 2 rfl dX9_pour_117 ?_
      obtain ⟨e1, e2⟩ := rt_i h
      exact g_iret (pc := 118) X Y.2.2.1 (Nat.le_of_ble_eq_true rfl) (Nat.le_of_ble_eq_true rfl) e1 e2 dX9_pour_118
    · have h := br_n c h
      refine g_iload_n (pc := 36) X 3 rfl dX9_pour_36 ?_
      refine g_aload_n (pc := 37) X 0 rfl dX9_pour_37 ?_
      obtain ⟨a12, e13, h⟩ := bd1_i h
      refine g_getR (pc := 38) X FcX9 k8 0 e13 (by decide) rfl q_1020 dX9_pour_38 ?_
      refine g_iconst (pc := 41) X (v := 2) dX9_pour_41 rfl ?_
      obtain ⟨k14, h⟩ := gd_i h
      refine g_iald (pc := 42) X k14 dX9_pour_42 ?_
      refine g_icmp_ge (pc := 43) X (tgt := 117) dX9_pour_43 rfl (fun c => ?_) (fun c => ?_)
      · have h := br_y c h
        refine g_iload_n (pc := 117) X 2 rfl dX9_pour_117 ?_
        obtain ⟨e1, e2⟩ := rt_i h
        exact g_iret (pc := 118) X Y.2.2.1 (Nat.le_of_ble_eq_true rfl) (Nat.le_of_ble_eq_true rfl) e1 e2 dX9_pour_118
      · have h := br_n c h
        refine g_aload_n (pc := 46) X 0 rfl dX9_pour_46 ?_
        obtain ⟨a15, e16, h⟩ := bd1_i h
        refine g_getR (pc := 47) X FcX9 k8 27 e16 (by decide) rfl q_1047 dX9_pour_47 ?_
        refine g_bipush (pc := 50) X (v := 24) dX9_pour_50 rfl ?_
        refine g_iload_n (pc := 52) X 1 rfl dX9_pour_52 ?_
        refine g_imul (pc := 53) X dX9_pour_53 ?_
        refine g_iload_n (pc := 54) X 3 rfl dX9_pour_54 ?_
        refine g_iadd (pc := 55) X dX9_pour_55 ?_
        obtain ⟨k17, h⟩ := gd_i h
        refine g_iald (pc := 56) X k17 dX9_pour_56 ?_
        obtain ⟨x18, e19, h⟩ := lb_i h
        refine g_top e19 ?_
        refine g_istore (pc := 57) X (lv' := [(4, .int x18), (0, rf V v0), (1, .int v1), (2, .int v2), (3, .int v3)]) dX9_pour_57 (by decide) rfl ?_
        refine g_iload (pc := 59) X 0 rfl dX9_pour_59 ?_
        refine g_ldc (pc := 61) X q_1261 dX9_pour_61 ?_
        refine g_icmp_ne (pc := 63) X (tgt := 78) dX9_pour_63 rfl (fun c => ?_) (fun c => ?_)
        · have h := br_n c h
          refine g_iload (pc := 78) X 0 rfl dX9_pour_78 ?_
          refine g_iconst (pc := 80) X (v := 0) dX9_pour_80 rfl ?_
          refine g_bipush (pc := 81) X (v := 99) dX9_pour_81 rfl ?_
          obtain ⟨r20, w21, h22, h⟩ := bd2_i h
          refine g_callS (pc := 83) X mk_X9_within q_1248 q_1247 (c_X9_within h22) rfl rfl (by rw [Y.2.1]; decide)  rfl (rest := []) rfl (Nat.le_of_ble_eq_true rfl) (by rw [Y.2.1]; exact ⟨Nat.le_of_ble_eq_true rfl, Nat.le_of_ble_eq_true rfl⟩) dX9_pour_83 (st' := [.int r20]) rfl ?_
          refine g_sub (lv' := [(0, rf V v0), (1, .int v1), (2, .int v2), (3, .int v3)]) [1, 2, 3, 4] rfl ?_
          exact bj_X9_pour_86 Y (ih) h
        · have h := br_y c h
          refine g_aload_n (pc := 66) X 1 rfl dX9_pour_66 ?_
          obtain ⟨a31, e32, h⟩ := bd1_i h
          refine g_getR (pc := 67) X FcX9 k8 0 e32 (by decide) rfl q_1020 dX9_pour_67 ?_
          refine g_bipush (pc := 70) X (v := 12) dX9_pour_70 rfl ?_
          refine g_iload_n (pc := 72) X 4 rfl dX9_pour_72 ?_
          refine g_iadd (pc := 73) X dX9_pour_73 ?_
          obtain ⟨k33, h⟩ := gd_i h
          refine g_iald (pc := 74) X k33 dX9_pour_74 ?_
          refine g_goto (pc := 75) X (tgt := 86) dX9_pour_75 rfl ?_
          refine g_sub (lv' := [(0, rf V v0), (1, .int v1), (2, .int v2), (3, .int v3)]) [1, 2, 3, 4] rfl ?_
          exact bj_X9_pour_86 Y (ih) h

def f_X9_pour (v0 : Nat) (v1 : Int32) (w : Wd) : Option (Int32 × Wd) := (bd2 (f_X9_isSheet v1 w) fun r1 w2 =>
 (if r1 = 0 then
 some ((-1000000001), w2)
 else
 (if wK w2 v0 = 9 then
 (bd1 (wR w2 v0 25) fun a5 =>
 (if aK 11 w2 a5 v1 = true then
 (if 0 ≤ (wI w2 a5 (nx v1)) then
 L_X9_pour_26 FU v0 v1 0 0 w2
 else
 some ((-1000000011), w2))
 else none))
 else none)))
theorem c_X9_pour {l : Launch} {V : Vt} {v0 : Nat} {v1 : Int32} {w w' : Wd} {r : Int32} (h : f_X9_pour v0 v1 w = some (r, w')) : MetW l V yX9_pour cX9_pour 6 (some .int) { frames := 2, cells := 0, slots := 0, locals := 42 } w [rf V v0, .int v1] (some (.int r)) w' 0 0 := by
  refine g_start (by decide) (Nat.le_of_ble_eq_true rfl) ?_
  intro t _ hrm X hret hnm
  have Y : Hd_ t V cX9_pour 6 RX9 { frames := 2, cells := 0, slots := 0, locals := 42 } (some .int) "pour" := ⟨X, hrm, hret, hnm⟩
  refine g_as (lv' := [(0, rf V v0), (1, .int v1)]) (st' := []) rfl rfl ?_
  unfold f_X9_pour at h
  refine g_iload_n (pc := 0) X 1 rfl dX9_pour_0 ?_
  obtain ⟨r1, w2, h3, h⟩ := bd2_i h
  refine g_callS (pc := 1) X mk_X9_isSheet q_1368 q_1367 (c_X9_isSheet h3) rfl rfl (by rw [Y.2.1]; decide)  rfl (rest := []) rfl (Nat.le_of_ble_eq_true rfl) (by rw [Y.2.1]; exact ⟨Nat.le_of_ble_eq_true rfl, Nat.le_of_ble_eq_true rfl⟩) dX9_pour_1 (st' := [.int r1]) rfl ?_
  refine g_if_ne (pc := 4) X (tgt := 10) dX9_pour_4 rfl (fun c => ?_) (fun c => ?_)
  · have h := br_n c h
    refine g_aload_n (pc := 10) X 0 rfl dX9_pour_10 ?_
    obtain ⟨k4, h⟩ := gd_i h
    obtain ⟨a5, e6, h⟩ := bd1_i h
    refine g_getR (pc := 11) X FcX9 k4 25 e6 (by decide) rfl q_1045 dX9_pour_11 ?_
    refine g_iload_n (pc := 14) X 1 rfl dX9_pour_14 ?_
    obtain ⟨k7, h⟩ := gd_i h
    refine g_iald (pc := 15) X k7 dX9_pour_15 ?_
    refine g_if_ge (pc := 16) X (tgt := 22) dX9_pour_16 rfl (fun c => ?_) (fun c => ?_)
    · have h := br_y c h
      refine g_iconst (pc := 22) X (v := 0) dX9_pour_22 rfl ?_
      refine g_istore_n (pc := 23) X (lv' := [(2, .int 0), (0, rf V v0), (1, .int v1)]) dX9_pour_23 (by decide) rfl ?_
      refine g_iconst (pc := 24) X (v := 0) dX9_pour_24 rfl ?_
      refine g_istore_n (pc := 25) X (lv' := [(3, .int 0), (2, .int 0), (0, rf V v0), (1, .int v1)]) dX9_pour_25 (by decide) rfl ?_
      refine g_sub (lv' := [(0, rf V v0), (1, .int v1), (2, .int 0), (3, .int 0)]) [2, 3, 1, 0] rfl ?_
      exact bL_X9_pour_26 Y  h
    · have h := br_n c h
      refine g_ldc (pc := 19) X q_1370 dX9_pour_19 ?_
      obtain ⟨e1, e2⟩ := rt_i h
      exact g_iret (pc := 21) X Y.2.2.1 (Nat.le_of_ble_eq_true rfl) (Nat.le_of_ble_eq_true rfl) e1 e2 dX9_pour_21
  · have h := br_y c h
    refine g_ldc (pc := 7) X q_1135 dX9_pour_7 ?_
    obtain ⟨e1, e2⟩ := rt_i h
    exact g_iret (pc := 9) X Y.2.2.1 (Nat.le_of_ble_eq_true rfl) (Nat.le_of_ble_eq_true rfl) e1 e2 dX9_pour_9

def L_X9_reads_24  (n : Nat) (v0 : Nat) (v1 : Int32) (v2 : Int32) (w : Wd) : Option (Int32 × Wd) := match n with
  | 0 => none
  | n + 1 => (if wK w v0 = 9 then
 (bd1 (wR w v0 26) fun a9 =>
 (if aK 11 w a9 v1 = true then
 (if (wI w a9 (nx v1)) ≤ v2 then
 some ((-1000000005), w)
 else
 (bd1 (wR w v0 27) fun a12 =>
 (if aK 11 w a12 ((24 * v1) + v2) = true then
 (lb_ (wI w a12 (nx ((24 * v1) + v2))) fun x15 =>
 (if x15 = (-1000000005) then
 (lb_ (v2 + 1) fun x17 =>
 L_X9_reads_24 n v0 v1 x17 w)
 else
 (bd2 (f_X9_isSitter v0 v2 w) fun r19 w20 =>
 (if r19 = 0 then
 some (v2, w20)
 else
 (if wK w20 v0 = 9 then
 (bd2 (f_X9_of v0 v2 2 w20) fun r23 w24 =>
 (if x15 = r23 then
 (lb_ (v2 + 1) fun x26 =>
 L_X9_reads_24 n v0 v1 x26 w24)
 else
 some (v2, w24)))
 else none)))))
 else none)))
 else none))
 else none)
theorem bL_X9_reads_24 {t : Ct} {V : Vt} {r : Int32} {w' : Wd} (Y : Hd_ t V cX9_reads 4 RX9 { frames := 2, cells := 0, slots := 0, locals := 43 } (some .int) "reads") : ∀ {n : Nat} {v0 : Nat} {v1 : Int32} {v2 : Int32} {w : Wd}, L_X9_reads_24  n v0 v1 v2 w = some (r, w') → Gd t V 4 0 0 (Qe t V (some (.int r)) w' 0 0) 24 [(0, rf V v0), (1, .int v1), (2, .int v2)] [] w := by
  have X := Y.1
  intro n
  induction n with
  | zero => intro v0 v1 v2 w h; cases h
  | succ n ih0 =>
    have ih : ∀ (v0 : Nat) (v1 : Int32) (v2 : Int32) (w : Wd), L_X9_reads_24  n v0 v1 v2 w = some (r, w') → Gd t V 4 0 0 (Qe t V (some (.int r)) w' 0 0) 24 [(0, rf V v0), (1, .int v1), (2, .int v2)] [] w := fun v0 v1 v2 w h => ih0 h
    clear ih0
    intro v0 v1 v2 w h
    unfold L_X9_reads_24 at h
    refine g_iload_n (pc := 24) X 2 rfl dX9_reads_24 ?_
    refine g_aload_n (pc := 25) X 0 rfl dX9_reads_25 ?_
    obtain ⟨k8, h⟩ := gd_i h
    obtain ⟨a9, e10, h⟩ := bd1_i h
    refine g_getR (pc := 26) X FcX9 k8 26 e10 (by decide) rfl q_1046 dX9_reads_26 ?_
    refine g_iload_n (pc := 29) X 1 rfl dX9_reads_29 ?_
    obtain ⟨k11, h⟩ := gd_i h
    refine g_iald (pc := 30) X k11 dX9_reads_30 ?_
    refine g_icmp_ge (pc := 31) X (tgt := 78) dX9_reads_31 rfl (fun c => ?_) (fun c => ?_)
    · have h := br_y c h
      refine g_ldc (pc := 78) X q_1261 dX9_reads_78 ?_
      obtain ⟨e1, e2⟩ := rt_i h
      exact g_iret (pc := 80) X Y.2.2.1 (Nat.le_of_ble_eq_true rfl) (Nat.le_of_ble_eq_true rfl) e1 e2 dX9_reads_80
    · have h := br_n c h
      refine g_aload_n (pc := 34) X 0 rfl dX9_reads_34 ?_
      obtain ⟨a12, e13, h⟩ := bd1_i h
      refine g_getR (pc := 35) X FcX9 k8 27 e13 (by decide) rfl q_1047 dX9_reads_35 ?_
      refine g_bipush (pc := 38) X (v := 24) dX9_reads_38 rfl ?_
      refine g_iload_n (pc := 40) X 1 rfl dX9_reads_40 ?_
      refine g_imul (pc := 41) X dX9_reads_41 ?_
      refine g_iload_n (pc := 42) X 2 rfl dX9_reads_42 ?_
      refine g_iadd (pc := 43) X dX9_reads_43 ?_
      obtain ⟨k14, h⟩ := gd_i h
      refine g_iald (pc := 44) X k14 dX9_reads_44 ?_
      obtain ⟨x15, e16, h⟩ := lb_i h
      refine g_top e16 ?_
      refine g_istore_n (pc := 45) X (lv' := [(3, .int x15), (0, rf V v0), (1, .int v1), (2, .int v2)]) dX9_reads_45 (by decide) rfl ?_
      refine g_iload_n (pc := 46) X 0 rfl dX9_reads_46 ?_
      refine g_ldc (pc := 47) X q_1261 dX9_reads_47 ?_
      refine g_icmp_eq (pc := 49) X (tgt := 72) dX9_reads_49 rfl (fun c => ?_) (fun c => ?_)
      · have h := br_y c h
        obtain ⟨x17, e18, h⟩ := lb_i h
        refine g_iinc (pc := 72) X 3 rfl dX9_reads_72 (v := x17) e18.symm (by decide) (lv' := [(2, .int x17), (3, .int x15), (0, rf V v0), (1, .int v1)]) rfl ?_
        refine g_goto (pc := 75) X (tgt := 24) dX9_reads_75 rfl ?_
        refine g_sub (lv' := [(0, rf V v0), (1, .int v1), (2, .int x17)]) [2, 3, 0] rfl ?_
        exact ih _ _ _ _ h
      · have h := br_n c h
        refine g_aload_n (pc := 52) X 1 rfl dX9_reads_52 ?_
        refine g_iload_n (pc := 53) X 3 rfl dX9_reads_53 ?_
        obtain ⟨r19, w20, h21, h⟩ := bd2_i h
        refine g_callV (pc := 54) X FcX9 k8 mk_X9_isSitter q_1163 q_27 q_1161 (c_X9_isSitter h21) rfl rfl (by rw [Y.2.1]; decide)  rfl (rest := []) rfl (Nat.le_of_ble_eq_true rfl) (by rw [Y.2.1]; exact ⟨Nat.le_of_ble_eq_true rfl, Nat.le_of_ble_eq_true rfl⟩) dX9_reads_54 (st' := [.int r19]) rfl ?_
        refine g_if_eq (pc := 57) X (tgt := 70) dX9_reads_57 rfl (fun c => ?_) (fun c => ?_)
        · have h := br_y c h
          refine g_iload_n (pc := 70) X 3 rfl dX9_reads_70 ?_
          obtain ⟨e1, e2⟩ := rt_i h
          exact g_iret (pc := 71) X Y.2.2.1 (Nat.le_of_ble_eq_true rfl) (Nat.le_of_ble_eq_true rfl) e1 e2 dX9_reads_71
        · have h := br_n c h
          refine g_iload_n (pc := 60) X 0 rfl dX9_reads_60 ?_
          refine g_aload_n (pc := 61) X 1 rfl dX9_reads_61 ?_
          refine g_iload_n (pc := 62) X 3 rfl dX9_reads_62 ?_
          refine g_iconst (pc := 63) X (v := 2) dX9_reads_63 rfl ?_
          obtain ⟨k22, h⟩ := gd_i h
          obtain ⟨r23, w24, h25, h⟩ := bd2_i h
          refine g_callV (pc := 64) X FcX9 k22 mk_X9_of q_1142 q_24 q_1140 (c_X9_of h25) rfl rfl (by rw [Y.2.1]; decide)  rfl (rest := [.int x15]) rfl (Nat.le_of_ble_eq_true rfl) (by rw [Y.2.1]; exact ⟨Nat.le_of_ble_eq_true rfl, Nat.le_of_ble_eq_true rfl⟩) dX9_reads_64 (st' := [.int r23, .int x15]) rfl ?_
          refine g_icmp_eq (pc := 67) X (tgt := 72) dX9_reads_67 rfl (fun c => ?_) (fun c => ?_)
          · have h := br_y c h
            obtain ⟨x26, e27, h⟩ := lb_i h
            refine g_iinc (pc := 72) X 3 rfl dX9_reads_72 (v := x26) e27.symm (by decide) (lv' := [(2, .int x26), (3, .int x15), (0, rf V v0), (1, .int v1)]) rfl ?_
            refine g_goto (pc := 75) X (tgt := 24) dX9_reads_75 rfl ?_
            refine g_sub (lv' := [(0, rf V v0), (1, .int v1), (2, .int x26)]) [2, 3, 0] rfl ?_
            exact ih _ _ _ _ h
          · have h := br_n c h
            refine g_iload_n (pc := 70) X 3 rfl dX9_reads_70 ?_
            obtain ⟨e1, e2⟩ := rt_i h
            exact g_iret (pc := 71) X Y.2.2.1 (Nat.le_of_ble_eq_true rfl) (Nat.le_of_ble_eq_true rfl) e1 e2 dX9_reads_71

def f_X9_reads (v0 : Nat) (v1 : Int32) (w : Wd) : Option (Int32 × Wd) := (bd2 (f_X9_isSheet v1 w) fun r1 w2 =>
 (if r1 = 0 then
 some ((-1000000001), w2)
 else
 (if wK w2 v0 = 9 then
 (bd1 (wR w2 v0 25) fun a5 =>
 (if aK 11 w2 a5 v1 = true then
 (if 0 ≤ (wI w2 a5 (nx v1)) then
 L_X9_reads_24 FU v0 v1 0 w2
 else
 some ((-1000000011), w2))
 else none))
 else none)))
theorem c_X9_reads {l : Launch} {V : Vt} {v0 : Nat} {v1 : Int32} {w w' : Wd} {r : Int32} (h : f_X9_reads v0 v1 w = some (r, w')) : MetW l V yX9_reads cX9_reads 4 (some .int) { frames := 2, cells := 0, slots := 0, locals := 43 } w [rf V v0, .int v1] (some (.int r)) w' 0 0 := by
  refine g_start (by decide) (Nat.le_of_ble_eq_true rfl) ?_
  intro t _ hrm X hret hnm
  have Y : Hd_ t V cX9_reads 4 RX9 { frames := 2, cells := 0, slots := 0, locals := 43 } (some .int) "reads" := ⟨X, hrm, hret, hnm⟩
  refine g_as (lv' := [(0, rf V v0), (1, .int v1)]) (st' := []) rfl rfl ?_
  unfold f_X9_reads at h
  refine g_iload_n (pc := 0) X 1 rfl dX9_reads_0 ?_
  obtain ⟨r1, w2, h3, h⟩ := bd2_i h
  refine g_callS (pc := 1) X mk_X9_isSheet q_1368 q_1367 (c_X9_isSheet h3) rfl rfl (by rw [Y.2.1]; decide)  rfl (rest := []) rfl (Nat.le_of_ble_eq_true rfl) (by rw [Y.2.1]; exact ⟨Nat.le_of_ble_eq_true rfl, Nat.le_of_ble_eq_true rfl⟩) dX9_reads_1 (st' := [.int r1]) rfl ?_
  refine g_if_ne (pc := 4) X (tgt := 10) dX9_reads_4 rfl (fun c => ?_) (fun c => ?_)
  · have h := br_n c h
    refine g_aload_n (pc := 10) X 0 rfl dX9_reads_10 ?_
    obtain ⟨k4, h⟩ := gd_i h
    obtain ⟨a5, e6, h⟩ := bd1_i h
    refine g_getR (pc := 11) X FcX9 k4 25 e6 (by decide) rfl q_1045 dX9_reads_11 ?_
    refine g_iload_n (pc := 14) X 1 rfl dX9_reads_14 ?_
    obtain ⟨k7, h⟩ := gd_i h
    refine g_iald (pc := 15) X k7 dX9_reads_15 ?_
    refine g_if_ge (pc := 16) X (tgt := 22) dX9_reads_16 rfl (fun c => ?_) (fun c => ?_)
    · have h := br_y c h
      refine g_iconst (pc := 22) X (v := 0) dX9_reads_22 rfl ?_
      refine g_istore_n (pc := 23) X (lv' := [(2, .int 0), (0, rf V v0), (1, .int v1)]) dX9_reads_23 (by decide) rfl ?_
      refine g_sub (lv' := [(0, rf V v0), (1, .int v1), (2, .int 0)]) [1, 2, 0] rfl ?_
      exact bL_X9_reads_24 Y  h
    · have h := br_n c h
      refine g_ldc (pc := 19) X q_1370 dX9_reads_19 ?_
      obtain ⟨e1, e2⟩ := rt_i h
      exact g_iret (pc := 21) X Y.2.2.1 (Nat.le_of_ble_eq_true rfl) (Nat.le_of_ble_eq_true rfl) e1 e2 dX9_reads_21
  · have h := br_y c h
    refine g_ldc (pc := 7) X q_1135 dX9_reads_7 ?_
    obtain ⟨e1, e2⟩ := rt_i h
    exact g_iret (pc := 9) X Y.2.2.1 (Nat.le_of_ble_eq_true rfl) (Nat.le_of_ble_eq_true rfl) e1 e2 dX9_reads_9

def L_X9_copy_141  (n : Nat) (v0 : Nat) (v3 : Int32) (v4 : Int32) (v5 : Int32) (v6 : Int32) (w : Wd) : Option (Int32 × Wd) := match n with
  | 0 => none
  | n + 1 => (if v5 ≤ v6 then
 some (v5, w)
 else
 (if wK w v0 = 9 then
 (bd1 (wR w v0 27) fun a27 =>
 (bd1 (wR w v0 32) fun a29 =>
 (if aK 11 w a29 v6 = true then
 (if aK 11 w a27 (((24 * v3) + v4) + v6) = true then
 (lb_ (sI w a27 (nx (((24 * v3) + v4) + v6)) (wI w a29 (nx v6))) fun w33 =>
 (lb_ (v6 + 1) fun x35 =>
 L_X9_copy_141 n v0 v3 v4 v5 x35 w33))
 else none)
 else none)))
 else none))
theorem bL_X9_copy_141 {t : Ct} {V : Vt} {r : Int32} {w' : Wd} (Y : Hd_ t V cX9_copy 7 RX9 { frames := 2, cells := 0, slots := 0, locals := 42 } (some .int) "copy") : ∀ {n : Nat} {v0 : Nat} {v3 : Int32} {v4 : Int32} {v5 : Int32} {v6 : Int32} {w : Wd}, L_X9_copy_141  n v0 v3 v4 v5 v6 w = some (r, w') → Gd t V 7 0 0 (Qe t V (some (.int r)) w' 0 0) 141 [(0, rf V v0), (3, .int v3), (4, .int v4), (5, .int v5), (6, .int v6)] [] w := by
  have X := Y.1
  intro n
  induction n with
  | zero => intro v0 v3 v4 v5 v6 w h; cases h
  | succ n ih0 =>
    have ih : ∀ (v0 : Nat) (v3 : Int32) (v4 : Int32) (v5 : Int32) (v6 : Int32) (w : Wd), L_X9_copy_141  n v0 v3 v4 v5 v6 w = some (r, w') → Gd t V 7 0 0 (Qe t V (some (.int r)) w' 0 0) 141 [(0, rf V v0), (3, .int v3), (4, .int v4), (5, .int v5), (6, .int v6)] [] w := fun v0 v3 v4 v5 v6 w h => ih0 h
    clear ih0
    intro v0 v3 v4 v5 v6 w h
    unfold L_X9_copy_141 at h
    refine g_iload (pc := 141) X 4 rfl dX9_copy_141 ?_
    refine g_iload (pc := 143) X 3 rfl dX9_copy_143 ?_
    refine g_icmp_ge (pc := 145) X (tgt := 176) dX9_copy_145 rfl (fun c => ?_) (fun c => ?_)
    · have h := br_y c h
      refine g_iload (pc := 176) X 3 rfl dX9_copy_176 ?_
      obtain ⟨e1, e2⟩ := rt_i h
      exact g_iret (pc := 178) X Y.2.2.1 (Nat.le_of_ble_eq_true rfl) (Nat.le_of_ble_eq_true rfl) e1 e2 dX9_copy_178
    · have h := br_n c h
      refine g_aload_n (pc := 148) X 0 rfl dX9_copy_148 ?_
      obtain ⟨k26, h⟩ := gd_i h
      obtain ⟨a27, e28, h⟩ := bd1_i h
      refine g_getR (pc := 149) X FcX9 k26 27 e28 (by decide) rfl q_1047 dX9_copy_149 ?_
      refine g_bipush (pc := 152) X (v := 24) dX9_copy_152 rfl ?_
      refine g_iload_n (pc := 154) X 1 rfl dX9_copy_154 ?_
      refine g_imul (pc := 155) X dX9_copy_155 ?_
      refine g_iload (pc := 156) X 2 rfl dX9_copy_156 ?_
      refine g_iadd (pc := 158) X dX9_copy_158 ?_
      refine g_iload (pc := 159) X 4 rfl dX9_copy_159 ?_
      refine g_iadd (pc := 161) X dX9_copy_161 ?_
      refine g_aload_n (pc := 162) X 0 rfl dX9_copy_162 ?_
      obtain ⟨a29, e30, h⟩ := bd1_i h
      refine g_getR (pc := 163) X FcX9 k26 32 e30 (by decide) rfl q_1052 dX9_copy_163 ?_
      refine g_iload (pc := 166) X 4 rfl dX9_copy_166 ?_
      obtain ⟨k31, h⟩ := gd_i h
      refine g_iald (pc := 168) X k31 dX9_copy_168 ?_
      obtain ⟨k32, h⟩ := gd_i h
      refine g_iast (pc := 169) X k32 dX9_copy_169 ?_
      obtain ⟨w33, e34, h⟩ := lb_i h
      refine g_w e34 ?_
      obtain ⟨x35, e36, h⟩ := lb_i h
      refine g_iinc (pc := 170) X 4 rfl dX9_copy_170 (v := x35) e36.symm (by decide) (lv' := [(6, .int x35), (0, rf V v0), (3, .int v3), (4, .int v4), (5, .int v5)]) rfl ?_
      refine g_goto (pc := 173) X (tgt := 141) dX9_copy_173 rfl ?_
      refine g_sub (lv' := [(0, rf V v0), (3, .int v3), (4, .int v4), (5, .int v5), (6, .int x35)]) [1, 2, 3, 4, 0] rfl ?_
      exact ih _ _ _ _ _ _ h

def L_X9_copy_104  (n : Nat) (v0 : Nat) (v1 : Int32) (v2 : Int32) (v3 : Int32) (v4 : Int32) (v5 : Int32) (v6 : Int32) (w : Wd) : Option (Int32 × Wd) := match n with
  | 0 => none
  | n + 1 => (if v5 ≤ v6 then
 L_X9_copy_141 FU v0 v3 v4 v5 0 w
 else
 (if wK w v0 = 9 then
 (bd1 (wR w v0 32) fun a38 =>
 (bd1 (wR w v0 27) fun a40 =>
 (if aK 11 w a40 (((24 * v1) + v2) + v6) = true then
 (if aK 11 w a38 v6 = true then
 (lb_ (sI w a38 (nx v6) (wI w a40 (nx (((24 * v1) + v2) + v6)))) fun w44 =>
 (lb_ (v6 + 1) fun x46 =>
 L_X9_copy_104 n v0 v1 v2 v3 v4 v5 x46 w44))
 else none)
 else none)))
 else none))
theorem bL_X9_copy_104 {t : Ct} {V : Vt} {r : Int32} {w' : Wd} (Y : Hd_ t V cX9_copy 7 RX9 { frames := 2, cells := 0, slots := 0, locals := 42 } (some .int) "copy") : ∀ {n : Nat} {v0 : Nat} {v1 : Int32} {v2 : Int32} {v3 : Int32} {v4 : Int32} {v5 : Int32} {v6 : Int32} {w : Wd}, L_X9_copy_104  n v0 v1 v2 v3 v4 v5 v6 w = some (r, w') → Gd t V 7 0 0 (Qe t V (some (.int r)) w' 0 0) 104 [(0, rf V v0), (1, .int v1), (2, .int v2), (3, .int v3), (4, .int v4), (5, .int v5), (6, .int v6)] [] w := by
  have X := Y.1
  intro n
  induction n with
  | zero => intro v0 v1 v2 v3 v4 v5 v6 w h; cases h
  | succ n ih0 =>
    have ih : ∀ (v0 : Nat) (v1 : Int32) (v2 : Int32) (v3 : Int32) (v4 : Int32) (v5 : Int32) (v6 : Int32) (w : Wd), L_X9_copy_104  n v0 v1 v2 v3 v4 v5 v6 w = some (r, w') → Gd t V 7 0 0 (Qe t V (some (.int r)) w' 0 0) 104 [(0, rf V v0), (1, .int v1), (2, .int v2), (3, .int v3), (4, .int v4), (5, .int v5), (6, .int v6)] [] w := fun v0 v1 v2 v3 v4 v5 v6 w h => ih0 h
    clear ih0
    intro v0 v1 v2 v3 v4 v5 v6 w h
    unfold L_X9_copy_104 at h
    refine g_iload (pc := 104) X 6 rfl dX9_copy_104 ?_
    refine g_iload (pc := 106) X 5 rfl dX9_copy_106 ?_
    refine g_icmp_ge (pc := 108) X (tgt := 138) dX9_copy_108 rfl (fun c => ?_) (fun c => ?_)
    · have h := br_y c h
      refine g_iconst (pc := 138) X (v := 0) dX9_copy_138 rfl ?_
      refine g_istore (pc := 139) X (lv' := [(6, .int 0), (0, rf V v0), (1, .int v1), (2, .int v2), (3, .int v3), (4, .int v4), (5, .int v5)]) dX9_copy_139 (by decide) rfl ?_
      refine g_sub (lv' := [(0, rf V v0), (3, .int v3), (4, .int v4), (5, .int v5), (6, .int 0)]) [1, 4, 5, 6, 0] rfl ?_
      exact bL_X9_copy_141 Y  h
    · have h := br_n c h
      refine g_aload_n (pc := 111) X 0 rfl dX9_copy_111 ?_
      obtain ⟨k37, h⟩ := gd_i h
      obtain ⟨a38, e39, h⟩ := bd1_i h
      refine g_getR (pc := 112) X FcX9 k37 32 e39 (by decide) rfl q_1052 dX9_copy_112 ?_
      refine g_iload (pc := 115) X 6 rfl dX9_copy_115 ?_
      refine g_aload_n (pc := 117) X 0 rfl dX9_copy_117 ?_
      obtain ⟨a40, e41, h⟩ := bd1_i h
      refine g_getR (pc := 118) X FcX9 k37 27 e41 (by decide) rfl q_1047 dX9_copy_118 ?_
      refine g_bipush (pc := 121) X (v := 24) dX9_copy_121 rfl ?_
      refine g_iload_n (pc := 123) X 1 rfl dX9_copy_123 ?_
      refine g_imul (pc := 124) X dX9_copy_124 ?_
      refine g_iload_n (pc := 125) X 2 rfl dX9_copy_125 ?_
      refine g_iadd (pc := 126) X dX9_copy_126 ?_
      refine g_iload (pc := 127) X 6 rfl dX9_copy_127 ?_
      refine g_iadd (pc := 129) X dX9_copy_129 ?_
      obtain ⟨k42, h⟩ := gd_i h
      refine g_iald (pc := 130) X k42 dX9_copy_130 ?_
      obtain ⟨k43, h⟩ := gd_i h
      refine g_iast (pc := 131) X k43 dX9_copy_131 ?_
      obtain ⟨w44, e45, h⟩ := lb_i h
      refine g_w e45 ?_
      obtain ⟨x46, e47, h⟩ := lb_i h
      refine g_iinc (pc := 132) X 6 rfl dX9_copy_132 (v := x46) e47.symm (by decide) (lv' := [(6, .int x46), (0, rf V v0), (1, .int v1), (2, .int v2), (3, .int v3), (4, .int v4), (5, .int v5)]) rfl ?_
      refine g_goto (pc := 135) X (tgt := 104) dX9_copy_135 rfl ?_
      refine g_sub (lv' := [(0, rf V v0), (1, .int v1), (2, .int v2), (3, .int v3), (4, .int v4), (5, .int v5), (6, .int x46)]) [1, 2, 3, 4, 5, 6, 0] rfl ?_
      exact ih _ _ _ _ _ _ _ _ h

def f_X9_copy (v0 : Nat) (v1 : Int32) (v2 : Int32) (v3 : Int32) (v4 : Int32) (v5 : Int32) (w : Wd) : Option (Int32 × Wd) := (bd2 (f_X9_isSheet v1 w) fun r1 w2 =>
 (if r1 = 0 then
 some ((-1000000001), w2)
 else
 (bd2 (f_X9_isSheet v3 w2) fun r4 w5 =>
 (if r4 = 0 then
 some ((-1000000001), w5)
 else
 (if wK w5 v0 = 9 then
 (bd1 (wR w5 v0 25) fun a8 =>
 (if aK 11 w5 a8 v1 = true then
 (if (wI w5 a8 (nx v1)) < 0 then
 some ((-1000000011), w5)
 else
 (bd1 (wR w5 v0 25) fun a11 =>
 (if aK 11 w5 a11 v3 = true then
 (if 0 ≤ (wI w5 a11 (nx v3)) then
 (bd1 (wR w5 v0 25) fun a14 =>
 (if aK 11 w5 a14 v1 = true then
 (bd1 (wR w5 v0 25) fun a17 =>
 (if aK 11 w5 a17 v3 = true then
 (if (wI w5 a14 (nx v1)) = (wI w5 a17 (nx v3)) then
 (if v2 < 0 then
 some ((-1000000013), w5)
 else
 (if v4 < 0 then
 some ((-1000000013), w5)
 else
 (if v5 < 0 then
 some ((-1000000013), w5)
 else
 (bd1 (wR w5 v0 26) fun a20 =>
 (if aK 11 w5 a20 v1 = true then
 (if ((wI w5 a20 (nx v1)) - v5) < v2 then
 some ((-1000000013), w5)
 else
 (bd1 (wR w5 v0 26) fun a23 =>
 (if aK 11 w5 a23 v3 = true then
 (if v4 ≤ ((wI w5 a23 (nx v3)) - v5) then
 L_X9_copy_104 FU v0 v1 v2 v3 v4 v5 0 w5
 else
 some ((-1000000013), w5))
 else none)))
 else none)))))
 else
 some ((-1000000012), w5))
 else none))
 else none))
 else
 some ((-1000000011), w5))
 else none)))
 else none))
 else none)))))
theorem c_X9_copy {l : Launch} {V : Vt} {v0 : Nat} {v1 : Int32} {v2 : Int32} {v3 : Int32} {v4 : Int32} {v5 : Int32} {w w' : Wd} {r : Int32} (h : f_X9_copy v0 v1 v2 v3 v4 v5 w = some (r, w')) : MetW l V yX9_copy cX9_copy 7 (some .int) { frames := 2, cells := 0, slots := 0, locals := 42 } w [rf V v0, .int v1, .int v2, .int v3, .int v4, .int v5] (some (.int r)) w' 0 0 := by
  refine g_start (by decide) (Nat.le_of_ble_eq_true rfl) ?_
  intro t _ hrm X hret hnm
  have Y : Hd_ t V cX9_copy 7 RX9 { frames := 2, cells := 0, slots := 0, locals := 42 } (some .int) "copy" := ⟨X, hrm, hret, hnm⟩
  refine g_as (lv' := [(0, rf V v0), (1, .int v1), (2, .int v2), (3, .int v3), (4, .int v4), (5, .int v5)]) (st' := []) rfl rfl ?_
  unfold f_X9_copy at h
  refine g_iload_n (pc := 0) X 1 rfl dX9_copy_0 ?_
  obtain ⟨r1, w2, h3, h⟩ := bd2_i h
  refine g_callS (pc := 1) X mk_X9_isSheet q_1368 q_1367 (c_X9_isSheet h3) rfl rfl (by rw [Y.2.1]; decide)  rfl (rest := []) rfl (Nat.le_of_ble_eq_true rfl) (by rw [Y.2.1]; exact ⟨Nat.le_of_ble_eq_true rfl, Nat.le_of_ble_eq_true rfl⟩) dX9_copy_1 (st' := [.int r1]) rfl ?_
  refine g_if_eq (pc := 4) X (tgt := 14) dX9_copy_4 rfl (fun c => ?_) (fun c => ?_)
  · have h := br_y c h
    refine g_ldc (pc := 14) X q_1135 dX9_copy_14 ?_
    obtain ⟨e1, e2⟩ := rt_i h
    exact g_iret (pc := 16) X Y.2.2.1 (Nat.le_of_ble_eq_true rfl) (Nat.le_of_ble_eq_true rfl) e1 e2 dX9_copy_16
  · have h := br_n c h
    refine g_iload_n (pc := 7) X 3 rfl dX9_copy_7 ?_
    obtain ⟨r4, w5, h6, h⟩ := bd2_i h
    refine g_callS (pc := 8) X mk_X9_isSheet q_1368 q_1367 (c_X9_isSheet h6) rfl rfl (by rw [Y.2.1]; decide)  rfl (rest := []) rfl (Nat.le_of_ble_eq_true rfl) (by rw [Y.2.1]; exact ⟨Nat.le_of_ble_eq_true rfl, Nat.le_of_ble_eq_true rfl⟩) dX9_copy_8 (st' := [.int r4]) rfl ?_
    refine g_if_ne (pc := 11) X (tgt := 17) dX9_copy_11 rfl (fun c => ?_) (fun c => ?_)
    · have h := br_n c h
      refine g_aload_n (pc := 17) X 0 rfl dX9_copy_17 ?_
      obtain ⟨k7, h⟩ := gd_i h
      obtain ⟨a8, e9, h⟩ := bd1_i h
      refine g_getR (pc := 18) X FcX9 k7 25 e9 (by decide) rfl q_1045 dX9_copy_18 ?_
      refine g_iload_n (pc := 21) X 1 rfl dX9_copy_21 ?_
      obtain ⟨k10, h⟩ := gd_i h
      refine g_iald (pc := 22) X k10 dX9_copy_22 ?_
      refine g_if_lt (pc := 23) X (tgt := 35) dX9_copy_23 rfl (fun c => ?_) (fun c => ?_)
      · have h := br_y c h
        refine g_ldc (pc := 35) X q_1370 dX9_copy_35 ?_
        obtain ⟨e1, e2⟩ := rt_i h
        exact g_iret (pc := 37) X Y.2.2.1 (Nat.le_of_ble_eq_true rfl) (Nat.le_of_ble_eq_true rfl) e1 e2 dX9_copy_37
      · have h := br_n c h
        refine g_aload_n (pc := 26) X 0 rfl dX9_copy_26 ?_
        obtain ⟨a11, e12, h⟩ := bd1_i h
        refine g_getR (pc := 27) X FcX9 k7 25 e12 (by decide) rfl q_1045 dX9_copy_27 ?_
        refine g_iload_n (pc := 30) X 3 rfl dX9_copy_30 ?_
        obtain ⟨k13, h⟩ := gd_i h
        refine g_iald (pc := 31) X k13 dX9_copy_31 ?_
        refine g_if_ge (pc := 32) X (tgt := 38) dX9_copy_32 rfl (fun c => ?_) (fun c => ?_)
        · have h := br_y c h
          refine g_aload_n (pc := 38) X 0 rfl dX9_copy_38 ?_
          obtain ⟨a14, e15, h⟩ := bd1_i h
          refine g_getR (pc := 39) X FcX9 k7 25 e15 (by decide) rfl q_1045 dX9_copy_39 ?_
          refine g_iload_n (pc := 42) X 1 rfl dX9_copy_42 ?_
          obtain ⟨k16, h⟩ := gd_i h
          refine g_iald (pc := 43) X k16 dX9_copy_43 ?_
          refine g_aload_n (pc := 44) X 0 rfl dX9_copy_44 ?_
          obtain ⟨a17, e18, h⟩ := bd1_i h
          refine g_getR (pc := 45) X FcX9 k7 25 e18 (by decide) rfl q_1045 dX9_copy_45 ?_
          refine g_iload_n (pc := 48) X 3 rfl dX9_copy_48 ?_
          obtain ⟨k19, h⟩ := gd_i h
          refine g_iald (pc := 49) X k19 dX9_copy_49 ?_
          refine g_icmp_eq (pc := 50) X (tgt := 56) dX9_copy_50 rfl (fun c => ?_) (fun c => ?_)
          · have h := br_y c h
            refine g_iload_n (pc := 56) X 2 rfl dX9_copy_56 ?_
            refine g_if_lt (pc := 57) X (tgt := 97) dX9_copy_57 rfl (fun c => ?_) (fun c => ?_)
            · have h := br_y c h
              refine g_ldcw (pc := 97) X q_1451 dX9_copy_97 ?_
              obtain ⟨e1, e2⟩ := rt_i h
              exact g_iret (pc := 100) X Y.2.2.1 (Nat.le_of_ble_eq_true rfl) (Nat.le_of_ble_eq_true rfl) e1 e2 dX9_copy_100
            · have h := br_n c h
              refine g_iload (pc := 60) X 4 rfl dX9_copy_60 ?_
              refine g_if_lt (pc := 62) X (tgt := 97) dX9_copy_62 rfl (fun c => ?_) (fun c => ?_)
              · have h := br_y c h
                refine g_ldcw (pc := 97) X q_1451 dX9_copy_97 ?_
                obtain ⟨e1, e2⟩ := rt_i h
                exact g_iret (pc := 100) X Y.2.2.1 (Nat.le_of_ble_eq_true rfl) (Nat.le_of_ble_eq_true rfl) e1 e2 dX9_copy_100
              · have h := br_n c h
                refine g_iload (pc := 65) X 5 rfl dX9_copy_65 ?_
                refine g_if_lt (pc := 67) X (tgt := 97) dX9_copy_67 rfl (fun c => ?_) (fun c => ?_)
                · have h := br_y c h
                  refine g_ldcw (pc := 97) X q_1451 dX9_copy_97 ?_
                  obtain ⟨e1, e2⟩ := rt_i h
                  exact g_iret (pc := 100) X Y.2.2.1 (Nat.le_of_ble_eq_true rfl) (Nat.le_of_ble_eq_true rfl) e1 e2 dX9_copy_100
                · have h := br_n c h
                  refine g_iload_n (pc := 70) X 2 rfl dX9_copy_70 ?_
                  refine g_aload_n (pc := 71) X 0 rfl dX9_copy_71 ?_
                  obtain ⟨a20, e21, h⟩ := bd1_i h
                  refine g_getR (pc := 72) X FcX9 k7 26 e21 (by decide) rfl q_1046 dX9_copy_72 ?_
                  refine g_iload_n (pc := 75) X 1 rfl dX9_copy_75 ?_
                  obtain ⟨k22, h⟩ := gd_i h
                  refine g_iald (pc := 76) X k22 dX9_copy_76 ?_
                  refine g_iload (pc := 77) X 5 rfl dX9_copy_77 ?_
                  refine g_isub (pc := 79) X dX9_copy_79 ?_
                  refine g_icmp_gt (pc := 80) X (tgt := 97) dX9_copy_80 rfl (fun c => ?_) (fun c => ?_)
                  · have h := br_y c h
                    refine g_ldcw (pc := 97) X q_1451 dX9_copy_97 ?_
                    obtain ⟨e1, e2⟩ := rt_i h
                    exact g_iret (pc := 100) X Y.2.2.1 (Nat.le_of_ble_eq_true rfl) (Nat.le_of_ble_eq_true rfl) e1 e2 dX9_copy_100
                  · have h := br_n c h
                    refine g_iload (pc := 83) X 4 rfl dX9_copy_83 ?_
                    refine g_aload_n (pc := 85) X 0 rfl dX9_copy_85 ?_
                    obtain ⟨a23, e24, h⟩ := bd1_i h
                    refine g_getR (pc := 86) X FcX9 k7 26 e24 (by decide) rfl q_1046 dX9_copy_86 ?_
                    refine g_iload_n (pc := 89) X 3 rfl dX9_copy_89 ?_
                    obtain ⟨k25, h⟩ := gd_i h
                    refine g_iald (pc := 90) X k25 dX9_copy_90 ?_
                    refine g_iload (pc := 91) X 5 rfl dX9_copy_91 ?_
                    refine g_isub (pc := 93) X dX9_copy_93 ?_
                    refine g_icmp_le (pc := 94) X (tgt := 101) dX9_copy_94 rfl (fun c => ?_) (fun c => ?_)
                    · have h := br_y c h
                      refine g_iconst (pc := 101) X (v := 0) dX9_copy_101 rfl ?_
                      refine g_istore (pc := 102) X (lv' := [(6, .int 0), (0, rf V v0), (1, .int v1), (2, .int v2), (3, .int v3), (4, .int v4), (5, .int v5)]) dX9_copy_102 (by decide) rfl ?_
                      refine g_sub (lv' := [(0, rf V v0), (1, .int v1), (2, .int v2), (3, .int v3), (4, .int v4), (5, .int v5), (6, .int 0)]) [1, 2, 3, 4, 5, 6, 0] rfl ?_
                      exact bL_X9_copy_104 Y  h
                    · have h := br_n c h
                      refine g_ldcw (pc := 97) X q_1451 dX9_copy_97 ?_
                      obtain ⟨e1, e2⟩ := rt_i h
                      exact g_iret (pc := 100) X Y.2.2.1 (Nat.le_of_ble_eq_true rfl) (Nat.le_of_ble_eq_true rfl) e1 e2 dX9_copy_100
          · have h := br_n c h
            refine g_ldc (pc := 53) X q_1214 dX9_copy_53 ?_
            obtain ⟨e1, e2⟩ := rt_i h
            exact g_iret (pc := 55) X Y.2.2.1 (Nat.le_of_ble_eq_true rfl) (Nat.le_of_ble_eq_true rfl) e1 e2 dX9_copy_55
        · have h := br_n c h
          refine g_ldc (pc := 35) X q_1370 dX9_copy_35 ?_
          obtain ⟨e1, e2⟩ := rt_i h
          exact g_iret (pc := 37) X Y.2.2.1 (Nat.le_of_ble_eq_true rfl) (Nat.le_of_ble_eq_true rfl) e1 e2 dX9_copy_37
    · have h := br_y c h
      refine g_ldc (pc := 14) X q_1135 dX9_copy_14 ?_
      obtain ⟨e1, e2⟩ := rt_i h
      exact g_iret (pc := 16) X Y.2.2.1 (Nat.le_of_ble_eq_true rfl) (Nat.le_of_ble_eq_true rfl) e1 e2 dX9_copy_16

def L_X9_lay_134  (n : Nat) (v0 : Nat) (v1 : Int32) (v2 : Int32) (v3 : Int32) (v4 : Int32) (v5 : Int32) (w : Wd) : Option (Int32 × Wd) := match n with
  | 0 => none
  | n + 1 => (if 24 ≤ v5 then
 some (v4, w)
 else
 (if v2 = 2 then
 (if wK w v0 = 9 then
 (bd1 (wR w v0 31) fun a30 =>
 (bd1 (wR w v0 27) fun a32 =>
 (if aK 11 w a32 ((24 * v3) + v5) = true then
 (if aK 11 w a30 ((24 * v1) + v5) = true then
 (lb_ (sI w a30 (nx ((24 * v1) + v5)) (wI w a32 (nx ((24 * v3) + v5)))) fun w36 =>
 (lb_ (v5 + 1) fun x38 =>
 L_X9_lay_134 n v0 v1 v2 v3 v4 x38 w36))
 else none)
 else none)))
 else none)
 else
 some (v4, w)))
theorem bL_X9_lay_134 {t : Ct} {V : Vt} {r : Int32} {w' : Wd} (Y : Hd_ t V cX9_lay 6 RX9 { frames := 2, cells := 0, slots := 0, locals := 44 } (some .int) "lay") : ∀ {n : Nat} {v0 : Nat} {v1 : Int32} {v2 : Int32} {v3 : Int32} {v4 : Int32} {v5 : Int32} {w : Wd}, L_X9_lay_134  n v0 v1 v2 v3 v4 v5 w = some (r, w') → Gd t V 6 0 0 (Qe t V (some (.int r)) w' 0 0) 134 [(0, rf V v0), (1, .int v1), (2, .int v2), (3, .int v3), (4, .int v4), (5, .int v5)] [] w := by
  have X := Y.1
  intro n
  induction n with
  | zero => intro v0 v1 v2 v3 v4 v5 w h; cases h
  | succ n ih0 =>
    have ih : ∀ (v0 : Nat) (v1 : Int32) (v2 : Int32) (v3 : Int32) (v4 : Int32) (v5 : Int32) (w : Wd), L_X9_lay_134  n v0 v1 v2 v3 v4 v5 w = some (r, w') → Gd t V 6 0 0 (Qe t V (some (.int r)) w' 0 0) 134 [(0, rf V v0), (1, .int v1), (2, .int v2), (3, .int v3), (4, .int v4), (5, .int v5)] [] w := fun v0 v1 v2 v3 v4 v5 w h => ih0 h
    clear ih0
    intro v0 v1 v2 v3 v4 v5 w h
    unfold L_X9_lay_134 at h
    refine g_iload (pc := 134) X 5 rfl dX9_lay_134 ?_
    refine g_bipush (pc := 136) X (v := 24) dX9_lay_136 rfl ?_
    refine g_icmp_ge (pc := 138) X (tgt := 176) dX9_lay_138 rfl (fun c => ?_) (fun c => ?_)
    · have h := br_y c h
      refine g_iload (pc := 176) X 4 rfl dX9_lay_176 ?_
      obtain ⟨e1, e2⟩ := rt_i h
      exact g_iret (pc := 178) X Y.2.2.1 (Nat.le_of_ble_eq_true rfl) (Nat.le_of_ble_eq_true rfl) e1 e2 dX9_lay_178
    · have h := br_n c h
      refine g_iload_n (pc := 141) X 2 rfl dX9_lay_141 ?_
      refine g_iconst (pc := 142) X (v := 2) dX9_lay_142 rfl ?_
      refine g_icmp_ne (pc := 143) X (tgt := 176) dX9_lay_143 rfl (fun c => ?_) (fun c => ?_)
      · have h := br_n c h
        refine g_iload (pc := 176) X 4 rfl dX9_lay_176 ?_
        obtain ⟨e1, e2⟩ := rt_i h
        exact g_iret (pc := 178) X Y.2.2.1 (Nat.le_of_ble_eq_true rfl) (Nat.le_of_ble_eq_true rfl) e1 e2 dX9_lay_178
      · have h := br_y c h
        refine g_aload_n (pc := 146) X 0 rfl dX9_lay_146 ?_
        obtain ⟨k29, h⟩ := gd_i h
        obtain ⟨a30, e31, h⟩ := bd1_i h
        refine g_getR (pc := 147) X FcX9 k29 31 e31 (by decide) rfl q_1051 dX9_lay_147 ?_
        refine g_bipush (pc := 150) X (v := 24) dX9_lay_150 rfl ?_
        refine g_iload_n (pc := 152) X 1 rfl dX9_lay_152 ?_
        refine g_imul (pc := 153) X dX9_lay_153 ?_
        refine g_iload (pc := 154) X 5 rfl dX9_lay_154 ?_
        refine g_iadd (pc := 156) X dX9_lay_156 ?_
        refine g_aload_n (pc := 157) X 0 rfl dX9_lay_157 ?_
        obtain ⟨a32, e33, h⟩ := bd1_i h
        refine g_getR (pc := 158) X FcX9 k29 27 e33 (by decide) rfl q_1047 dX9_lay_158 ?_
        refine g_bipush (pc := 161) X (v := 24) dX9_lay_161 rfl ?_
        refine g_iload_n (pc := 163) X 3 rfl dX9_lay_163 ?_
        refine g_imul (pc := 164) X dX9_lay_164 ?_
        refine g_iload (pc := 165) X 5 rfl dX9_lay_165 ?_
        refine g_iadd (pc := 167) X dX9_lay_167 ?_
        obtain ⟨k34, h⟩ := gd_i h
        refine g_iald (pc := 168) X k34 dX9_lay_168 ?_
        obtain ⟨k35, h⟩ := gd_i h
        refine g_iast (pc := 169) X k35 dX9_lay_169 ?_
        obtain ⟨w36, e37, h⟩ := lb_i h
        refine g_w e37 ?_
        obtain ⟨x38, e39, h⟩ := lb_i h
        refine g_iinc (pc := 170) X 5 rfl dX9_lay_170 (v := x38) e39.symm (by decide) (lv' := [(5, .int x38), (0, rf V v0), (1, .int v1), (2, .int v2), (3, .int v3), (4, .int v4)]) rfl ?_
        refine g_goto (pc := 173) X (tgt := 134) dX9_lay_173 rfl ?_
        refine g_sub (lv' := [(0, rf V v0), (1, .int v1), (2, .int v2), (3, .int v3), (4, .int v4), (5, .int x38)]) [1, 2, 3, 4, 5, 0] rfl ?_
        exact ih _ _ _ _ _ _ _ h

def j_X9_lay_130  (v0 : Nat) (v1 : Int32) (v2 : Int32) (v3 : Int32) (v4 : Int32) (s0 : Int32) (s1 : Int32) (s2 : Nat) (w : Wd) : Option (Int32 × Wd) := (if aK 11 w s2 s1 = true then
 (lb_ (sI w s2 (nx s1) s0) fun w27 =>
 L_X9_lay_134 FU v0 v1 v2 v3 v4 0 w27)
 else none)
theorem bj_X9_lay_130 {t : Ct} {V : Vt} {r : Int32} {w' : Wd} (Y : Hd_ t V cX9_lay 6 RX9 { frames := 2, cells := 0, slots := 0, locals := 44 } (some .int) "lay") {v0 : Nat} {v1 : Int32} {v2 : Int32} {v3 : Int32} {v4 : Int32} {s0 : Int32} {s1 : Int32} {s2 : Nat} {w : Wd} (h : j_X9_lay_130  v0 v1 v2 v3 v4 s0 s1 s2 w = some (r, w')) : Gd t V 6 0 0 (Qe t V (some (.int r)) w' 0 0) 130 [(0, rf V v0), (1, .int v1), (2, .int v2), (3, .int v3), (4, .int v4)] [.int s0, .int s1, rf V s2] w := by
  have X := Y.1
  unfold j_X9_lay_130 at h
  obtain ⟨k26, h⟩ := gd_i h
  refine g_iast (pc := 130) X k26 dX9_lay_130 ?_
  obtain ⟨w27, e28, h⟩ := lb_i h
  refine g_w e28 ?_
  refine g_iconst (pc := 131) X (v := 0) dX9_lay_131 rfl ?_
  refine g_istore (pc := 132) X (lv' := [(5, .int 0), (0, rf V v0), (1, .int v1), (2, .int v2), (3, .int v3), (4, .int v4)]) dX9_lay_132 (by decide) rfl ?_
  refine g_sub (lv' := [(0, rf V v0), (1, .int v1), (2, .int v2), (3, .int v3), (4, .int v4), (5, .int 0)]) [1, 2, 3, 4, 5, 0] rfl ?_
  exact bL_X9_lay_134 Y  h

def j_X9_lay_110  (v0 : Nat) (v1 : Int32) (v2 : Int32) (v3 : Int32) (v4 : Int32) (s0 : Int32) (s1 : Int32) (s2 : Nat) (w : Wd) : Option (Int32 × Wd) := (if aK 11 w s2 s1 = true then
 (lb_ (sI w s2 (nx s1) s0) fun w21 =>
 (if wK w21 v0 = 9 then
 (bd1 (wR w21 v0 30) fun a24 =>
 (if v2 = 1 then
 (bd2 (f_X9_worthOf v0 v3 w21) fun r40 w41 =>
 j_X9_lay_130 v0 v1 v2 v3 v4 r40 v1 a24 w41)
 else
 j_X9_lay_130 v0 v1 v2 v3 v4 0 v1 a24 w21))
 else none))
 else none)
theorem bj_X9_lay_110 {t : Ct} {V : Vt} {r : Int32} {w' : Wd} (Y : Hd_ t V cX9_lay 6 RX9 { frames := 2, cells := 0, slots := 0, locals := 44 } (some .int) "lay") {v0 : Nat} {v1 : Int32} {v2 : Int32} {v3 : Int32} {v4 : Int32} {s0 : Int32} {s1 : Int32} {s2 : Nat} {w : Wd} (h : j_X9_lay_110  v0 v1 v2 v3 v4 s0 s1 s2 w = some (r, w')) : Gd t V 6 0 0 (Qe t V (some (.int r)) w' 0 0) 110 [(0, rf V v0), (1, .int v1), (2, .int v2), (3, .int v3), (4, .int v4)] [.int s0, .int s1, rf V s2] w := by
  have X := Y.1
  unfold j_X9_lay_110 at h
  obtain ⟨k20, h⟩ := gd_i h
  refine g_iast (pc := 110) X k20 dX9_lay_110 ?_
  obtain ⟨w21, e22, h⟩ := lb_i h
  refine g_w e22 ?_
  refine g_aload_n (pc := 111) X 0 rfl dX9_lay_111 ?_
  obtain ⟨k23, h⟩ := gd_i h
  obtain ⟨a24, e25, h⟩ := bd1_i h
  refine g_getR (pc := 112) X FcX9 k23 30 e25 (by decide) rfl q_1050 dX9_lay_112 ?_
  refine g_iload_n (pc := 115) X 1 rfl dX9_lay_115 ?_
  refine g_iload_n (pc := 116) X 2 rfl dX9_lay_116 ?_
  refine g_iconst (pc := 117) X (v := 1) dX9_lay_117 rfl ?_
  refine g_icmp_ne (pc := 118) X (tgt := 129) dX9_lay_118 rfl (fun c => ?_) (fun c => ?_)
  · have h := br_n c h
    refine g_iconst (pc := 129) X (v := 0) dX9_lay_129 rfl ?_
    refine g_sub (lv' := [(0, rf V v0), (1, .int v1), (2, .int v2), (3, .int v3), (4, .int v4)]) [0, 1, 2, 3, 4] rfl ?_
    exact bj_X9_lay_130 Y  h
  · have h := br_y c h
    refine g_aload_n (pc := 121) X 0 rfl dX9_lay_121 ?_
    refine g_iload_n (pc := 122) X 3 rfl dX9_lay_122 ?_
    obtain ⟨r40, w41, h42, h⟩ := bd2_i h
    refine g_callV (pc := 123) X FcX9 k23 mk_X9_worthOf q_1205 q_36 q_1203 (c_X9_worthOf h42) rfl rfl (by rw [Y.2.1]; decide)  rfl (rest := [.int v1, rf V a24]) rfl (Nat.le_of_ble_eq_true rfl) (by rw [Y.2.1]; exact ⟨Nat.le_of_ble_eq_true rfl, Nat.le_of_ble_eq_true rfl⟩) dX9_lay_123 (st' := [.int r40, .int v1, rf V a24]) rfl ?_
    refine g_goto (pc := 126) X (tgt := 130) dX9_lay_126 rfl ?_
    refine g_sub (lv' := [(0, rf V v0), (1, .int v1), (2, .int v2), (3, .int v3), (4, .int v4)]) [0, 1, 2, 3, 4] rfl ?_
    exact bj_X9_lay_130 Y  h

def j_X9_lay_61  (v0 : Nat) (v1 : Int32) (v2 : Int32) (v3 : Int32) (w : Wd) : Option (Int32 × Wd) := (if wK w v0 = 9 then
 (bd1 (wR w v0 28) fun a8 =>
 (if aK 11 w a8 v1 = true then
 (lb_ (wI w a8 (nx v1)) fun x11 =>
 (bd1 (wR w v0 28) fun a13 =>
 (if aK 11 w a13 v1 = true then
 (lb_ (sI w a13 (nx v1) v2) fun w16 =>
 (bd1 (wR w16 v0 29) fun a18 =>
 (if v2 = 1 then
 (bd2 (f_X9_of v0 v3 0 w16) fun r46 w47 =>
 j_X9_lay_110 v0 v1 v2 v3 x11 r46 v1 a18 w47)
 else
 (if v2 = 2 then
 (bd1 (wR w16 v0 26) fun a43 =>
 (if aK 11 w16 a43 v3 = true then
 j_X9_lay_110 v0 v1 v2 v3 x11 (wI w16 a43 (nx v3)) v1 a18 w16
 else none))
 else
 j_X9_lay_110 v0 v1 v2 v3 x11 v3 v1 a18 w16))))
 else none)))
 else none))
 else none)
theorem bj_X9_lay_61 {t : Ct} {V : Vt} {r : Int32} {w' : Wd} (Y : Hd_ t V cX9_lay 6 RX9 { frames := 2, cells := 0, slots := 0, locals := 44 } (some .int) "lay") {v0 : Nat} {v1 : Int32} {v2 : Int32} {v3 : Int32} {w : Wd} (h : j_X9_lay_61  v0 v1 v2 v3 w = some (r, w')) : Gd t V 6 0 0 (Qe t V (some (.int r)) w' 0 0) 61 [(0, rf V v0), (1, .int v1), (2, .int v2), (3, .int v3)] [] w := by
  have X := Y.1
  unfold j_X9_lay_61 at h
  refine g_aload_n (pc := 61) X 0 rfl dX9_lay_61 ?_
  obtain ⟨k7, h⟩ := gd_i h
  obtain ⟨a8, e9, h⟩ := bd1_i h
  refine g_getR (pc := 62) X FcX9 k7 28 e9 (by decide) rfl q_1048 dX9_lay_62 ?_
  refine g_iload_n (pc := 65) X 1 rfl dX9_lay_65 ?_
  obtain ⟨k10, h⟩ := gd_i h
  refine g_iald (pc := 66) X k10 dX9_lay_66 ?_
  obtain ⟨x11, e12, h⟩ := lb_i h
  refine g_top e12 ?_
  refine g_istore (pc := 67) X (lv' := [(4, .int x11), (0, rf V v0), (1, .int v1), (2, .int v2), (3, .int v3)]) dX9_lay_67 (by decide) rfl ?_
  refine g_aload_n (pc := 69) X 1 rfl dX9_lay_69 ?_
  obtain ⟨a13, e14, h⟩ := bd1_i h
  refine g_getR (pc := 70) X FcX9 k7 28 e14 (by decide) rfl q_1048 dX9_lay_70 ?_
  refine g_iload_n (pc := 73) X 2 rfl dX9_lay_73 ?_
  refine g_iload_n (pc := 74) X 3 rfl dX9_lay_74 ?_
  obtain ⟨k15, h⟩ := gd_i h
  refine g_iast (pc := 75) X k15 dX9_lay_75 ?_
  obtain ⟨w16, e17, h⟩ := lb_i h
  refine g_w e17 ?_
  refine g_aload_n (pc := 76) X 1 rfl dX9_lay_76 ?_
  obtain ⟨a18, e19, h⟩ := bd1_i h
  refine g_getR (pc := 77) X FcX9 (kd_I e17 k7) 29 e19 (by decide) rfl q_1049 dX9_lay_77 ?_
  refine g_iload_n (pc := 80) X 2 rfl dX9_lay_80 ?_
  refine g_iload_n (pc := 81) X 3 rfl dX9_lay_81 ?_
  refine g_iconst (pc := 82) X (v := 1) dX9_lay_82 rfl ?_
  refine g_icmp_ne (pc := 83) X (tgt := 95) dX9_lay_83 rfl (fun c => ?_) (fun c => ?_)
  · have h := br_n c h
    refine g_iload_n (pc := 95) X 3 rfl dX9_lay_95 ?_
    refine g_iconst (pc := 96) X (v := 2) dX9_lay_96 rfl ?_
    refine g_icmp_ne (pc := 97) X (tgt := 109) dX9_lay_97 rfl (fun c => ?_) (fun c => ?_)
    · have h := br_n c h
      refine g_iload_n (pc := 109) X 4 rfl dX9_lay_109 ?_
      refine g_sub (lv' := [(0, rf V v0), (1, .int v1), (2, .int v2), (3, .int v3), (4, .int x11)]) [1, 2, 3, 4, 0] rfl ?_
      exact bj_X9_lay_110 Y  h
    · have h := br_y c h
      refine g_aload_n (pc := 100) X 1 rfl dX9_lay_100 ?_
      obtain ⟨a43, e44, h⟩ := bd1_i h
      refine g_getR (pc := 101) X FcX9 (kd_I e17 k7) 26 e44 (by decide) rfl q_1046 dX9_lay_101 ?_
      refine g_iload_n (pc := 104) X 4 rfl dX9_lay_104 ?_
      obtain ⟨k45, h⟩ := gd_i h
      refine g_iald (pc := 105) X k45 dX9_lay_105 ?_
      refine g_goto (pc := 106) X (tgt := 110) dX9_lay_106 rfl ?_
      refine g_sub (lv' := [(0, rf V v0), (1, .int v1), (2, .int v2), (3, .int v3), (4, .int x11)]) [1, 2, 3, 4, 0] rfl ?_
      exact bj_X9_lay_110 Y  h
  · have h := br_y c h
    refine g_aload_n (pc := 86) X 1 rfl dX9_lay_86 ?_
    refine g_iload_n (pc := 87) X 4 rfl dX9_lay_87 ?_
    refine g_iconst (pc := 88) X (v := 0) dX9_lay_88 rfl ?_
    obtain ⟨r46, w47, h48, h⟩ := bd2_i h
    refine g_callV (pc := 89) X FcX9 (kd_I e17 k7) mk_X9_of q_1142 q_24 q_1140 (c_X9_of h48) rfl rfl (by rw [Y.2.1]; decide)  rfl (rest := [.int v1, rf V a18]) rfl (Nat.le_of_ble_eq_true rfl) (by rw [Y.2.1]; exact ⟨Nat.le_of_ble_eq_true rfl, Nat.le_of_ble_eq_true rfl⟩) dX9_lay_89 (st' := [.int r46, .int v1, rf V a18]) rfl ?_
    refine g_goto (pc := 92) X (tgt := 110) dX9_lay_92 rfl ?_
    refine g_sub (lv' := [(0, rf V v0), (1, .int v1), (2, .int v2), (3, .int v3), (4, .int x11)]) [1, 2, 3, 4, 0] rfl ?_
    exact bj_X9_lay_110 Y  h

def j_X9_lay_44  (v0 : Nat) (v1 : Int32) (v2 : Int32) (v3 : Int32) (w : Wd) : Option (Int32 × Wd) := (if v2 = 2 then
 (if wK w v0 = 9 then
 (bd1 (wR w v0 25) fun a50 =>
 (if aK 11 w a50 v3 = true then
 (if 0 ≤ (wI w a50 (nx v3)) then
 j_X9_lay_61 v0 v1 v2 v3 w
 else
 some ((-1000000011), w))
 else none))
 else none)
 else
 j_X9_lay_61 v0 v1 v2 v3 w)
theorem bj_X9_lay_44 {t : Ct} {V : Vt} {r : Int32} {w' : Wd} (Y : Hd_ t V cX9_lay 6 RX9 { frames := 2, cells := 0, slots := 0, locals := 44 } (some .int) "lay") {v0 : Nat} {v1 : Int32} {v2 : Int32} {v3 : Int32} {w : Wd} (h : j_X9_lay_44  v0 v1 v2 v3 w = some (r, w')) : Gd t V 6 0 0 (Qe t V (some (.int r)) w' 0 0) 44 [(0, rf V v0), (1, .int v1), (2, .int v2), (3, .int v3)] [] w := by
  have X := Y.1
  unfold j_X9_lay_44 at h
  refine g_iload_n (pc := 44) X 2 rfl dX9_lay_44 ?_
  refine g_iconst (pc := 45) X (v := 2) dX9_lay_45 rfl ?_
  refine g_icmp_ne (pc := 46) X (tgt := 61) dX9_lay_46 rfl (fun c => ?_) (fun c => ?_)
  · have h := br_n c h
    refine g_sub (lv' := [(0, rf V v0), (1, .int v1), (2, .int v2), (3, .int v3)]) [0, 1, 2, 3] rfl ?_
    exact bj_X9_lay_61 Y  h
  · have h := br_y c h
    refine g_aload_n (pc := 49) X 0 rfl dX9_lay_49 ?_
    obtain ⟨k49, h⟩ := gd_i h
    obtain ⟨a50, e51, h⟩ := bd1_i h
    refine g_getR (pc := 50) X FcX9 k49 25 e51 (by decide) rfl q_1045 dX9_lay_50 ?_
    refine g_iload_n (pc := 53) X 3 rfl dX9_lay_53 ?_
    obtain ⟨k52, h⟩ := gd_i h
    refine g_iald (pc := 54) X k52 dX9_lay_54 ?_
    refine g_if_ge (pc := 55) X (tgt := 61) dX9_lay_55 rfl (fun c => ?_) (fun c => ?_)
    · have h := br_y c h
      refine g_sub (lv' := [(0, rf V v0), (1, .int v1), (2, .int v2), (3, .int v3)]) [0, 1, 2, 3] rfl ?_
      exact bj_X9_lay_61 Y  h
    · have h := br_n c h
      refine g_ldc (pc := 58) X q_1370 dX9_lay_58 ?_
      obtain ⟨e1, e2⟩ := rt_i h
      exact g_iret (pc := 60) X Y.2.2.1 (Nat.le_of_ble_eq_true rfl) (Nat.le_of_ble_eq_true rfl) e1 e2 dX9_lay_60

def j_X9_lay_29  (v0 : Nat) (v1 : Int32) (v2 : Int32) (v3 : Int32) (w : Wd) : Option (Int32 × Wd) := (if v2 = 2 then
 (bd2 (f_X9_isSheet v3 w) fun r53 w54 =>
 (if r53 = 0 then
 some ((-1000000001), w54)
 else
 j_X9_lay_44 v0 v1 v2 v3 w54))
 else
 j_X9_lay_44 v0 v1 v2 v3 w)
theorem bj_X9_lay_29 {t : Ct} {V : Vt} {r : Int32} {w' : Wd} (Y : Hd_ t V cX9_lay 6 RX9 { frames := 2, cells := 0, slots := 0, locals := 44 } (some .int) "lay") {v0 : Nat} {v1 : Int32} {v2 : Int32} {v3 : Int32} {w : Wd} (h : j_X9_lay_29  v0 v1 v2 v3 w = some (r, w')) : Gd t V 6 0 0 (Qe t V (some (.int r)) w' 0 0) 29 [(0, rf V v0), (1, .int v1), (2, .int v2), (3, .int v3)] [] w := by
  have X := Y.1
  unfold j_X9_lay_29 at h
  refine g_iload_n (pc := 29) X 2 rfl dX9_lay_29 ?_
  refine g_iconst (pc := 30) X (v := 2) dX9_lay_30 rfl ?_
  refine g_icmp_ne (pc := 31) X (tgt := 44) dX9_lay_31 rfl (fun c => ?_) (fun c => ?_)
  · have h := br_n c h
    refine g_sub (lv' := [(0, rf V v0), (1, .int v1), (2, .int v2), (3, .int v3)]) [0, 1, 2, 3] rfl ?_
    exact bj_X9_lay_44 Y  h
  · have h := br_y c h
    refine g_iload_n (pc := 34) X 3 rfl dX9_lay_34 ?_
    obtain ⟨r53, w54, h55, h⟩ := bd2_i h
    refine g_callS (pc := 35) X mk_X9_isSheet q_1368 q_1367 (c_X9_isSheet h55) rfl rfl (by rw [Y.2.1]; decide)  rfl (rest := []) rfl (Nat.le_of_ble_eq_true rfl) (by rw [Y.2.1]; exact ⟨Nat.le_of_ble_eq_true rfl, Nat.le_of_ble_eq_true rfl⟩) dX9_lay_35 (st' := [.int r53]) rfl ?_
    refine g_if_ne (pc := 38) X (tgt := 44) dX9_lay_38 rfl (fun c => ?_) (fun c => ?_)
    · have h := br_n c h
      refine g_sub (lv' := [(0, rf V v0), (1, .int v1), (2, .int v2), (3, .int v3)]) [0, 1, 2, 3] rfl ?_
      exact bj_X9_lay_44 Y  h
    · have h := br_y c h
      refine g_ldc (pc := 41) X q_1135 dX9_lay_41 ?_
      obtain ⟨e1, e2⟩ := rt_i h
      exact g_iret (pc := 43) X Y.2.2.1 (Nat.le_of_ble_eq_true rfl) (Nat.le_of_ble_eq_true rfl) e1 e2 dX9_lay_43

def f_X9_lay (v0 : Nat) (v1 : Int32) (v2 : Int32) (v3 : Int32) (w : Wd) : Option (Int32 × Wd) := (bd2 (f_X9_isSlot v1 w) fun r1 w2 =>
 (if r1 = 0 then
 some ((-1000000001), w2)
 else
 (bd2 (f_X9_in v2 0 3 w2) fun r4 w5 =>
 (if r4 = 0 then
 some ((-1000000001), w5)
 else
 (if v2 = 1 then
 (if wK w5 v0 = 9 then
 (bd2 (f_X9_isSitter v0 v3 w5) fun r57 w58 =>
 (if r57 = 0 then
 some ((-1000000001), w58)
 else
 j_X9_lay_29 v0 v1 v2 v3 w58))
 else none)
 else
 j_X9_lay_29 v0 v1 v2 v3 w5)))))
theorem c_X9_lay {l : Launch} {V : Vt} {v0 : Nat} {v1 : Int32} {v2 : Int32} {v3 : Int32} {w w' : Wd} {r : Int32} (h : f_X9_lay v0 v1 v2 v3 w = some (r, w')) : MetW l V yX9_lay cX9_lay 6 (some .int) { frames := 2, cells := 0, slots := 0, locals := 44 } w [rf V v0, .int v1, .int v2, .int v3] (some (.int r)) w' 0 0 := by
  refine g_start (by decide) (Nat.le_of_ble_eq_true rfl) ?_
  intro t _ hrm X hret hnm
  have Y : Hd_ t V cX9_lay 6 RX9 { frames := 2, cells := 0, slots := 0, locals := 44 } (some .int) "lay" := ⟨X, hrm, hret, hnm⟩
  refine g_as (lv' := [(0, rf V v0), (1, .int v1), (2, .int v2), (3, .int v3)]) (st' := []) rfl rfl ?_
  unfold f_X9_lay at h
  refine g_iload_n (pc := 0) X 1 rfl dX9_lay_0 ?_
  obtain ⟨r1, w2, h3, h⟩ := bd2_i h
  refine g_callS (pc := 1) X mk_X9_isSlot q_1471 q_1470 (c_X9_isSlot h3) rfl rfl (by rw [Y.2.1]; decide)  rfl (rest := []) rfl (Nat.le_of_ble_eq_true rfl) (by rw [Y.2.1]; exact ⟨Nat.le_of_ble_eq_true rfl, Nat.le_of_ble_eq_true rfl⟩) dX9_lay_1 (st' := [.int r1]) rfl ?_
  refine g_if_eq (pc := 4) X (tgt := 41) dX9_lay_4 rfl (fun c => ?_) (fun c => ?_)
  · have h := br_y c h
    refine g_ldc (pc := 41) X q_1135 dX9_lay_41 ?_
    obtain ⟨e1, e2⟩ := rt_i h
    exact g_iret (pc := 43) X Y.2.2.1 (Nat.le_of_ble_eq_true rfl) (Nat.le_of_ble_eq_true rfl) e1 e2 dX9_lay_43
  · have h := br_n c h
    refine g_iload_n (pc := 7) X 2 rfl dX9_lay_7 ?_
    refine g_iconst (pc := 8) X (v := 0) dX9_lay_8 rfl ?_
    refine g_iconst (pc := 9) X (v := 3) dX9_lay_9 rfl ?_
    obtain ⟨r4, w5, h6, h⟩ := bd2_i h
    refine g_callS (pc := 10) X mk_X9_in q_1133 q_1132 (c_X9_in h6) rfl rfl (by rw [Y.2.1]; decide)  rfl (rest := []) rfl (Nat.le_of_ble_eq_true rfl) (by rw [Y.2.1]; exact ⟨Nat.le_of_ble_eq_true rfl, Nat.le_of_ble_eq_true rfl⟩) dX9_lay_10 (st' := [.int r4]) rfl ?_
    refine g_if_eq (pc := 13) X (tgt := 41) dX9_lay_13 rfl (fun c => ?_) (fun c => ?_)
    · have h := br_y c h
      refine g_ldc (pc := 41) X q_1135 dX9_lay_41 ?_
      obtain ⟨e1, e2⟩ := rt_i h
      exact g_iret (pc := 43) X Y.2.2.1 (Nat.le_of_ble_eq_true rfl) (Nat.le_of_ble_eq_true rfl) e1 e2 dX9_lay_43
    · have h := br_n c h
      refine g_iload_n (pc := 16) X 2 rfl dX9_lay_16 ?_
      refine g_iconst (pc := 17) X (v := 1) dX9_lay_17 rfl ?_
      refine g_icmp_ne (pc := 18) X (tgt := 29) dX9_lay_18 rfl (fun c => ?_) (fun c => ?_)
      · have h := br_n c h
        refine g_sub (lv' := [(0, rf V v0), (1, .int v1), (2, .int v2), (3, .int v3)]) [0, 1, 2, 3] rfl ?_
        exact bj_X9_lay_29 Y  h
      · have h := br_y c h
        refine g_aload_n (pc := 21) X 0 rfl dX9_lay_21 ?_
        refine g_iload_n (pc := 22) X 3 rfl dX9_lay_22 ?_
        obtain ⟨k56, h⟩ := gd_i h
        obtain ⟨r57, w58, h59, h⟩ := bd2_i h
        refine g_callV (pc := 23) X FcX9 k56 mk_X9_isSitter q_1163 q_27 q_1161 (c_X9_isSitter h59) rfl rfl (by rw [Y.2.1]; decide)  rfl (rest := []) rfl (Nat.le_of_ble_eq_true rfl) (by rw [Y.2.1]; exact ⟨Nat.le_of_ble_eq_true rfl, Nat.le_of_ble_eq_true rfl⟩) dX9_lay_23 (st' := [.int r57]) rfl ?_
        refine g_if_eq (pc := 26) X (tgt := 41) dX9_lay_26 rfl (fun c => ?_) (fun c => ?_)
        · have h := br_y c h
          refine g_ldc (pc := 41) X q_1135 dX9_lay_41 ?_
          obtain ⟨e1, e2⟩ := rt_i h
          exact g_iret (pc := 43) X Y.2.2.1 (Nat.le_of_ble_eq_true rfl) (Nat.le_of_ble_eq_true rfl) e1 e2 dX9_lay_43
        · have h := br_n c h
          refine g_sub (lv' := [(0, rf V v0), (1, .int v1), (2, .int v2), (3, .int v3)]) [0, 1, 2, 3] rfl ?_
          exact bj_X9_lay_29 Y  h

def f_X9_ask (v0 : Nat) (v1 : Int32) (v2 : Int32) (w : Wd) : Option (Int32 × Wd) := (bd2 (f_X9_isSlot v1 w) fun r1 w2 =>
 (if r1 = 0 then
 some ((-1000000001), w2)
 else
 (bd2 (f_X9_in v2 0 5 w2) fun r4 w5 =>
 (if r4 = 0 then
 some ((-1000000001), w5)
 else
 (if wK w5 v0 = 9 then
 (bd1 (wR w5 v0 28) fun a8 =>
 (if aK 11 w5 a8 v1 = true then
 (if (wI w5 a8 (nx v1)) = 0 then
 some ((-1000000011), w5)
 else
 (bd1 (wR w5 v0 28) fun a11 =>
 (if aK 11 w5 a11 v1 = true then
 (if (wI w5 a11 (nx v1)) = 1 then
 (bd1 (wR w5 v0 29) fun a14 =>
 (if aK 11 w5 a14 v1 = true then
 (bd2 (f_X9_isUnder (wI w5 a14 (nx v1)) v2 w5) fun r17 w18 =>
 (if r17 = 0 then
 some ((-1000000012), w18)
 else
 (if wK w18 v0 = 9 then
 (bd1 (wR w18 v0 30) fun a21 =>
 (if aK 11 w18 a21 v1 = true then
 some (wI w18 a21 (nx v1), w18)
 else none))
 else none)))
 else none))
 else
 some ((-1000000012), w5))
 else none)))
 else none))
 else none)))))
theorem c_X9_ask {l : Launch} {V : Vt} {v0 : Nat} {v1 : Int32} {v2 : Int32} {w w' : Wd} {r : Int32} (h : f_X9_ask v0 v1 v2 w = some (r, w')) : MetW l V yX9_ask cX9_ask 3 (some .int) { frames := 2, cells := 0, slots := 0, locals := 42 } w [rf V v0, .int v1, .int v2] (some (.int r)) w' 0 0 := by
  refine g_start (by decide) (Nat.le_of_ble_eq_true rfl) ?_
  intro t _ hrm X hret hnm
  have Y : Hd_ t V cX9_ask 3 RX9 { frames := 2, cells := 0, slots := 0, locals := 42 } (some .int) "ask" := ⟨X, hrm, hret, hnm⟩
  refine g_as (lv' := [(0, rf V v0), (1, .int v1), (2, .int v2)]) (st' := []) rfl rfl ?_
  unfold f_X9_ask at h
  refine g_iload_n (pc := 0) X 1 rfl dX9_ask_0 ?_
  obtain ⟨r1, w2, h3, h⟩ := bd2_i h
  refine g_callS (pc := 1) X mk_X9_isSlot q_1471 q_1470 (c_X9_isSlot h3) rfl rfl (by rw [Y.2.1]; decide)  rfl (rest := []) rfl (Nat.le_of_ble_eq_true rfl) (by rw [Y.2.1]; exact ⟨Nat.le_of_ble_eq_true rfl, Nat.le_of_ble_eq_true rfl⟩) dX9_ask_1 (st' := [.int r1]) rfl ?_
  refine g_if_eq (pc := 4) X (tgt := 16) dX9_ask_4 rfl (fun c => ?_) (fun c => ?_)
  · have h := br_y c h
    refine g_ldc (pc := 16) X q_1135 dX9_ask_16 ?_
    obtain ⟨e1, e2⟩ := rt_i h
    exact g_iret (pc := 18) X Y.2.2.1 (Nat.le_of_ble_eq_true rfl) (Nat.le_of_ble_eq_true rfl) e1 e2 dX9_ask_18
  · have h := br_n c h
    refine g_iload_n (pc := 7) X 2 rfl dX9_ask_7 ?_
    refine g_iconst (pc := 8) X (v := 0) dX9_ask_8 rfl ?_
    refine g_iconst (pc := 9) X (v := 5) dX9_ask_9 rfl ?_
    obtain ⟨r4, w5, h6, h⟩ := bd2_i h
    refine g_callS (pc := 10) X mk_X9_in q_1133 q_1132 (c_X9_in h6) rfl rfl (by rw [Y.2.1]; decide)  rfl (rest := []) rfl (Nat.le_of_ble_eq_true rfl) (by rw [Y.2.1]; exact ⟨Nat.le_of_ble_eq_true rfl, Nat.le_of_ble_eq_true rfl⟩) dX9_ask_10 (st' := [.int r4]) rfl ?_
    refine g_if_ne (pc := 13) X (tgt := 19) dX9_ask_13 rfl (fun c => ?_) (fun c => ?_)
    · have h := br_n c h
      refine g_aload_n (pc := 19) X 0 rfl dX9_ask_19 ?_
      obtain ⟨k7, h⟩ := gd_i h
      obtain ⟨a8, e9, h⟩ := bd1_i h
      refine g_getR (pc := 20) X FcX9 k7 28 e9 (by decide) rfl q_1048 dX9_ask_20 ?_
      refine g_iload_n (pc := 23) X 1 rfl dX9_ask_23 ?_
      obtain ⟨k10, h⟩ := gd_i h
      refine g_iald (pc := 24) X k10 dX9_ask_24 ?_
      refine g_if_ne (pc := 25) X (tgt := 31) dX9_ask_25 rfl (fun c => ?_) (fun c => ?_)
      · have h := br_n c h
        refine g_aload_n (pc := 31) X 0 rfl dX9_ask_31 ?_
        obtain ⟨a11, e12, h⟩ := bd1_i h
        refine g_getR (pc := 32) X FcX9 k7 28 e12 (by decide) rfl q_1048 dX9_ask_32 ?_
        refine g_iload_n (pc := 35) X 1 rfl dX9_ask_35 ?_
        obtain ⟨k13, h⟩ := gd_i h
        refine g_iald (pc := 36) X k13 dX9_ask_36 ?_
        refine g_iconst (pc := 37) X (v := 1) dX9_ask_37 rfl ?_
        refine g_icmp_ne (pc := 38) X (tgt := 63) dX9_ask_38 rfl (fun c => ?_) (fun c => ?_)
        · have h := br_n c h
          refine g_ldc (pc := 63) X q_1214 dX9_ask_63 ?_
          obtain ⟨e1, e2⟩ := rt_i h
          exact g_iret (pc := 65) X Y.2.2.1 (Nat.le_of_ble_eq_true rfl) (Nat.le_of_ble_eq_true rfl) e1 e2 dX9_ask_65
        · have h := br_y c h
          refine g_aload_n (pc := 41) X 0 rfl dX9_ask_41 ?_
          obtain ⟨a14, e15, h⟩ := bd1_i h
          refine g_getR (pc := 42) X FcX9 k7 29 e15 (by decide) rfl q_1049 dX9_ask_42 ?_
          refine g_iload_n (pc := 45) X 1 rfl dX9_ask_45 ?_
          obtain ⟨k16, h⟩ := gd_i h
          refine g_iald (pc := 46) X k16 dX9_ask_46 ?_
          refine g_iload_n (pc := 47) X 2 rfl dX9_ask_47 ?_
          obtain ⟨r17, w18, h19, h⟩ := bd2_i h
          refine g_callS (pc := 48) X mk_X9_isUnder q_1212 q_1211 (c_X9_isUnder h19) rfl rfl (by rw [Y.2.1]; decide)  rfl (rest := []) rfl (Nat.le_of_ble_eq_true rfl) (by rw [Y.2.1]; exact ⟨Nat.le_of_ble_eq_true rfl, Nat.le_of_ble_eq_true rfl⟩) dX9_ask_48 (st' := [.int r17]) rfl ?_
          refine g_if_eq (pc := 51) X (tgt := 63) dX9_ask_51 rfl (fun c => ?_) (fun c => ?_)
          · have h := br_y c h
            refine g_ldc (pc := 63) X q_1214 dX9_ask_63 ?_
            obtain ⟨e1, e2⟩ := rt_i h
            exact g_iret (pc := 65) X Y.2.2.1 (Nat.le_of_ble_eq_true rfl) (Nat.le_of_ble_eq_true rfl) e1 e2 dX9_ask_65
          · have h := br_n c h
            refine g_aload_n (pc := 54) X 0 rfl dX9_ask_54 ?_
            obtain ⟨k20, h⟩ := gd_i h
            obtain ⟨a21, e22, h⟩ := bd1_i h
            refine g_getR (pc := 55) X FcX9 k20 30 e22 (by decide) rfl q_1050 dX9_ask_55 ?_
            refine g_iload_n (pc := 58) X 1 rfl dX9_ask_58 ?_
            obtain ⟨k23, h⟩ := gd_i h
            refine g_iald (pc := 59) X k23 dX9_ask_59 ?_
            refine g_goto (pc := 60) X (tgt := 65) dX9_ask_60 rfl ?_
            obtain ⟨e1, e2⟩ := rt_i h
            exact g_iret (pc := 65) X Y.2.2.1 (Nat.le_of_ble_eq_true rfl) (Nat.le_of_ble_eq_true rfl) e1 e2 dX9_ask_65
      · have h := br_y c h
        refine g_ldc (pc := 28) X q_1370 dX9_ask_28 ?_
        obtain ⟨e1, e2⟩ := rt_i h
        exact g_iret (pc := 30) X Y.2.2.1 (Nat.le_of_ble_eq_true rfl) (Nat.le_of_ble_eq_true rfl) e1 e2 dX9_ask_30
    · have h := br_y c h
      refine g_ldc (pc := 16) X q_1135 dX9_ask_16 ?_
      obtain ⟨e1, e2⟩ := rt_i h
      exact g_iret (pc := 18) X Y.2.2.1 (Nat.le_of_ble_eq_true rfl) (Nat.le_of_ble_eq_true rfl) e1 e2 dX9_ask_18

def f_X9_item (v0 : Nat) (v1 : Int32) (v2 : Int32) (w : Wd) : Option (Int32 × Wd) := (bd2 (f_X9_isSlot v1 w) fun r1 w2 =>
 (if r1 = 0 then
 some ((-1000000001), w2)
 else
 (if wK w2 v0 = 9 then
 (bd1 (wR w2 v0 28) fun a5 =>
 (if aK 11 w2 a5 v1 = true then
 (if (wI w2 a5 (nx v1)) = 0 then
 some ((-1000000011), w2)
 else
 (bd1 (wR w2 v0 28) fun a8 =>
 (if aK 11 w2 a8 v1 = true then
 (if (wI w2 a8 (nx v1)) = 2 then
 (bd1 (wR w2 v0 29) fun a11 =>
 (if aK 11 w2 a11 v1 = true then
 (bd2 (f_X9_in v2 0 ((wI w2 a11 (nx v1)) - 1) w2) fun r14 w15 =>
 (if r14 = 0 then
 some ((-1000000013), w15)
 else
 (if wK w15 v0 = 9 then
 (bd1 (wR w15 v0 31) fun a18 =>
 (if aK 11 w15 a18 ((24 * v1) + v2) = true then
 (lb_ (wI w15 a18 (nx ((24 * v1) + v2))) fun x21 =>
 some ((if x21 = (-1000000005) then (-1000000012) else x21 : Int32), w15))
 else none))
 else none)))
 else none))
 else
 some ((-1000000012), w2))
 else none)))
 else none))
 else none)))
theorem c_X9_item {l : Launch} {V : Vt} {v0 : Nat} {v1 : Int32} {v2 : Int32} {w w' : Wd} {r : Int32} (h : f_X9_item v0 v1 v2 w = some (r, w')) : MetW l V yX9_item cX9_item 4 (some .int) { frames := 2, cells := 0, slots := 0, locals := 42 } w [rf V v0, .int v1, .int v2] (some (.int r)) w' 0 0 := by
  refine g_start (by decide) (Nat.le_of_ble_eq_true rfl) ?_
  intro t _ hrm X hret hnm
  have Y : Hd_ t V cX9_item 4 RX9 { frames := 2, cells := 0, slots := 0, locals := 42 } (some .int) "item" := ⟨X, hrm, hret, hnm⟩
  refine g_as (lv' := [(0, rf V v0), (1, .int v1), (2, .int v2)]) (st' := []) rfl rfl ?_
  unfold f_X9_item at h
  refine g_iload_n (pc := 0) X 1 rfl dX9_item_0 ?_
  obtain ⟨r1, w2, h3, h⟩ := bd2_i h
  refine g_callS (pc := 1) X mk_X9_isSlot q_1471 q_1470 (c_X9_isSlot h3) rfl rfl (by rw [Y.2.1]; decide)  rfl (rest := []) rfl (Nat.le_of_ble_eq_true rfl) (by rw [Y.2.1]; exact ⟨Nat.le_of_ble_eq_true rfl, Nat.le_of_ble_eq_true rfl⟩) dX9_item_1 (st' := [.int r1]) rfl ?_
  refine g_if_ne (pc := 4) X (tgt := 10) dX9_item_4 rfl (fun c => ?_) (fun c => ?_)
  · have h := br_n c h
    refine g_aload_n (pc := 10) X 0 rfl dX9_item_10 ?_
    obtain ⟨k4, h⟩ := gd_i h
    obtain ⟨a5, e6, h⟩ := bd1_i h
    refine g_getR (pc := 11) X FcX9 k4 28 e6 (by decide) rfl q_1048 dX9_item_11 ?_
    refine g_iload_n (pc := 14) X 1 rfl dX9_item_14 ?_
    obtain ⟨k7, h⟩ := gd_i h
    refine g_iald (pc := 15) X k7 dX9_item_15 ?_
    refine g_if_ne (pc := 16) X (tgt := 22) dX9_item_16 rfl (fun c => ?_) (fun c => ?_)
    · have h := br_n c h
      refine g_aload_n (pc := 22) X 0 rfl dX9_item_22 ?_
      obtain ⟨a8, e9, h⟩ := bd1_i h
      refine g_getR (pc := 23) X FcX9 k4 28 e9 (by decide) rfl q_1048 dX9_item_23 ?_
      refine g_iload_n (pc := 26) X 1 rfl dX9_item_26 ?_
      obtain ⟨k10, h⟩ := gd_i h
      refine g_iald (pc := 27) X k10 dX9_item_27 ?_
      refine g_iconst (pc := 28) X (v := 2) dX9_item_28 rfl ?_
      refine g_icmp_eq (pc := 29) X (tgt := 35) dX9_item_29 rfl (fun c => ?_) (fun c => ?_)
      · have h := br_y c h
        refine g_iload_n (pc := 35) X 2 rfl dX9_item_35 ?_
        refine g_iconst (pc := 36) X (v := 0) dX9_item_36 rfl ?_
        refine g_aload_n (pc := 37) X 0 rfl dX9_item_37 ?_
        obtain ⟨a11, e12, h⟩ := bd1_i h
        refine g_getR (pc := 38) X FcX9 k4 29 e12 (by decide) rfl q_1049 dX9_item_38 ?_
        refine g_iload_n (pc := 41) X 1 rfl dX9_item_41 ?_
        obtain ⟨k13, h⟩ := gd_i h
        refine g_iald (pc := 42) X k13 dX9_item_42 ?_
        refine g_iconst (pc := 43) X (v := 1) dX9_item_43 rfl ?_
        refine g_isub (pc := 44) X dX9_item_44 ?_
        obtain ⟨r14, w15, h16, h⟩ := bd2_i h
        refine g_callS (pc := 45) X mk_X9_in q_1133 q_1132 (c_X9_in h16) rfl rfl (by rw [Y.2.1]; decide)  rfl (rest := []) rfl (Nat.le_of_ble_eq_true rfl) (by rw [Y.2.1]; exact ⟨Nat.le_of_ble_eq_true rfl, Nat.le_of_ble_eq_true rfl⟩) dX9_item_45 (st' := [.int r14]) rfl ?_
        refine g_if_ne (pc := 48) X (tgt := 55) dX9_item_48 rfl (fun c => ?_) (fun c => ?_)
        · have h := br_n c h
          refine g_aload_n (pc := 55) X 0 rfl dX9_item_55 ?_
          obtain ⟨k17, h⟩ := gd_i h
          obtain ⟨a18, e19, h⟩ := bd1_i h
          refine g_getR (pc := 56) X FcX9 k17 31 e19 (by decide) rfl q_1051 dX9_item_56 ?_
          refine g_bipush (pc := 59) X (v := 24) dX9_item_59 rfl ?_
          refine g_iload_n (pc := 61) X 1 rfl dX9_item_61 ?_
          refine g_imul (pc := 62) X dX9_item_62 ?_
          refine g_iload_n (pc := 63) X 2 rfl dX9_item_63 ?_
          refine g_iadd (pc := 64) X dX9_item_64 ?_
          obtain ⟨k20, h⟩ := gd_i h
          refine g_iald (pc := 65) X k20 dX9_item_65 ?_
          obtain ⟨x21, e22, h⟩ := lb_i h
          refine g_top e22 ?_
          refine g_istore_n (pc := 66) X (lv' := [(3, .int x21), (0, rf V v0), (1, .int v1), (2, .int v2)]) dX9_item_66 (by decide) rfl ?_
          refine g_iload_n (pc := 67) X 0 rfl dX9_item_67 ?_
          refine g_ldc (pc := 68) X q_1261 dX9_item_68 ?_
          have kJ : Gd t V 4 0 0 (Qe t V (some (.int r)) w' 0 0) 79 [(3, .int x21), (0, rf V v0), (1, .int v1), (2, .int v2)] [.int (if x21 = (-1000000005) then (-1000000012) else x21 : Int32)] w15 := by
            obtain ⟨e1, e2⟩ := rt_i h
            exact g_iret (pc := 79) X Y.2.2.1 (Nat.le_of_ble_eq_true rfl) (Nat.le_of_ble_eq_true rfl) e1 e2 dX9_item_79
          refine g_icmp_ne (pc := 70) X (tgt := 78) dX9_item_70 rfl (fun c0 => ?_) (fun c0 => ?_)
          · refine g_iload_n (pc := 78) X 0 rfl dX9_item_78 ?_
            exact g_top (by rw [if_neg c0]) kJ
          · refine g_ldc (pc := 73) X q_1214 dX9_item_73 ?_
            refine g_goto (pc := 75) X (tgt := 79) dX9_item_75 rfl ?_
            exact g_top (by rw [if_pos c0]) kJ
        · have h := br_y c h
          refine g_ldcw (pc := 51) X q_1451 dX9_item_51 ?_
          obtain ⟨e1, e2⟩ := rt_i h
          exact g_iret (pc := 54) X Y.2.2.1 (Nat.le_of_ble_eq_true rfl) (Nat.le_of_ble_eq_true rfl) e1 e2 dX9_item_54
      · have h := br_n c h
        refine g_ldc (pc := 32) X q_1214 dX9_item_32 ?_
        obtain ⟨e1, e2⟩ := rt_i h
        exact g_iret (pc := 34) X Y.2.2.1 (Nat.le_of_ble_eq_true rfl) (Nat.le_of_ble_eq_true rfl) e1 e2 dX9_item_34
    · have h := br_y c h
      refine g_ldc (pc := 19) X q_1370 dX9_item_19 ?_
      obtain ⟨e1, e2⟩ := rt_i h
      exact g_iret (pc := 21) X Y.2.2.1 (Nat.le_of_ble_eq_true rfl) (Nat.le_of_ble_eq_true rfl) e1 e2 dX9_item_21
  · have h := br_y c h
    refine g_ldc (pc := 7) X q_1135 dX9_item_7 ?_
    obtain ⟨e1, e2⟩ := rt_i h
    exact g_iret (pc := 9) X Y.2.2.1 (Nat.le_of_ble_eq_true rfl) (Nat.le_of_ble_eq_true rfl) e1 e2 dX9_item_9

