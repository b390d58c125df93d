/-! by program: the pure functions of the methods, and their walks -/
def f_X9_isFriend (v0 : Int32) (w : Wd) : Option (Int32 × Wd) := some ((if v0 = 2 then 1 else (if v0 = 4 then 1 else 0 : Int32) : Int32), w)
theorem c_X9_isFriend {l : Launch} {V : Vt} {v0 : Int32} {w w' : Wd} {r : Int32} (h : f_X9_isFriend v0 w = some (r, w')) : MetW l V yX9_isFriend cX9_isFriend 1 (some .boolean) { frames := 0, cells := 0, slots := 0, locals := 0 } w [.int v0] (some (.int r)) w' 0 0 := by
  refine g_start (by decide) (Nat.le_of_ble_eq_true rfl) ?_
  intro t _ hrm X hret hnm
  have Y : Hd_ t V cX9_isFriend 1 RX9 { frames := 0, cells := 0, slots := 0, locals := 0 } (some .boolean) "isFriend" := ⟨X, hrm, hret, hnm⟩
  refine g_as (lv' := [(0, .int v0)]) (st' := []) rfl rfl ?_
  unfold f_X9_isFriend at h
  refine g_iload_n (pc := 0) X 0 rfl dX9_isFriend_0 ?_
  refine g_iconst (pc := 1) X (v := 2) dX9_isFriend_1 rfl ?_
  have kJ : Gd t V 1 0 0 (Qe t V (some (.int r)) w' 0 0) 15 [(0, .int v0)] [.int (if v0 = 2 then 1 else (if v0 = 4 then 1 else 0 : Int32) : Int32)] w := by
    obtain ⟨e1, e2⟩ := rt_i h
    exact g_zret (pc := 15) X Y.2.2.1 (bz_ite (Or.inr rfl) (bz_ite (Or.inr rfl) (Or.inl rfl))) (Nat.le_of_ble_eq_true rfl) (Nat.le_of_ble_eq_true rfl) e1 e2 dX9_isFriend_15
  refine g_icmp_eq (pc := 2) X (tgt := 10) dX9_isFriend_2 rfl (fun c0 => ?_) (fun c0 => ?_)
  · refine g_iconst (pc := 10) X (v := 1) dX9_isFriend_10 rfl ?_
    refine g_goto (pc := 11) X (tgt := 15) dX9_isFriend_11 rfl ?_
    exact g_top (by rw [if_pos c0]) kJ
  · refine g_iload_n (pc := 5) X 0 rfl dX9_isFriend_5 ?_
    refine g_iconst (pc := 6) X (v := 4) dX9_isFriend_6 rfl ?_
    refine g_icmp_ne (pc := 7) X (tgt := 14) dX9_isFriend_7 rfl (fun c1 => ?_) (fun c1 => ?_)
    · refine g_iconst (pc := 14) X (v := 0) dX9_isFriend_14 rfl ?_
      exact g_top (by rw [if_neg c0, if_neg c1]) kJ
    · refine g_iconst (pc := 10) X (v := 1) dX9_isFriend_10 rfl ?_
      refine g_goto (pc := 11) X (tgt := 15) dX9_isFriend_11 rfl ?_
      exact g_top (by rw [if_neg c0, if_pos c1]) kJ

def j_X9_setAt_37  (v0 : Nat) (v2 : Int32) (s0 : Int32) (w : Wd) : Option (Int32 × Wd) := (if wK w v0 = 9 then
 (bd1 (wR w v0 0) fun a9 =>
 (if aK 11 w a9 2 = true then
 some ((if s0 = (wI w a9 (nx 2)) then (-1) else (if s0 = v2 then (-1) else (1 <<< (v2 &&& 31)) ||| (1 <<< (s0 &&& 31)) : Int32) : Int32), w)
 else none))
 else none)
theorem bj_X9_setAt_37 {t : Ct} {V : Vt} {r : Int32} {w' : Wd} (Y : Hd_ t V cX9_setAt 4 RX9 { frames := 1, cells := 0, slots := 0, locals := 20 } (some .int) "setAt") {v0 : Nat} {v2 : Int32} {s0 : Int32} {w : Wd} (h : j_X9_setAt_37  v0 v2 s0 w = some (r, w')) : Gd t V 4 0 0 (Qe t V (some (.int r)) w' 0 0) 37 [(0, rf V v0), (2, .int v2)] [.int s0] w := by
  have X := Y.1
  unfold j_X9_setAt_37 at h
  refine g_istore_n (pc := 37) X (lv' := [(3, .int s0), (0, rf V v0), (2, .int v2)]) dX9_setAt_37 (by decide) rfl ?_
  refine g_iload_n (pc := 38) X 0 rfl dX9_setAt_38 ?_
  refine g_aload_n (pc := 39) X 1 rfl dX9_setAt_39 ?_
  obtain ⟨k8, h⟩ := gd_i h
  obtain ⟨a9, e10, h⟩ := bd1_i h
  refine g_getR (pc := 40) X FcX9 k8 0 e10 (by decide) rfl q_1020 dX9_setAt_40 ?_
  refine g_iconst (pc := 43) X (v := 2) dX9_setAt_43 rfl ?_
  obtain ⟨k11, h⟩ := gd_i h
  refine g_iald (pc := 44) X k11 dX9_setAt_44 ?_
  have kJ : Gd t V 4 0 0 (Qe t V (some (.int r)) w' 0 0) 64 [(3, .int s0), (0, rf V v0), (2, .int v2)] [.int (if s0 = (wI w a9 (nx 2)) then (-1) else (if s0 = v2 then (-1) else (1 <<< (v2 &&& 31)) ||| (1 <<< (s0 &&& 31)) : Int32) : Int32)] w := by
    obtain ⟨e1, e2⟩ := rt_i h
    exact g_iret (pc := 64) X Y.2.2.1 (Nat.le_of_ble_eq_true rfl) (Nat.le_of_ble_eq_true rfl) e1 e2 dX9_setAt_64
  refine g_icmp_eq (pc := 45) X (tgt := 53) dX9_setAt_45 rfl (fun c0 => ?_) (fun c0 => ?_)
  · refine g_iconst (pc := 53) X (v := (-1)) dX9_setAt_53 rfl ?_
    refine g_goto (pc := 54) X (tgt := 64) dX9_setAt_54 rfl ?_
    exact g_top (by rw [if_pos c0]) kJ
  · refine g_iload_n (pc := 48) X 0 rfl dX9_setAt_48 ?_
    refine g_iload_n (pc := 49) X 2 rfl dX9_setAt_49 ?_
    refine g_icmp_ne (pc := 50) X (tgt := 57) dX9_setAt_50 rfl (fun c1 => ?_) (fun c1 => ?_)
    · refine g_iconst (pc := 57) X (v := 1) dX9_setAt_57 rfl ?_
      refine g_iload_n (pc := 58) X 2 rfl dX9_setAt_58 ?_
      refine g_ishl (pc := 59) X dX9_setAt_59 ?_
      refine g_iconst (pc := 60) X (v := 1) dX9_setAt_60 rfl ?_
      refine g_iload_n (pc := 61) X 0 rfl dX9_setAt_61 ?_
      refine g_ishl (pc := 62) X dX9_setAt_62 ?_
      refine g_ior (pc := 63) X dX9_setAt_63 ?_
      exact g_top (by rw [if_neg c0, if_neg c1]) kJ
    · refine g_iconst (pc := 53) X (v := (-1)) dX9_setAt_53 rfl ?_
      refine g_goto (pc := 54) X (tgt := 64) dX9_setAt_54 rfl ?_
      exact g_top (by rw [if_neg c0, if_pos c1]) kJ

def f_X9_setAt (v0 : Nat) (v1 : Int32) (v2 : Int32) (w : Wd) : Option (Int32 × Wd) := (bd2 (f_X9_isBroad v1 w) fun r1 w2 =>
 (if r1 = 0 then
 some (1 <<< (v2 &&& 31), w2)
 else
 (if wK w2 v0 = 9 then
 (bd1 (wR w2 v0 0) fun a5 =>
 (if aK 11 w2 a5 3 = true then
 (if (wI w2 a5 (nx 3)) = 1 then
 (bd1 (wR w2 v0 0) fun a12 =>
 (if aK 11 w2 a12 2 = true then
 (if ¬ (wI w2 a12 (nx 2)) = 0 then
 j_X9_setAt_37 v0 v2 (irem (v2 + 1) (wI w2 a12 (nx 2))) w2
 else none)
 else none))
 else
 j_X9_setAt_37 v0 v2 (v2 + 1) w2)
 else none))
 else none)))
theorem c_X9_setAt {l : Launch} {V : Vt} {v0 : Nat} {v1 : Int32} {v2 : Int32} {w w' : Wd} {r : Int32} (h : f_X9_setAt v0 v1 v2 w = some (r, w')) : MetW l V yX9_setAt cX9_setAt 4 (some .int) { frames := 1, cells := 0, slots := 0, locals := 20 } w [rf V v0, .int v1, .int v2] (some (.int r)) w' 0 0 := by
  refine g_start (by decide) (Nat.le_of_ble_eq_true rfl) ?_
  intro t _ hrm X hret hnm
  have Y : Hd_ t V cX9_setAt 4 RX9 { frames := 1, cells := 0, slots := 0, locals := 20 } (some .int) "setAt" := ⟨X, hrm, hret, hnm⟩
  refine g_as (lv' := [(0, rf V v0), (1, .int v1), (2, .int v2)]) (st' := []) rfl rfl ?_
  unfold f_X9_setAt at h
  refine g_iload_n (pc := 0) X 1 rfl dX9_setAt_0 ?_
  obtain ⟨r1, w2, h3, h⟩ := bd2_i h
  refine g_callS (pc := 1) X mk_X9_isBroad q_1174 q_1173 (c_X9_isBroad h3) rfl rfl (by rw [Y.2.1]; decide)  rfl (rest := []) rfl (Nat.le_of_ble_eq_true rfl) (by rw [Y.2.1]; exact ⟨Nat.le_of_ble_eq_true rfl, Nat.le_of_ble_eq_true rfl⟩) dX9_setAt_1 (st' := [.int r1]) rfl ?_
  refine g_if_ne (pc := 4) X (tgt := 11) dX9_setAt_4 rfl (fun c => ?_) (fun c => ?_)
  · have h := br_n c h
    refine g_aload_n (pc := 11) X 0 rfl dX9_setAt_11 ?_
    obtain ⟨k4, h⟩ := gd_i h
    obtain ⟨a5, e6, h⟩ := bd1_i h
    refine g_getR (pc := 12) X FcX9 k4 0 e6 (by decide) rfl q_1020 dX9_setAt_12 ?_
    refine g_iconst (pc := 15) X (v := 3) dX9_setAt_15 rfl ?_
    obtain ⟨k7, h⟩ := gd_i h
    refine g_iald (pc := 16) X k7 dX9_setAt_16 ?_
    refine g_iconst (pc := 17) X (v := 1) dX9_setAt_17 rfl ?_
    refine g_icmp_ne (pc := 18) X (tgt := 34) dX9_setAt_18 rfl (fun c => ?_) (fun c => ?_)
    · have h := br_n c h
      refine g_iload_n (pc := 34) X 2 rfl dX9_setAt_34 ?_
      refine g_iconst (pc := 35) X (v := 1) dX9_setAt_35 rfl ?_
      refine g_iadd (pc := 36) X dX9_setAt_36 ?_
      refine g_sub (lv' := [(0, rf V v0), (2, .int v2)]) [0, 2] rfl ?_
      exact bj_X9_setAt_37 Y  h
    · have h := br_y c h
      refine g_iload_n (pc := 21) X 2 rfl dX9_setAt_21 ?_
      refine g_iconst (pc := 22) X (v := 1) dX9_setAt_22 rfl ?_
      refine g_iadd (pc := 23) X dX9_setAt_23 ?_
      refine g_aload_n (pc := 24) X 0 rfl dX9_setAt_24 ?_
      obtain ⟨a12, e13, h⟩ := bd1_i h
      refine g_getR (pc := 25) X FcX9 k4 0 e13 (by decide) rfl q_1020 dX9_setAt_25 ?_
      refine g_iconst (pc := 28) X (v := 2) dX9_setAt_28 rfl ?_
      obtain ⟨k14, h⟩ := gd_i h
      refine g_iald (pc := 29) X k14 dX9_setAt_29 ?_
      obtain ⟨k15, h⟩ := gd_i h
      refine g_irem (pc := 30) X k15 dX9_setAt_30 ?_
      refine g_goto (pc := 31) X (tgt := 37) dX9_setAt_31 rfl ?_
      refine g_sub (lv' := [(0, rf V v0), (2, .int v2)]) [0, 2] rfl ?_
      exact bj_X9_setAt_37 Y  h
  · have h := br_y c h
    refine g_iconst (pc := 7) X (v := 1) dX9_setAt_7 rfl ?_
    refine g_iload_n (pc := 8) X 2 rfl dX9_setAt_8 ?_
    refine g_ishl (pc := 9) X dX9_setAt_9 ?_
    obtain ⟨e1, e2⟩ := rt_i h
    exact g_iret (pc := 10) X Y.2.2.1 (Nat.le_of_ble_eq_true rfl) (Nat.le_of_ble_eq_true rfl) e1 e2 dX9_setAt_10

def f_X9_setOf (v0 : Nat) (v1 : Int32) (w : Wd) : Option (Int32 × Wd) := (if wK w v0 = 9 then
 (bd2 (f_X9_of v0 v1 1 w) fun r2 w3 =>
 (if 0 ≤ r2 then
 (if wK w3 v0 = 9 then
 (bd2 (f_X9_of v0 v1 0 w3) fun r6 w7 =>
 (if wK w7 v0 = 9 then
 (bd2 (f_X9_of v0 v1 1 w7) fun r10 w11 =>
 (if wK w11 v0 = 9 then
 (bd2 (f_X9_setAt v0 r6 r10 w11) fun r14 w15 =>
 some (r14, w15))
 else none))
 else none))
 else none)
 else
 some (0, w3)))
 else none)
theorem c_X9_setOf {l : Launch} {V : Vt} {v0 : Nat} {v1 : Int32} {w w' : Wd} {r : Int32} (h : f_X9_setOf v0 v1 w = some (r, w')) : MetW l V yX9_setOf cX9_setOf 2 (some .int) { frames := 2, cells := 0, slots := 0, locals := 43 } w [rf V v0, .int v1] (some (.int r)) w' 0 0 := by
  refine g_start (by decide) (Nat.le_of_ble_eq_true rfl) ?_
  intro t _ hrm X hret hnm
  have Y : Hd_ t V cX9_setOf 2 RX9 { frames := 2, cells := 0, slots := 0, locals := 43 } (some .int) "setOf" := ⟨X, hrm, hret, hnm⟩
  refine g_as (lv' := [(0, rf V v0), (1, .int v1)]) (st' := []) rfl rfl ?_
  unfold f_X9_setOf at h
  refine g_aload_n (pc := 0) X 0 rfl dX9_setOf_0 ?_
  refine g_iload_n (pc := 1) X 1 rfl dX9_setOf_1 ?_
  refine g_iconst (pc := 2) X (v := 1) dX9_setOf_2 rfl ?_
  obtain ⟨k1, h⟩ := gd_i h
  obtain ⟨r2, w3, h4, h⟩ := bd2_i h
  refine g_callV (pc := 3) X FcX9 k1 mk_X9_of q_1142 q_24 q_1140 (c_X9_of h4) rfl rfl (by rw [Y.2.1]; decide)  rfl (rest := []) rfl (Nat.le_of_ble_eq_true rfl) (by rw [Y.2.1]; exact ⟨Nat.le_of_ble_eq_true rfl, Nat.le_of_ble_eq_true rfl⟩) dX9_setOf_3 (st' := [.int r2]) rfl ?_
  refine g_if_ge (pc := 6) X (tgt := 13) dX9_setOf_6 rfl (fun c => ?_) (fun c => ?_)
  · have h := br_y c h
    refine g_aload_n (pc := 13) X 0 rfl dX9_setOf_13 ?_
    refine g_aload_n (pc := 14) X 0 rfl dX9_setOf_14 ?_
    refine g_iload_n (pc := 15) X 1 rfl dX9_setOf_15 ?_
    refine g_iconst (pc := 16) X (v := 0) dX9_setOf_16 rfl ?_
    obtain ⟨k5, h⟩ := gd_i h
    obtain ⟨r6, w7, h8, h⟩ := bd2_i h
    refine g_callV (pc := 17) X FcX9 k5 mk_X9_of q_1142 q_24 q_1140 (c_X9_of h8) rfl rfl (by rw [Y.2.1]; decide)  rfl (rest := [rf V v0]) rfl (Nat.le_of_ble_eq_true rfl) (by rw [Y.2.1]; exact ⟨Nat.le_of_ble_eq_true rfl, Nat.le_of_ble_eq_true rfl⟩) dX9_setOf_17 (st' := [.int r6, rf V v0]) rfl ?_
    refine g_aload_n (pc := 20) X 0 rfl dX9_setOf_20 ?_
    refine g_iload_n (pc := 21) X 1 rfl dX9_setOf_21 ?_
    refine g_iconst (pc := 22) X (v := 1) dX9_setOf_22 rfl ?_
    obtain ⟨k9, h⟩ := gd_i h
    obtain ⟨r10, w11, h12, h⟩ := bd2_i h
    refine g_callV (pc := 23) X FcX9 k9 mk_X9_of q_1142 q_24 q_1140 (c_X9_of h12) rfl rfl (by rw [Y.2.1]; decide)  rfl (rest := [.int r6, rf V v0]) rfl (Nat.le_of_ble_eq_true rfl) (by rw [Y.2.1]; exact ⟨Nat.le_of_ble_eq_true rfl, Nat.le_of_ble_eq_true rfl⟩) dX9_setOf_23 (st' := [.int r10, .int r6, rf V v0]) rfl ?_
    obtain ⟨k13, h⟩ := gd_i h
    obtain ⟨r14, w15, h16, h⟩ := bd2_i h
    refine g_callV (pc := 26) X FcX9 k13 mk_X9_setAt q_1171 q_29 q_1169 (c_X9_setAt h16) rfl rfl (by rw [Y.2.1]; decide)  rfl (rest := []) rfl (Nat.le_of_ble_eq_true rfl) (by rw [Y.2.1]; exact ⟨Nat.le_of_ble_eq_true rfl, Nat.le_of_ble_eq_true rfl⟩) dX9_setOf_26 (st' := [.int r14]) rfl ?_
    obtain ⟨e1, e2⟩ := rt_i h
    exact g_iret (pc := 29) X Y.2.2.1 (Nat.le_of_ble_eq_true rfl) (Nat.le_of_ble_eq_true rfl) e1 e2 dX9_setOf_29
  · have h := br_n c h
    refine g_iconst (pc := 9) X (v := 0) dX9_setOf_9 rfl ?_
    refine g_goto (pc := 10) X (tgt := 29) dX9_setOf_10 rfl ?_
    obtain ⟨e1, e2⟩ := rt_i h
    exact g_iret (pc := 29) X Y.2.2.1 (Nat.le_of_ble_eq_true rfl) (Nat.le_of_ble_eq_true rfl) e1 e2 dX9_setOf_29

def L_X9_taken_4  (n : Nat) (v0 : Nat) (v1 : Int32) (v2 : Int32) (w : Wd) : Option (Int32 × Wd) := match n with
  | 0 => none
  | n + 1 => (if wK w v0 = 9 then
 (bd1 (wR w v0 0) fun a2 =>
 (if aK 11 w a2 1 = true then
 (if (wI w a2 (nx 1)) ≤ v2 then
 some (v1, w)
 else
 (bd2 (f_X9_setOf v0 v2 w) fun r5 w6 =>
 (lb_ (v1 ||| r5) fun x8 =>
 (lb_ (v2 + 1) fun x10 =>
 L_X9_taken_4 n v0 x8 x10 w6))))
 else none))
 else none)
theorem bL_X9_taken_4 {t : Ct} {V : Vt} {r : Int32} {w' : Wd} (Y : Hd_ t V cX9_taken 3 RX9 { frames := 3, cells := 0, slots := 0, locals := 64 } (some .int) "taken") : ∀ {n : Nat} {v0 : Nat} {v1 : Int32} {v2 : Int32} {w : Wd}, L_X9_taken_4  n v0 v1 v2 w = some (r, w') → Gd t V 3 0 0 (Qe t V (some (.int r)) w' 0 0) 4 [(0, rf V v0), (1, .int v1), (2, .int v2)] [] w := by
  have X := Y.1
  intro n
  induction n with
  | zero => intro v0 v1 v2 w h; cases h
  | succ n ih0 =>
    have ih : ∀ (v0 : Nat) (v1 : Int32) (v2 : Int32) (w : Wd), L_X9_taken_4  n v0 v1 v2 w = some (r, w') → Gd t V 3 0 0 (Qe t V (some (.int r)) w' 0 0) 4 [(0, rf V v0), (1, .int v1), (2, .int v2)] [] w := fun v0 v1 v2 w h => ih0 h
    clear ih0
    intro v0 v1 v2 w h
    unfold L_X9_taken_4 at h
    refine g_iload_n (pc := 4) X 2 rfl dX9_taken_4 ?_
    refine g_aload_n (pc := 5) X 0 rfl dX9_taken_5 ?_
    obtain ⟨k1, h⟩ := gd_i h
    obtain ⟨a2, e3, h⟩ := bd1_i h
    refine g_getR (pc := 6) X FcX9 k1 0 e3 (by decide) rfl q_1020 dX9_taken_6 ?_
    refine g_iconst (pc := 9) X (v := 1) dX9_taken_9 rfl ?_
    obtain ⟨k4, h⟩ := gd_i h
    refine g_iald (pc := 10) X k4 dX9_taken_10 ?_
    refine g_icmp_ge (pc := 11) X (tgt := 28) dX9_taken_11 rfl (fun c => ?_) (fun c => ?_)
    · have h := br_y c h
      refine g_iload_n (pc := 28) X 1 rfl dX9_taken_28 ?_
      obtain ⟨e1, e2⟩ := rt_i h
      exact g_iret (pc := 29) X Y.2.2.1 (Nat.le_of_ble_eq_true rfl) (Nat.le_of_ble_eq_true rfl) e1 e2 dX9_taken_29
    · have h := br_n c h
      refine g_iload_n (pc := 14) X 1 rfl dX9_taken_14 ?_
      refine g_aload_n (pc := 15) X 0 rfl dX9_taken_15 ?_
      refine g_iload_n (pc := 16) X 2 rfl dX9_taken_16 ?_
      obtain ⟨r5, w6, h7, h⟩ := bd2_i h
      refine g_callV (pc := 17) X FcX9 k1 mk_X9_setOf q_1167 q_28 q_1165 (c_X9_setOf h7) rfl rfl (by rw [Y.2.1]; decide)  rfl (rest := [.int v1]) rfl (Nat.le_of_ble_eq_true rfl) (by rw [Y.2.1]; exact ⟨Nat.le_of_ble_eq_true rfl, Nat.le_of_ble_eq_true rfl⟩) dX9_taken_17 (st' := [.int r5, .int v1]) rfl ?_
      refine g_ior (pc := 20) X dX9_taken_20 ?_
      obtain ⟨x8, e9, h⟩ := lb_i h
      refine g_top e9 ?_
      refine g_istore_n (pc := 21) X (lv' := [(1, .int x8), (0, rf V v0), (2, .int v2)]) dX9_taken_21 (by decide) rfl ?_
      obtain ⟨x10, e11, h⟩ := lb_i h
      refine g_iinc (pc := 22) X 2 rfl dX9_taken_22 (v := x10) e11.symm (by decide) (lv' := [(2, .int x10), (1, .int x8), (0, rf V v0)]) rfl ?_
      refine g_goto (pc := 25) X (tgt := 4) dX9_taken_25 rfl ?_
      refine g_sub (lv' := [(0, rf V v0), (1, .int x8), (2, .int x10)]) [2, 1, 0] rfl ?_
      exact ih _ _ _ _ h

def f_X9_taken (v0 : Nat) (w : Wd) : Option (Int32 × Wd) := L_X9_taken_4 FU v0 0 0 w
theorem c_X9_taken {l : Launch} {V : Vt} {v0 : Nat} {w w' : Wd} {r : Int32} (h : f_X9_taken v0 w = some (r, w')) : MetW l V yX9_taken cX9_taken 3 (some .int) { frames := 3, cells := 0, slots := 0, locals := 64 } w [rf V v0] (some (.int r)) w' 0 0 := by
  refine g_start (by decide) (Nat.le_of_ble_eq_true rfl) ?_
  intro t _ hrm X hret hnm
  have Y : Hd_ t V cX9_taken 3 RX9 { frames := 3, cells := 0, slots := 0, locals := 64 } (some .int) "taken" := ⟨X, hrm, hret, hnm⟩
  refine g_as (lv' := [(0, rf V v0)]) (st' := []) rfl rfl ?_
  unfold f_X9_taken at h
  refine g_iconst (pc := 0) X (v := 0) dX9_taken_0 rfl ?_
  refine g_istore_n (pc := 1) X (lv' := [(1, .int 0), (0, rf V v0)]) dX9_taken_1 (by decide) rfl ?_
  refine g_iconst (pc := 2) X (v := 0) dX9_taken_2 rfl ?_
  refine g_istore_n (pc := 3) X (lv' := [(2, .int 0), (1, .int 0), (0, rf V v0)]) dX9_taken_3 (by decide) rfl ?_
  refine g_sub (lv' := [(0, rf V v0), (1, .int 0), (2, .int 0)]) [2, 1, 0] rfl ?_
  exact bL_X9_taken_4 Y  h

def f_X9_isSome (v0 : Nat) (v1 : Int32) (v2 : Int32) (w : Wd) : Option (Int32 × Wd) := (if wK w v0 = 9 then
 (bd1 (wR w v0 0) fun a2 =>
 (if aK 11 w a2 3 = true then
 (if (wI w a2 (nx 3)) = 1 then
 (bd1 (wR w v0 0) fun a12 =>
 (if aK 11 w a12 2 = true then
 (bd1 (wR w v0 0) fun a15 =>
 (if aK 11 w a15 2 = true then
 (if ¬ (wI w a15 (nx 2)) = 0 then
 some ((if ((v1 >>> ((irem (v2 + (wI w a12 (nx 2))) (wI w a15 (nx 2))) &&& 31)) &&& 1) = 1 then 1 else 0 : Int32), w)
 else none)
 else none))
 else none))
 else
 (bd2 (f_X9_isPlace v0 v2 w) fun r5 w6 =>
 (if r5 = 0 then
 (if wK w6 v0 = 9 then
 (bd1 (wR w6 v0 0) fun a9 =>
 (if aK 11 w6 a9 4 = true then
 some ((if (wI w6 a9 (nx 4)) = 1 then 1 else 0 : Int32), w6)
 else none))
 else none)
 else
 some ((if ((v1 >>> (v2 &&& 31)) &&& 1) = 1 then 1 else 0 : Int32), w6))))
 else none))
 else none)
theorem c_X9_isSome {l : Launch} {V : Vt} {v0 : Nat} {v1 : Int32} {v2 : Int32} {w w' : Wd} {r : Int32} (h : f_X9_isSome v0 v1 v2 w = some (r, w')) : MetW l V yX9_isSome cX9_isSome 3 (some .boolean) { frames := 2, cells := 0, slots := 0, locals := 43 } w [rf V v0, .int v1, .int v2] (some (.int r)) w' 0 0 := by
  refine g_start (by decide) (Nat.le_of_ble_eq_true rfl) ?_
  intro t _ hrm X hret hnm
  have Y : Hd_ t V cX9_isSome 3 RX9 { frames := 2, cells := 0, slots := 0, locals := 43 } (some .boolean) "isSome" := ⟨X, hrm, hret, hnm⟩
  refine g_as (lv' := [(0, rf V v0), (1, .int v1), (2, .int v2)]) (st' := []) rfl rfl ?_
  unfold f_X9_isSome at h
  refine g_aload_n (pc := 0) X 0 rfl dX9_isSome_0 ?_
  obtain ⟨k1, h⟩ := gd_i h
  obtain ⟨a2, e3, h⟩ := bd1_i h
  refine g_getR (pc := 1) X FcX9 k1 0 e3 (by decide) rfl q_1020 dX9_isSome_1 ?_
  refine g_iconst (pc := 4) X (v := 3) dX9_isSome_4 rfl ?_
  obtain ⟨k4, h⟩ := gd_i h
  refine g_iald (pc := 5) X k4 dX9_isSome_5 ?_
  refine g_iconst (pc := 6) X (v := 1) dX9_isSome_6 rfl ?_
  refine g_icmp_ne (pc := 7) X (tgt := 39) dX9_isSome_7 rfl (fun c => ?_) (fun c => ?_)
  · have h := br_n c h
    refine g_aload_n (pc := 39) X 0 rfl dX9_isSome_39 ?_
    refine g_iload_n (pc := 40) X 2 rfl dX9_isSome_40 ?_
    obtain ⟨r5, w6, h7, h⟩ := bd2_i h
    refine g_callV (pc := 41) X FcX9 k1 mk_X9_isPlace q_1194 q_34 q_1192 (c_X9_isPlace h7) rfl rfl (by rw [Y.2.1]; decide)  rfl (rest := []) rfl (Nat.le_of_ble_eq_true rfl) (by rw [Y.2.1]; exact ⟨Nat.le_of_ble_eq_true rfl, Nat.le_of_ble_eq_true rfl⟩) dX9_isSome_41 (st' := [.int r5]) rfl ?_
    refine g_if_eq (pc := 44) X (tgt := 64) dX9_isSome_44 rfl (fun c => ?_) (fun c => ?_)
    · have h := br_y c h
      refine g_aload_n (pc := 64) X 0 rfl dX9_isSome_64 ?_
      obtain ⟨k8, h⟩ := gd_i h
      obtain ⟨a9, e10, h⟩ := bd1_i h
      refine g_getR (pc := 65) X FcX9 k8 0 e10 (by decide) rfl q_1020 dX9_isSome_65 ?_
      refine g_iconst (pc := 68) X (v := 4) dX9_isSome_68 rfl ?_
      obtain ⟨k11, h⟩ := gd_i h
      refine g_iald (pc := 69) X k11 dX9_isSome_69 ?_
      refine g_iconst (pc := 70) X (v := 1) dX9_isSome_70 rfl ?_
      have kJ : Gd t V 3 0 0 (Qe t V (some (.int r)) w' 0 0) 79 [(0, rf V v0), (1, .int v1), (2, .int v2)] [.int (if (wI w6 a9 (nx 4)) = 1 then 1 else 0 : Int32)] w6 := by
        obtain ⟨e1, e2⟩ := rt_i h
        exact g_zret (pc := 79) X Y.2.2.1 (bz_ite (Or.inr rfl) (Or.inl rfl)) (Nat.le_of_ble_eq_true rfl) (Nat.le_of_ble_eq_true rfl) e1 e2 dX9_isSome_79
      refine g_icmp_ne (pc := 71) X (tgt := 78) dX9_isSome_71 rfl (fun c0 => ?_) (fun c0 => ?_)
      · refine g_iconst (pc := 78) X (v := 0) dX9_isSome_78 rfl ?_
        exact g_top (by rw [if_neg c0]) kJ
      · refine g_iconst (pc := 74) X (v := 1) dX9_isSome_74 rfl ?_
        refine g_goto (pc := 75) X (tgt := 79) dX9_isSome_75 rfl ?_
        exact g_top (by rw [if_pos c0]) kJ
    · have h := br_n c h
      refine g_iload_n (pc := 47) X 1 rfl dX9_isSome_47 ?_
      refine g_iload_n (pc := 48) X 2 rfl dX9_isSome_48 ?_
      refine g_ishr (pc := 49) X dX9_isSome_49 ?_
      refine g_iconst (pc := 50) X (v := 1) dX9_isSome_50 rfl ?_
      refine g_iand (pc := 51) X dX9_isSome_51 ?_
      refine g_iconst (pc := 52) X (v := 1) dX9_isSome_52 rfl ?_
      have kJ : Gd t V 3 0 0 (Qe t V (some (.int r)) w' 0 0) 79 [(0, rf V v0), (1, .int v1), (2, .int v2)] [.int (if ((v1 >>> (v2 &&& 31)) &&& 1) = 1 then 1 else 0 : Int32)] w6 := by
        obtain ⟨e1, e2⟩ := rt_i h
        exact g_zret (pc := 79) X Y.2.2.1 (bz_ite (Or.inr rfl) (Or.inl rfl)) (Nat.le_of_ble_eq_true rfl) (Nat.le_of_ble_eq_true rfl) e1 e2 dX9_isSome_79
      refine g_icmp_ne (pc := 53) X (tgt := 60) dX9_isSome_53 rfl (fun c0 => ?_) (fun c0 => ?_)
      · refine g_iconst (pc := 60) X (v := 0) dX9_isSome_60 rfl ?_
        refine g_goto (pc := 61) X (tgt := 79) dX9_isSome_61 rfl ?_
        exact g_top (by rw [if_neg c0]) kJ
      · refine g_iconst (pc := 56) X (v := 1) dX9_isSome_56 rfl ?_
        refine g_goto (pc := 57) X (tgt := 79) dX9_isSome_57 rfl ?_
        exact g_top (by rw [if_pos c0]) kJ
  · have h := br_y c h
    refine g_iload_n (pc := 10) X 1 rfl dX9_isSome_10 ?_
    refine g_iload_n (pc := 11) X 2 rfl dX9_isSome_11 ?_
    refine g_aload_n (pc := 12) X 0 rfl dX9_isSome_12 ?_
    obtain ⟨a12, e13, h⟩ := bd1_i h
    refine g_getR (pc := 13) X FcX9 k1 0 e13 (by decide) rfl q_1020 dX9_isSome_13 ?_
    refine g_iconst (pc := 16) X (v := 2) dX9_isSome_16 rfl ?_
    obtain ⟨k14, h⟩ := gd_i h
    refine g_iald (pc := 17) X k14 dX9_isSome_17 ?_
    refine g_iadd (pc := 18) X dX9_isSome_18 ?_
    refine g_aload_n (pc := 19) X 0 rfl dX9_isSome_19 ?_
    obtain ⟨a15, e16, h⟩ := bd1_i h
    refine g_getR (pc := 20) X FcX9 k1 0 e16 (by decide) rfl q_1020 dX9_isSome_20 ?_
    refine g_iconst (pc := 23) X (v := 2) dX9_isSome_23 rfl ?_
    obtain ⟨k17, h⟩ := gd_i h
    refine g_iald (pc := 24) X k17 dX9_isSome_24 ?_
    obtain ⟨k18, h⟩ := gd_i h
    refine g_irem (pc := 25) X k18 dX9_isSome_25 ?_
    refine g_ishr (pc := 26) X dX9_isSome_26 ?_
    refine g_iconst (pc := 27) X (v := 1) dX9_isSome_27 rfl ?_
    refine g_iand (pc := 28) X dX9_isSome_28 ?_
    refine g_iconst (pc := 29) X (v := 1) dX9_isSome_29 rfl ?_
    have kJ : Gd t V 3 0 0 (Qe t V (some (.int r)) w' 0 0) 38 [(0, rf V v0), (1, .int v1), (2, .int v2)] [.int (if ((v1 >>> ((irem (v2 + (wI w a12 (nx 2))) (wI w a15 (nx 2))) &&& 31)) &&& 1) = 1 then 1 else 0 : Int32)] w := by
      obtain ⟨e1, e2⟩ := rt_i h
      exact g_zret (pc := 38) X Y.2.2.1 (bz_ite (Or.inr rfl) (Or.inl rfl)) (Nat.le_of_ble_eq_true rfl) (Nat.le_of_ble_eq_true rfl) e1 e2 dX9_isSome_38
    refine g_icmp_ne (pc := 30) X (tgt := 37) dX9_isSome_30 rfl (fun c0 => ?_) (fun c0 => ?_)
    · refine g_iconst (pc := 37) X (v := 0) dX9_isSome_37 rfl ?_
      exact g_top (by rw [if_neg c0]) kJ
    · refine g_iconst (pc := 33) X (v := 1) dX9_isSome_33 rfl ?_
      refine g_goto (pc := 34) X (tgt := 38) dX9_isSome_34 rfl ?_
      exact g_top (by rw [if_pos c0]) kJ

def j_X9_isByFriend_82 (kk40 : Nat → Int32 → Int32 → Int32 → Wd → Option (Int32 × Wd)) (v0 : Nat) (v2 : Int32) (v4 : Int32) (w : Wd) : Option (Int32 × Wd) := (lb_ (v4 + 1) fun x20 =>
 kk40 v0 v2 1 x20 w)
theorem bj_X9_isByFriend_82 {t : Ct} {V : Vt} {r : Int32} {w' : Wd} {kk40 : Nat → Int32 → Int32 → Int32 → Wd → Option (Int32 × Wd)} (Y : Hd_ t V cX9_isByFriend 5 RX9 { frames := 3, cells := 0, slots := 0, locals := 64 } (some .boolean) "isByFriend") (hk40 : ∀ (u0 : Nat) (u2 : Int32) (u3 : Int32) (u4 : Int32) (w : Wd), kk40 u0 u2 u3 u4 w = some (r, w') → Gd t V 5 0 0 (Qe t V (some (.int r)) w' 0 0) 40 [(0, rf V u0), (2, .int u2), (3, .int u3), (4, .int u4)] [] w) {v0 : Nat} {v2 : Int32} {v4 : Int32} {w : Wd} (h : j_X9_isByFriend_82 kk40 v0 v2 v4 w = some (r, w')) : Gd t V 5 0 0 (Qe t V (some (.int r)) w' 0 0) 82 [(0, rf V v0), (2, .int v2), (4, .int v4)] [] w := by
  have X := Y.1
  unfold j_X9_isByFriend_82 at h
  refine g_iconst (pc := 82) X (v := 1) dX9_isByFriend_82 rfl ?_
  refine g_goto (pc := 83) X (tgt := 87) dX9_isByFriend_83 rfl ?_
  refine g_istore_n (pc := 87) X (lv' := [(3, .int 1), (0, rf V v0), (2, .int v2), (4, .int v4)]) dX9_isByFriend_87 (by decide) rfl ?_
  obtain ⟨x20, e21, h⟩ := lb_i h
  refine g_iinc (pc := 88) X 3 rfl dX9_isByFriend_88 (v := x20) e21.symm (by decide) (lv' := [(4, .int x20), (3, .int 1), (0, rf V v0), (2, .int v2)]) rfl ?_
  refine g_goto (pc := 91) X (tgt := 40) dX9_isByFriend_91 rfl ?_
  refine g_sub (lv' := [(0, rf V v0), (2, .int v2), (3, .int 1), (4, .int x20)]) [2, 3, 1, 0] rfl ?_
  exact hk40 _ _ _ _ _ h

def L_X9_isByFriend_40  (n : Nat) (v0 : Nat) (v2 : Int32) (v3 : Int32) (v4 : Int32) (w : Wd) : Option (Int32 × Wd) := match n with
  | 0 => none
  | n + 1 => (if wK w v0 = 9 then
 (bd1 (wR w v0 0) fun a16 =>
 (if aK 11 w a16 1 = true then
 (if (wI w a16 (nx 1)) ≤ v4 then
 (if v3 = 0 ∨ v3 = 1 then
 some (v3, w)
 else none)
 else
 (if v3 = 0 then
 (bd2 (f_X9_of v0 v4 0 w) fun r22 w23 =>
 (bd2 (f_X9_isFriend r22 w23) fun r25 w26 =>
 (if r25 = 0 then
 (lb_ (v4 + 1) fun x28 =>
 L_X9_isByFriend_40 n v0 v2 0 x28 w26)
 else
 (if wK w26 v0 = 9 then
 (bd2 (f_X9_setOf v0 v4 w26) fun r31 w32 =>
 (lb_ (if ((r31 >>> (v2 &&& 31)) &&& 1) = 1 then 1 else 0 : Int32) fun x34 =>
 (lb_ (v4 + 1) fun x36 =>
 L_X9_isByFriend_40 n v0 v2 x34 x36 w32)))
 else none))))
 else
 j_X9_isByFriend_82 (L_X9_isByFriend_40 n) v0 v2 v4 w))
 else none))
 else none)
theorem bL_X9_isByFriend_40 {t : Ct} {V : Vt} {r : Int32} {w' : Wd} (Y : Hd_ t V cX9_isByFriend 5 RX9 { frames := 3, cells := 0, slots := 0, locals := 64 } (some .boolean) "isByFriend") : ∀ {n : Nat} {v0 : Nat} {v2 : Int32} {v3 : Int32} {v4 : Int32} {w : Wd}, L_X9_isByFriend_40  n v0 v2 v3 v4 w = some (r, w') → Gd t V 5 0 0 (Qe t V (some (.int r)) w' 0 0) 40 [(0, rf V v0), (2, .int v2), (3, .int v3), (4, .int v4)] [] w := by
  have X := Y.1
  intro n
  induction n with
  | zero => intro v0 v2 v3 v4 w h; cases h
  | succ n ih0 =>
    have ih : ∀ (v0 : Nat) (v2 : Int32) (v3 : Int32) (v4 : Int32) (w : Wd), L_X9_isByFriend_40  n v0 v2 v3 v4 w = some (r, w') → Gd t V 5 0 0 (Qe t V (some (.int r)) w' 0 0) 40 [(0, rf V v0), (2, .int v2), (3, .int v3), (4, .int v4)] [] w := fun v0 v2 v3 v4 w h => ih0 h
    clear ih0
    intro v0 v2 v3 v4 w h
    unfold L_X9_isByFriend_40 at h
    refine g_iload (pc := 40) X 3 rfl dX9_isByFriend_40 ?_
    refine g_aload_n (pc := 42) X 0 rfl dX9_isByFriend_42 ?_
    obtain ⟨k15, h⟩ := gd_i h
    obtain ⟨a16, e17, h⟩ := bd1_i h
    refine g_getR (pc := 43) X FcX9 k15 0 e17 (by decide) rfl q_1020 dX9_isByFriend_43 ?_
    refine g_iconst (pc := 46) X (v := 1) dX9_isByFriend_46 rfl ?_
    obtain ⟨k18, h⟩ := gd_i h
    refine g_iald (pc := 47) X k18 dX9_isByFriend_47 ?_
    refine g_icmp_ge (pc := 48) X (tgt := 94) dX9_isByFriend_48 rfl (fun c => ?_) (fun c => ?_)
    · have h := br_y c h
      refine g_iload_n (pc := 94) X 2 rfl dX9_isByFriend_94 ?_
      obtain ⟨k19, h⟩ := gd_i h
      obtain ⟨e1, e2⟩ := rt_i h
      exact g_zret (pc := 95) X Y.2.2.1 k19 (Nat.le_of_ble_eq_true rfl) (Nat.le_of_ble_eq_true rfl) e1 e2 dX9_isByFriend_95
    · have h := br_n c h
      refine g_iload_n (pc := 51) X 2 rfl dX9_isByFriend_51 ?_
      refine g_if_ne (pc := 52) X (tgt := 82) dX9_isByFriend_52 rfl (fun c => ?_) (fun c => ?_)
      · have h := br_n c h
        refine g_sub (lv' := [(0, rf V v0), (2, .int v2), (4, .int v4)]) [0, 1, 3] rfl ?_
        exact bj_X9_isByFriend_82 Y (ih) h
      · have h := br_y c h
        refine g_aload_n (pc := 55) X 0 rfl dX9_isByFriend_55 ?_
        refine g_iload (pc := 56) X 3 rfl dX9_isByFriend_56 ?_
        refine g_iconst (pc := 58) X (v := 0) dX9_isByFriend_58 rfl ?_
        obtain ⟨r22, w23, h24, h⟩ := bd2_i h
        refine g_callV (pc := 59) X FcX9 k15 mk_X9_of q_1142 q_24 q_1140 (c_X9_of h24) rfl rfl (by rw [Y.2.1]; decide)  rfl (rest := []) rfl (Nat.le_of_ble_eq_true rfl) (by rw [Y.2.1]; exact ⟨Nat.le_of_ble_eq_true rfl, Nat.le_of_ble_eq_true rfl⟩) dX9_isByFriend_59 (st' := [.int r22]) rfl ?_
        obtain ⟨r25, w26, h27, h⟩ := bd2_i h
        refine g_callS (pc := 62) X mk_X9_isFriend q_1197 q_1196 (c_X9_isFriend h27) rfl rfl (by rw [Y.2.1]; decide)  rfl (rest := []) rfl (Nat.le_of_ble_eq_true rfl) (by rw [Y.2.1]; exact ⟨Nat.le_of_ble_eq_true rfl, Nat.le_of_ble_eq_true rfl⟩) dX9_isByFriend_62 (st' := [.int r25]) rfl ?_
        refine g_if_eq (pc := 65) X (tgt := 86) dX9_isByFriend_65 rfl (fun c => ?_) (fun c => ?_)
        · have h := br_y c h
          refine g_iconst (pc := 86) X (v := 0) dX9_isByFriend_86 rfl ?_
          refine g_istore_n (pc := 87) X (lv' := [(3, .int 0), (0, rf V v0), (2, .int v2), (4, .int v4)]) dX9_isByFriend_87 (by decide) rfl ?_
          obtain ⟨x28, e29, h⟩ := lb_i h
          refine g_iinc (pc := 88) X 3 rfl dX9_isByFriend_88 (v := x28) e29.symm (by decide) (lv' := [(4, .int x28), (3, .int 0), (0, rf V v0), (2, .int v2)]) rfl ?_
          refine g_goto (pc := 91) X (tgt := 40) dX9_isByFriend_91 rfl ?_
          refine g_sub (lv' := [(0, rf V v0), (2, .int v2), (3, .int 0), (4, .int x28)]) [2, 3, 1, 0] rfl ?_
          exact ih _ _ _ _ _ h
        · have h := br_n c h
          refine g_aload_n (pc := 68) X 0 rfl dX9_isByFriend_68 ?_
          refine g_iload (pc := 69) X 3 rfl dX9_isByFriend_69 ?_
          obtain ⟨k30, h⟩ := gd_i h
          obtain ⟨r31, w32, h33, h⟩ := bd2_i h
          refine g_callV (pc := 71) X FcX9 k30 mk_X9_setOf q_1167 q_28 q_1165 (c_X9_setOf h33) rfl rfl (by rw [Y.2.1]; decide)  rfl (rest := []) rfl (Nat.le_of_ble_eq_true rfl) (by rw [Y.2.1]; exact ⟨Nat.le_of_ble_eq_true rfl, Nat.le_of_ble_eq_true rfl⟩) dX9_isByFriend_71 (st' := [.int r31]) rfl ?_
          refine g_iload_n (pc := 74) X 1 rfl dX9_isByFriend_74 ?_
          refine g_ishr (pc := 75) X dX9_isByFriend_75 ?_
          refine g_iconst (pc := 76) X (v := 1) dX9_isByFriend_76 rfl ?_
          refine g_iand (pc := 77) X dX9_isByFriend_77 ?_
          refine g_iconst (pc := 78) X (v := 1) dX9_isByFriend_78 rfl ?_
          have kJ : Gd t V 5 0 0 (Qe t V (some (.int r)) w' 0 0) 87 [(0, rf V v0), (2, .int v2), (3, .int v3), (4, .int v4)] [.int (if ((r31 >>> (v2 &&& 31)) &&& 1) = 1 then 1 else 0 : Int32)] w32 := by
            obtain ⟨x34, e35, h⟩ := lb_i h
            refine g_top e35 ?_
            refine g_istore_n (pc := 87) X (lv' := [(3, .int x34), (0, rf V v0), (2, .int v2), (4, .int v4)]) dX9_isByFriend_87 (by decide) rfl ?_
            obtain ⟨x36, e37, h⟩ := lb_i h
            refine g_iinc (pc := 88) X 3 rfl dX9_isByFriend_88 (v := x36) e37.symm (by decide) (lv' := [(4, .int x36), (3, .int x34), (0, rf V v0), (2, .int v2)]) rfl ?_
            refine g_goto (pc := 91) X (tgt := 40) dX9_isByFriend_91 rfl ?_
            refine g_sub (lv' := [(0, rf V v0), (2, .int v2), (3, .int x34), (4, .int x36)]) [2, 3, 1, 0] rfl ?_
            exact ih _ _ _ _ _ h
          refine g_icmp_ne (pc := 79) X (tgt := 86) dX9_isByFriend_79 rfl (fun c0 => ?_) (fun c0 => ?_)
          · refine g_iconst (pc := 86) X (v := 0) dX9_isByFriend_86 rfl ?_
            exact g_top (by rw [if_neg c0]) kJ
          · refine g_iconst (pc := 82) X (v := 1) dX9_isByFriend_82 rfl ?_
            refine g_goto (pc := 83) X (tgt := 87) dX9_isByFriend_83 rfl ?_
            exact g_top (by rw [if_pos c0]) kJ

def j_X9_isByFriend_19  (v0 : Nat) (v1 : Int32) (w : Wd) : Option (Int32 × Wd) := (if wK w v0 = 9 then
 (bd1 (wR w v0 0) fun a6 =>
 (if aK 11 w a6 2 = true then
 (bd1 (wR w v0 0) fun a9 =>
 (if aK 11 w a9 2 = true then
 (if ¬ (wI w a9 (nx 2)) = 0 then
 (lb_ (irem (v1 + (wI w a6 (nx 2))) (wI w a9 (nx 2))) fun x13 =>
 L_X9_isByFriend_40 FU v0 x13 0 0 w)
 else none)
 else none))
 else none))
 else none)
theorem bj_X9_isByFriend_19 {t : Ct} {V : Vt} {r : Int32} {w' : Wd} (Y : Hd_ t V cX9_isByFriend 5 RX9 { frames := 3, cells := 0, slots := 0, locals := 64 } (some .boolean) "isByFriend") {v0 : Nat} {v1 : Int32} {w : Wd} (h : j_X9_isByFriend_19  v0 v1 w = some (r, w')) : Gd t V 5 0 0 (Qe t V (some (.int r)) w' 0 0) 19 [(0, rf V v0), (1, .int v1)] [] w := by
  have X := Y.1
  unfold j_X9_isByFriend_19 at h
  refine g_iload_n (pc := 19) X 1 rfl dX9_isByFriend_19 ?_
  refine g_aload_n (pc := 20) X 0 rfl dX9_isByFriend_20 ?_
  obtain ⟨k5, h⟩ := gd_i h
  obtain ⟨a6, e7, h⟩ := bd1_i h
  refine g_getR (pc := 21) X FcX9 k5 0 e7 (by decide) rfl q_1020 dX9_isByFriend_21 ?_
  refine g_iconst (pc := 24) X (v := 2) dX9_isByFriend_24 rfl ?_
  obtain ⟨k8, h⟩ := gd_i h
  refine g_iald (pc := 25) X k8 dX9_isByFriend_25 ?_
  refine g_iadd (pc := 26) X dX9_isByFriend_26 ?_
  refine g_aload_n (pc := 27) X 0 rfl dX9_isByFriend_27 ?_
  obtain ⟨a9, e10, h⟩ := bd1_i h
  refine g_getR (pc := 28) X FcX9 k5 0 e10 (by decide) rfl q_1020 dX9_isByFriend_28 ?_
  refine g_iconst (pc := 31) X (v := 2) dX9_isByFriend_31 rfl ?_
  obtain ⟨k11, h⟩ := gd_i h
  refine g_iald (pc := 32) X k11 dX9_isByFriend_32 ?_
  obtain ⟨k12, h⟩ := gd_i h
  refine g_irem (pc := 33) X k12 dX9_isByFriend_33 ?_
  obtain ⟨x13, e14, h⟩ := lb_i h
  refine g_top e14 ?_
  refine g_istore_n (pc := 34) X (lv' := [(2, .int x13), (0, rf V v0), (1, .int v1)]) dX9_isByFriend_34 (by decide) rfl ?_
  refine g_iconst (pc := 35) X (v := 0) dX9_isByFriend_35 rfl ?_
  refine g_istore_n (pc := 36) X (lv' := [(3, .int 0), (2, .int x13), (0, rf V v0), (1, .int v1)]) dX9_isByFriend_36 (by decide) rfl ?_
  refine g_iconst (pc := 37) X (v := 0) dX9_isByFriend_37 rfl ?_
  refine g_istore (pc := 38) X (lv' := [(4, .int 0), (3, .int 0), (2, .int x13), (0, rf V v0), (1, .int v1)]) dX9_isByFriend_38 (by decide) rfl ?_
  refine g_sub (lv' := [(0, rf V v0), (2, .int x13), (3, .int 0), (4, .int 0)]) [3, 2, 1, 0] rfl ?_
  exact bL_X9_isByFriend_40 Y  h

def f_X9_isByFriend (v0 : Nat) (v1 : Int32) (w : Wd) : Option (Int32 × Wd) := (if wK w v0 = 9 then
 (bd1 (wR w v0 0) fun a2 =>
 (if aK 11 w a2 3 = true then
 (if (wI w a2 (nx 3)) = 0 then
 (bd2 (f_X9_isPlace v0 v1 w) fun r38 w39 =>
 (if r38 = 0 then
 some (0, w39)
 else
 j_X9_isByFriend_19 v0 v1 w39))
 else
 j_X9_isByFriend_19 v0 v1 w)
 else none))
 else none)
theorem c_X9_isByFriend {l : Launch} {V : Vt} {v0 : Nat} {v1 : Int32} {w w' : Wd} {r : Int32} (h : f_X9_isByFriend v0 v1 w = some (r, w')) : MetW l V yX9_isByFriend cX9_isByFriend 5 (some .boolean) { frames := 3, cells := 0, slots := 0, locals := 64 } w [rf V v0, .int v1] (some (.int r)) w' 0 0 := by
  refine g_start (by decide) (Nat.le_of_ble_eq_true rfl) ?_
  intro t _ hrm X hret hnm
  have Y : Hd_ t V cX9_isByFriend 5 RX9 { frames := 3, cells := 0, slots := 0, locals := 64 } (some .boolean) "isByFriend" := ⟨X, hrm, hret, hnm⟩
  refine g_as (lv' := [(0, rf V v0), (1, .int v1)]) (st' := []) rfl rfl ?_
  unfold f_X9_isByFriend at h
  refine g_aload_n (pc := 0) X 0 rfl dX9_isByFriend_0 ?_
  obtain ⟨k1, h⟩ := gd_i h
  obtain ⟨a2, e3, h⟩ := bd1_i h
  refine g_getR (pc := 1) X FcX9 k1 0 e3 (by decide) rfl q_1020 dX9_isByFriend_1 ?_
  refine g_iconst (pc := 4) X (v := 3) dX9_isByFriend_4 rfl ?_
  obtain ⟨k4, h⟩ := gd_i h
  refine g_iald (pc := 5) X k4 dX9_isByFriend_5 ?_
  refine g_if_ne (pc := 6) X (tgt := 19) dX9_isByFriend_6 rfl (fun c => ?_) (fun c => ?_)
  · have h := br_n c h
    refine g_sub (lv' := [(0, rf V v0), (1, .int v1)]) [0, 1] rfl ?_
    exact bj_X9_isByFriend_19 Y  h
  · have h := br_y c h
    refine g_aload_n (pc := 9) X 0 rfl dX9_isByFriend_9 ?_
    refine g_iload_n (pc := 10) X 1 rfl dX9_isByFriend_10 ?_
    obtain ⟨r38, w39, h40, h⟩ := bd2_i h
    refine g_callV (pc := 11) X FcX9 k1 mk_X9_isPlace q_1194 q_34 q_1192 (c_X9_isPlace h40) rfl rfl (by rw [Y.2.1]; decide)  rfl (rest := []) rfl (Nat.le_of_ble_eq_true rfl) (by rw [Y.2.1]; exact ⟨Nat.le_of_ble_eq_true rfl, Nat.le_of_ble_eq_true rfl⟩) dX9_isByFriend_11 (st' := [.int r38]) rfl ?_
    refine g_if_ne (pc := 14) X (tgt := 19) dX9_isByFriend_14 rfl (fun c => ?_) (fun c => ?_)
    · have h := br_n c h
      refine g_sub (lv' := [(0, rf V v0), (1, .int v1)]) [0, 1] rfl ?_
      exact bj_X9_isByFriend_19 Y  h
    · have h := br_y c h
      refine g_iconst (pc := 17) X (v := 0) dX9_isByFriend_17 rfl ?_
      obtain ⟨e1, e2⟩ := rt_i h
      exact g_zret (pc := 18) X Y.2.2.1 (Or.inl rfl) (Nat.le_of_ble_eq_true rfl) (Nat.le_of_ble_eq_true rfl) e1 e2 dX9_isByFriend_18

def j_X9_may_110  (v4 : Int32) (v7 : Int32) (v8 : Int32) (s0 : Int32) (w : Wd) : Option (Int32 × Wd) := (if v4 = 2 then
 some ((if v7 = v8 then 1 else (if s0 = 0 then 0 else 1 : Int32) : Int32), w)
 else
 (if v4 = 3 then
 some ((if v7 = 0 then (if v8 = 0 then 1 else 0 : Int32) else 0 : Int32), w)
 else
 (if v4 = 4 then
 some ((if v7 = v8 then 1 else (if s0 = 0 then (if v7 = 0 then (if v8 = 0 then 0 else 1 : Int32) else 1 : Int32) else 1 : Int32) : Int32), w)
 else
 (if v4 = 5 then
 some ((if v7 = 0 then (if v8 = 0 then 1 else 0 : Int32) else 0 : Int32), w)
 else
 some ((if v7 = v8 then 1 else 0 : Int32), w)))))
theorem bj_X9_may_110 {t : Ct} {V : Vt} {r : Int32} {w' : Wd} (Y : Hd_ t V cX9_may 10 RX9 { frames := 4, cells := 0, slots := 0, locals := 88 } (some .boolean) "may") {v4 : Int32} {v7 : Int32} {v8 : Int32} {s0 : Int32} {w : Wd} (h : j_X9_may_110  v4 v7 v8 s0 w = some (r, w')) : Gd t V 10 0 0 (Qe t V (some (.int r)) w' 0 0) 110 [(4, .int v4), (7, .int v7), (8, .int v8)] [.int s0] w := by
  have X := Y.1
  unfold j_X9_may_110 at h
  refine g_istore (pc := 110) X (lv' := [(9, .int s0), (4, .int v4), (7, .int v7), (8, .int v8)]) dX9_may_110 (by decide) rfl ?_
  refine g_iload (pc := 112) X 1 rfl dX9_may_112 ?_
  by_cases c29 : v4 = 2
  · have h := br_y c29 h
    refine g_tswI (pc := 114) X 2 (tgt := 144) dX9_may_114 c29 (by decide) (by decide) rfl rfl ?_
    refine g_iload (pc := 144) X 2 rfl dX9_may_144 ?_
    refine g_iload (pc := 146) X 3 rfl dX9_may_146 ?_
    have kJ : Gd t V 10 0 0 (Qe t V (some (.int r)) w' 0 0) 161 [(9, .int s0), (4, .int v4), (7, .int v7), (8, .int v8)] [.int (if v7 = v8 then 1 else (if s0 = 0 then 0 else 1 : Int32) : Int32)] w := by
      obtain ⟨e1, e2⟩ := rt_i h
      exact g_zret (pc := 161) X Y.2.2.1 (bz_ite (Or.inr rfl) (bz_ite (Or.inl rfl) (Or.inr rfl))) (Nat.le_of_ble_eq_true rfl) (Nat.le_of_ble_eq_true rfl) e1 e2 dX9_may_161
    refine g_icmp_eq (pc := 148) X (tgt := 156) dX9_may_148 rfl (fun c0 => ?_) (fun c0 => ?_)
    · refine g_iconst (pc := 156) X (v := 1) dX9_may_156 rfl ?_
      refine g_goto (pc := 157) X (tgt := 161) dX9_may_157 rfl ?_
      exact g_top (by rw [if_pos c0]) kJ
    · refine g_iload (pc := 151) X 0 rfl dX9_may_151 ?_
      refine g_if_eq (pc := 153) X (tgt := 160) dX9_may_153 rfl (fun c1 => ?_) (fun c1 => ?_)
      · refine g_iconst (pc := 160) X (v := 0) dX9_may_160 rfl ?_
        exact g_top (by rw [if_neg c0, if_pos c1]) kJ
      · refine g_iconst (pc := 156) X (v := 1) dX9_may_156 rfl ?_
        refine g_goto (pc := 157) X (tgt := 161) dX9_may_157 rfl ?_
        exact g_top (by rw [if_neg c0, if_neg c1]) kJ
  · have h := br_n c29 h
    by_cases c30 : v4 = 3
    · have h := br_y c30 h
      refine g_tswI (pc := 114) X 3 (tgt := 162) dX9_may_114 c30 (by decide) (by decide) rfl rfl ?_
      refine g_iload (pc := 162) X 2 rfl dX9_may_162 ?_
      have kJ : Gd t V 10 0 0 (Qe t V (some (.int r)) w' 0 0) 177 [(9, .int s0), (4, .int v4), (7, .int v7), (8, .int v8)] [.int (if v7 = 0 then (if v8 = 0 then 1 else 0 : Int32) else 0 : Int32)] w := by
        obtain ⟨e1, e2⟩ := rt_i h
        exact g_zret (pc := 177) X Y.2.2.1 (bz_ite (bz_ite (Or.inr rfl) (Or.inl rfl)) (Or.inl rfl)) (Nat.le_of_ble_eq_true rfl) (Nat.le_of_ble_eq_true rfl) e1 e2 dX9_may_177
      refine g_if_ne (pc := 164) X (tgt := 176) dX9_may_164 rfl (fun c0 => ?_) (fun c0 => ?_)
      · refine g_iconst (pc := 176) X (v := 0) dX9_may_176 rfl ?_
        exact g_top (by rw [if_neg c0]) kJ
      · refine g_iload (pc := 167) X 3 rfl dX9_may_167 ?_
        refine g_if_ne (pc := 169) X (tgt := 176) dX9_may_169 rfl (fun c1 => ?_) (fun c1 => ?_)
        · refine g_iconst (pc := 176) X (v := 0) dX9_may_176 rfl ?_
          exact g_top (by rw [if_pos c0, if_neg c1]) kJ
        · refine g_iconst (pc := 172) X (v := 1) dX9_may_172 rfl ?_
          refine g_goto (pc := 173) X (tgt := 177) dX9_may_173 rfl ?_
          exact g_top (by rw [if_pos c0, if_pos c1]) kJ
    · have h := br_n c30 h
      by_cases c31 : v4 = 4
      · have h := br_y c31 h
        refine g_tswI (pc := 114) X 4 (tgt := 178) dX9_may_114 c31 (by decide) (by decide) rfl rfl ?_
        refine g_iload (pc := 178) X 2 rfl dX9_may_178 ?_
        refine g_iload (pc := 180) X 3 rfl dX9_may_180 ?_
        have kJ : Gd t V 10 0 0 (Qe t V (some (.int r)) w' 0 0) 205 [(9, .int s0), (4, .int v4), (7, .int v7), (8, .int v8)] [.int (if v7 = v8 then 1 else (if s0 = 0 then (if v7 = 0 then (if v8 = 0 then 0 else 1 : Int32) else 1 : Int32) else 1 : Int32) : Int32)] w := by
          obtain ⟨e1, e2⟩ := rt_i h
          exact g_zret (pc := 205) X Y.2.2.1 (bz_ite (Or.inr rfl) (bz_ite (bz_ite (bz_ite (Or.inl rfl) (Or.inr rfl)) (Or.inr rfl)) (Or.inr rfl))) (Nat.le_of_ble_eq_true rfl) (Nat.le_of_ble_eq_true rfl) e1 e2 dX9_may_205
        refine g_icmp_eq (pc := 182) X (tgt := 200) dX9_may_182 rfl (fun c0 => ?_) (fun c0 => ?_)
        · refine g_iconst (pc := 200) X (v := 1) dX9_may_200 rfl ?_
          refine g_goto (pc := 201) X (tgt := 205) dX9_may_201 rfl ?_
          exact g_top (by rw [if_pos c0]) kJ
        · refine g_iload (pc := 185) X 0 rfl dX9_may_185 ?_
          refine g_if_ne (pc := 187) X (tgt := 200) dX9_may_187 rfl (fun c1 => ?_) (fun c1 => ?_)
          · refine g_iconst (pc := 200) X (v := 1) dX9_may_200 rfl ?_
            refine g_goto (pc := 201) X (tgt := 205) dX9_may_201 rfl ?_
            exact g_top (by rw [if_neg c0, if_neg c1]) kJ
          · refine g_iload (pc := 190) X 2 rfl dX9_may_190 ?_
            refine g_if_ne (pc := 192) X (tgt := 200) dX9_may_192 rfl (fun c2 => ?_) (fun c2 => ?_)
            · refine g_iconst (pc := 200) X (v := 1) dX9_may_200 rfl ?_
              refine g_goto (pc := 201) X (tgt := 205) dX9_may_201 rfl ?_
              exact g_top (by rw [if_neg c0, if_pos c1, if_neg c2]) kJ
            · refine g_iload (pc := 195) X 3 rfl dX9_may_195 ?_
              refine g_if_eq (pc := 197) X (tgt := 204) dX9_may_197 rfl (fun c3 => ?_) (fun c3 => ?_)
              · refine g_iconst (pc := 204) X (v := 0) dX9_may_204 rfl ?_
                exact g_top (by rw [if_neg c0, if_pos c1, if_pos c2, if_pos c3]) kJ
              · refine g_iconst (pc := 200) X (v := 1) dX9_may_200 rfl ?_
                refine g_goto (pc := 201) X (tgt := 205) dX9_may_201 rfl ?_
                exact g_top (by rw [if_neg c0, if_pos c1, if_pos c2, if_neg c3]) kJ
      · have h := br_n c31 h
        by_cases c32 : v4 = 5
        · have h := br_y c32 h
          refine g_tswI (pc := 114) X 5 (tgt := 162) dX9_may_114 c32 (by decide) (by decide) rfl rfl ?_
          refine g_iload (pc := 162) X 2 rfl dX9_may_162 ?_
          have kJ : Gd t V 10 0 0 (Qe t V (some (.int r)) w' 0 0) 177 [(9, .int s0), (4, .int v4), (7, .int v7), (8, .int v8)] [.int (if v7 = 0 then (if v8 = 0 then 1 else 0 : Int32) else 0 : Int32)] w := by
            obtain ⟨e1, e2⟩ := rt_i h
            exact g_zret (pc := 177) X Y.2.2.1 (bz_ite (bz_ite (Or.inr rfl) (Or.inl rfl)) (Or.inl rfl)) (Nat.le_of_ble_eq_true rfl) (Nat.le_of_ble_eq_true rfl) e1 e2 dX9_may_177
          refine g_if_ne (pc := 164) X (tgt := 176) dX9_may_164 rfl (fun c0 => ?_) (fun c0 => ?_)
          · refine g_iconst (pc := 176) X (v := 0) dX9_may_176 rfl ?_
            exact g_top (by rw [if_neg c0]) kJ
          · refine g_iload (pc := 167) X 3 rfl dX9_may_167 ?_
            refine g_if_ne (pc := 169) X (tgt := 176) dX9_may_169 rfl (fun c1 => ?_) (fun c1 => ?_)
            · refine g_iconst (pc := 176) X (v := 0) dX9_may_176 rfl ?_
              exact g_top (by rw [if_pos c0, if_neg c1]) kJ
            · refine g_iconst (pc := 172) X (v := 1) dX9_may_172 rfl ?_
              refine g_goto (pc := 173) X (tgt := 177) dX9_may_173 rfl ?_
              exact g_top (by rw [if_pos c0, if_pos c1]) kJ
        · have h := br_n c32 h
          refine g_tswO (pc := 114) X (tgt := 206) dX9_may_114 (by have n0 : Int32.toInt v4 ≠ 2 := nt_ c29; have n1 : Int32.toInt v4 ≠ 3 := nt_ c30; have n2 : Int32.toInt v4 ≠ 4 := nt_ c31; have n3 : Int32.toInt v4 ≠ 5 := nt_ c32; omega) rfl ?_
          refine g_iload (pc := 206) X 2 rfl dX9_may_206 ?_
          refine g_iload (pc := 208) X 3 rfl dX9_may_208 ?_
          have kJ : Gd t V 10 0 0 (Qe t V (some (.int r)) w' 0 0) 218 [(9, .int s0), (4, .int v4), (7, .int v7), (8, .int v8)] [.int (if v7 = v8 then 1 else 0 : Int32)] w := by
            obtain ⟨e1, e2⟩ := rt_i h
            exact g_zret (pc := 218) X Y.2.2.1 (bz_ite (Or.inr rfl) (Or.inl rfl)) (Nat.le_of_ble_eq_true rfl) (Nat.le_of_ble_eq_true rfl) e1 e2 dX9_may_218
          refine g_icmp_ne (pc := 210) X (tgt := 217) dX9_may_210 rfl (fun c0 => ?_) (fun c0 => ?_)
          · refine g_iconst (pc := 217) X (v := 0) dX9_may_217 rfl ?_
            exact g_top (by rw [if_neg c0]) kJ
          · refine g_iconst (pc := 213) X (v := 1) dX9_may_213 rfl ?_
            refine g_goto (pc := 214) X (tgt := 218) dX9_may_214 rfl ?_
            exact g_top (by rw [if_pos c0]) kJ

def j_X9_may_109  (v4 : Int32) (v7 : Int32) (v8 : Int32) (w : Wd) : Option (Int32 × Wd) := j_X9_may_110 v4 v7 v8 0 w
theorem bj_X9_may_109 {t : Ct} {V : Vt} {r : Int32} {w' : Wd} (Y : Hd_ t V cX9_may 10 RX9 { frames := 4, cells := 0, slots := 0, locals := 88 } (some .boolean) "may") {v4 : Int32} {v7 : Int32} {v8 : Int32} {w : Wd} (h : j_X9_may_109  v4 v7 v8 w = some (r, w')) : Gd t V 10 0 0 (Qe t V (some (.int r)) w' 0 0) 109 [(4, .int v4), (7, .int v7), (8, .int v8)] [] w := by
  have X := Y.1
  unfold j_X9_may_109 at h
  refine g_iconst (pc := 109) X (v := 0) dX9_may_109 rfl ?_
  refine g_sub (lv' := [(4, .int v4), (7, .int v7), (8, .int v8)]) [0, 1, 2] rfl ?_
  exact bj_X9_may_110 Y  h

def j_X9_may_105  (v4 : Int32) (v7 : Int32) (v8 : Int32) (w : Wd) : Option (Int32 × Wd) := j_X9_may_110 v4 v7 v8 1 w
theorem bj_X9_may_105 {t : Ct} {V : Vt} {r : Int32} {w' : Wd} (Y : Hd_ t V cX9_may 10 RX9 { frames := 4, cells := 0, slots := 0, locals := 88 } (some .boolean) "may") {v4 : Int32} {v7 : Int32} {v8 : Int32} {w : Wd} (h : j_X9_may_105  v4 v7 v8 w = some (r, w')) : Gd t V 10 0 0 (Qe t V (some (.int r)) w' 0 0) 105 [(4, .int v4), (7, .int v7), (8, .int v8)] [] w := by
  have X := Y.1
  unfold j_X9_may_105 at h
  refine g_iconst (pc := 105) X (v := 1) dX9_may_105 rfl ?_
  refine g_goto (pc := 106) X (tgt := 110) dX9_may_106 rfl ?_
  refine g_sub (lv' := [(4, .int v4), (7, .int v7), (8, .int v8)]) [0, 1, 2] rfl ?_
  exact bj_X9_may_110 Y  h

def f_X9_may (v0 : Nat) (v1 : Int32) (v2 : Int32) (v3 : Int32) (w : Wd) : Option (Int32 × Wd) := (if wK w v0 = 9 then
 (bd2 (f_X9_of v0 v1 0 w) fun r2 w3 =>
 (if wK w3 v0 = 9 then
 (bd2 (f_X9_setAt v0 r2 v2 w3) fun r6 w7 =>
 (if wK w7 v0 = 9 then
 (bd2 (f_X9_of v0 v1 1 w7) fun r10 w11 =>
 (if 0 ≤ r10 then
 some (0, w11)
 else
 (if r6 < 0 then
 some (0, w11)
 else
 (if (r6 &&& v3) = 0 then
 (bd2 (f_X9_isBroad r2 w11) fun r13 w14 =>
 (lb_ (if r13 = 0 then v2 + 1 else v2 + 2 : Int32) fun x16 =>
 (if wK w14 v0 = 9 then
 (bd2 (f_X9_isSome v0 v3 (v2 - 1) w14) fun r19 w20 =>
 (if wK w20 v0 = 9 then
 (bd2 (f_X9_isSome v0 v3 x16 w20) fun r23 w24 =>
 (bd2 (f_X9_isFriend r2 w24) fun r26 w27 =>
 (if r26 = 0 then
 j_X9_may_109 r2 r19 r23 w27
 else
 (if wK w27 v0 = 9 then
 (bd2 (f_X9_isByFriend v0 (v2 - 1) w27) fun r34 w35 =>
 (if r34 = 0 then
 (if wK w35 v0 = 9 then
 (bd2 (f_X9_isByFriend v0 x16 w35) fun r38 w39 =>
 (lb_ (if r38 = 0 then 0 else 1 : Int32) fun x41 =>
 (if r2 = 2 then
 some ((if r19 = r23 then 1 else (if x41 = 0 then 0 else 1 : Int32) : Int32), w39)
 else
 (if r2 = 3 then
 some ((if r19 = 0 then (if r23 = 0 then 1 else 0 : Int32) else 0 : Int32), w39)
 else
 (if r2 = 4 then
 some ((if r19 = r23 then 1 else (if x41 = 0 then (if r19 = 0 then (if r23 = 0 then 0 else 1 : Int32) else 1 : Int32) else 1 : Int32) : Int32), w39)
 else
 (if r2 = 5 then
 some ((if r19 = 0 then (if r23 = 0 then 1 else 0 : Int32) else 0 : Int32), w39)
 else
 some ((if r19 = r23 then 1 else 0 : Int32), w39)))))))
 else none)
 else
 j_X9_may_105 r2 r19 r23 w35))
 else none))))
 else none))
 else none)))
 else
 some (0, w11)))))
 else none))
 else none))
 else none)
theorem c_X9_may {l : Launch} {V : Vt} {v0 : Nat} {v1 : Int32} {v2 : Int32} {v3 : Int32} {w w' : Wd} {r : Int32} (h : f_X9_may v0 v1 v2 v3 w = some (r, w')) : MetW l V yX9_may cX9_may 10 (some .boolean) { frames := 4, cells := 0, slots := 0, locals := 88 } w [rf V v0, .int v1, .int v2, .int v3] (some (.int r)) w' 0 0 := by
  refine g_start (by decide) (Nat.le_of_ble_eq_true rfl) ?_
  intro t _ hrm X hret hnm
  have Y : Hd_ t V cX9_may 10 RX9 { frames := 4, cells := 0, slots := 0, locals := 88 } (some .boolean) "may" := ⟨X, hrm, hret, hnm⟩
  refine g_as (lv' := [(0, rf V v0), (1, .int v1), (2, .int v2), (3, .int v3)]) (st' := []) rfl rfl ?_
  unfold f_X9_may at h
  refine g_aload_n (pc := 0) X 0 rfl dX9_may_0 ?_
  refine g_iload_n (pc := 1) X 1 rfl dX9_may_1 ?_
  refine g_iconst (pc := 2) X (v := 0) dX9_may_2 rfl ?_
  obtain ⟨k1, h⟩ := gd_i h
  obtain ⟨r2, w3, h4, h⟩ := bd2_i h
  refine g_callV (pc := 3) X FcX9 k1 mk_X9_of q_1142 q_24 q_1140 (c_X9_of h4) rfl rfl (by rw [Y.2.1]; decide)  rfl (rest := []) rfl (Nat.le_of_ble_eq_true rfl) (by rw [Y.2.1]; exact ⟨Nat.le_of_ble_eq_true rfl, Nat.le_of_ble_eq_true rfl⟩) dX9_may_3 (st' := [.int r2]) rfl ?_
  refine g_istore (pc := 6) X (lv' := [(4, .int r2), (0, rf V v0), (1, .int v1), (2, .int v2), (3, .int v3)]) dX9_may_6 (by decide) rfl ?_
  refine g_aload_n (pc := 8) X 1 rfl dX9_may_8 ?_
  refine g_iload (pc := 9) X 0 rfl dX9_may_9 ?_
  refine g_iload_n (pc := 11) X 3 rfl dX9_may_11 ?_
  obtain ⟨k5, h⟩ := gd_i h
  obtain ⟨r6, w7, h8, h⟩ := bd2_i h
  refine g_callV (pc := 12) X FcX9 k5 mk_X9_setAt q_1171 q_29 q_1169 (c_X9_setAt h8) rfl rfl (by rw [Y.2.1]; decide)  rfl (rest := []) rfl (Nat.le_of_ble_eq_true rfl) (by rw [Y.2.1]; exact ⟨Nat.le_of_ble_eq_true rfl, Nat.le_of_ble_eq_true rfl⟩) dX9_may_12 (st' := [.int r6]) rfl ?_
  refine g_istore (pc := 15) X (lv' := [(5, .int r6), (4, .int r2), (0, rf V v0), (1, .int v1), (2, .int v2), (3, .int v3)]) dX9_may_15 (by decide) rfl ?_
  refine g_aload_n (pc := 17) X 2 rfl dX9_may_17 ?_
  refine g_iload_n (pc := 18) X 3 rfl dX9_may_18 ?_
  refine g_iconst (pc := 19) X (v := 1) dX9_may_19 rfl ?_
  obtain ⟨k9, h⟩ := gd_i h
  obtain ⟨r10, w11, h12, h⟩ := bd2_i h
  refine g_callV (pc := 20) X FcX9 k9 mk_X9_of q_1142 q_24 q_1140 (c_X9_of h12) rfl rfl (by rw [Y.2.1]; decide)  rfl (rest := []) rfl (Nat.le_of_ble_eq_true rfl) (by rw [Y.2.1]; exact ⟨Nat.le_of_ble_eq_true rfl, Nat.le_of_ble_eq_true rfl⟩) dX9_may_20 (st' := [.int r10]) rfl ?_
  refine g_if_ge (pc := 23) X (tgt := 38) dX9_may_23 rfl (fun c => ?_) (fun c => ?_)
  · have h := br_y c h
    refine g_iconst (pc := 38) X (v := 0) dX9_may_38 rfl ?_
    obtain ⟨e1, e2⟩ := rt_i h
    exact g_zret (pc := 39) X Y.2.2.1 (Or.inl rfl) (Nat.le_of_ble_eq_true rfl) (Nat.le_of_ble_eq_true rfl) e1 e2 dX9_may_39
  · have h := br_n c h
    refine g_iload (pc := 26) X 0 rfl dX9_may_26 ?_
    refine g_if_lt (pc := 28) X (tgt := 38) dX9_may_28 rfl (fun c => ?_) (fun c => ?_)
    · have h := br_y c h
      refine g_iconst (pc := 38) X (v := 0) dX9_may_38 rfl ?_
      obtain ⟨e1, e2⟩ := rt_i h
      exact g_zret (pc := 39) X Y.2.2.1 (Or.inl rfl) (Nat.le_of_ble_eq_true rfl) (Nat.le_of_ble_eq_true rfl) e1 e2 dX9_may_39
    · have h := br_n c h
      refine g_iload (pc := 31) X 0 rfl dX9_may_31 ?_
      refine g_iload_n (pc := 33) X 5 rfl dX9_may_33 ?_
      refine g_iand (pc := 34) X dX9_may_34 ?_
      refine g_if_eq (pc := 35) X (tgt := 40) dX9_may_35 rfl (fun c => ?_) (fun c => ?_)
      · have h := br_y c h
        refine g_iload (pc := 40) X 1 rfl dX9_may_40 ?_
        obtain ⟨r13, w14, h15, h⟩ := bd2_i h
        refine g_callS (pc := 42) X mk_X9_isBroad q_1174 q_1173 (c_X9_isBroad h15) rfl rfl (by rw [Y.2.1]; decide)  rfl (rest := []) rfl (Nat.le_of_ble_eq_true rfl) (by rw [Y.2.1]; exact ⟨Nat.le_of_ble_eq_true rfl, Nat.le_of_ble_eq_true rfl⟩) dX9_may_42 (st' := [.int r13]) rfl ?_
        have kJ : Gd t V 10 0 0 (Qe t V (some (.int r)) w' 0 0) 57 [(5, .int r6), (4, .int r2), (0, rf V v0), (1, .int v1), (2, .int v2), (3, .int v3)] [.int (if r13 = 0 then v2 + 1 else v2 + 2 : Int32)] w14 := by
          obtain ⟨x16, e17, h⟩ := lb_i h
          refine g_top e17 ?_
          refine g_istore (pc := 57) X (lv' := [(6, .int x16), (5, .int r6), (4, .int r2), (0, rf V v0), (1, .int v1), (2, .int v2), (3, .int v3)]) dX9_may_57 (by decide) rfl ?_
          refine g_aload_n (pc := 59) X 3 rfl dX9_may_59 ?_
          refine g_iload_n (pc := 60) X 6 rfl dX9_may_60 ?_
          refine g_iload_n (pc := 61) X 5 rfl dX9_may_61 ?_
          refine g_iconst (pc := 62) X (v := 1) dX9_may_62 rfl ?_
          refine g_isub (pc := 63) X dX9_may_63 ?_
          obtain ⟨k18, h⟩ := gd_i h
          obtain ⟨r19, w20, h21, h⟩ := bd2_i h
          refine g_callV (pc := 64) X FcX9 k18 mk_X9_isSome q_1190 q_33 q_1188 (c_X9_isSome h21) rfl rfl (by rw [Y.2.1]; decide)  rfl (rest := []) rfl (Nat.le_of_ble_eq_true rfl) (by rw [Y.2.1]; exact ⟨Nat.le_of_ble_eq_true rfl, Nat.le_of_ble_eq_true rfl⟩) dX9_may_64 (st' := [.int r19]) rfl ?_
          refine g_istore (pc := 67) X (lv' := [(7, .int r19), (6, .int x16), (5, .int r6), (4, .int r2), (0, rf V v0), (1, .int v1), (2, .int v2), (3, .int v3)]) dX9_may_67 (by decide) rfl ?_
          refine g_aload_n (pc := 69) X 4 rfl dX9_may_69 ?_
          refine g_iload_n (pc := 70) X 7 rfl dX9_may_70 ?_
          refine g_iload (pc := 71) X 1 rfl dX9_may_71 ?_
          obtain ⟨k22, h⟩ := gd_i h
          obtain ⟨r23, w24, h25, h⟩ := bd2_i h
          refine g_callV (pc := 73) X FcX9 k22 mk_X9_isSome q_1190 q_33 q_1188 (c_X9_isSome h25) rfl rfl (by rw [Y.2.1]; decide)  rfl (rest := []) rfl (Nat.le_of_ble_eq_true rfl) (by rw [Y.2.1]; exact ⟨Nat.le_of_ble_eq_true rfl, Nat.le_of_ble_eq_true rfl⟩) dX9_may_73 (st' := [.int r23]) rfl ?_
          refine g_istore (pc := 76) X (lv' := [(8, .int r23), (7, .int r19), (6, .int x16), (5, .int r6), (4, .int r2), (0, rf V v0), (1, .int v1), (2, .int v2), (3, .int v3)]) dX9_may_76 (by decide) rfl ?_
          refine g_iload (pc := 78) X 4 rfl dX9_may_78 ?_
          obtain ⟨r26, w27, h28, h⟩ := bd2_i h
          refine g_callS (pc := 80) X mk_X9_isFriend q_1197 q_1196 (c_X9_isFriend h28) rfl rfl (by rw [Y.2.1]; decide)  rfl (rest := []) rfl (Nat.le_of_ble_eq_true rfl) (by rw [Y.2.1]; exact ⟨Nat.le_of_ble_eq_true rfl, Nat.le_of_ble_eq_true rfl⟩) dX9_may_80 (st' := [.int r26]) rfl ?_
          refine g_if_eq (pc := 83) X (tgt := 109) dX9_may_83 rfl (fun c => ?_) (fun c => ?_)
          · have h := br_y c h
            refine g_sub (lv' := [(4, .int r2), (7, .int r19), (8, .int r23)]) [4, 1, 0] rfl ?_
            exact bj_X9_may_109 Y  h
          · have h := br_n c h
            refine g_aload_n (pc := 86) X 5 rfl dX9_may_86 ?_
            refine g_iload_n (pc := 87) X 7 rfl dX9_may_87 ?_
            refine g_iconst (pc := 88) X (v := 1) dX9_may_88 rfl ?_
            refine g_isub (pc := 89) X dX9_may_89 ?_
            obtain ⟨k33, h⟩ := gd_i h
            obtain ⟨r34, w35, h36, h⟩ := bd2_i h
            refine g_callV (pc := 90) X FcX9 k33 mk_X9_isByFriend q_1201 q_35 q_1199 (c_X9_isByFriend h36) rfl rfl (by rw [Y.2.1]; decide)  rfl (rest := []) rfl (Nat.le_of_ble_eq_true rfl) (by rw [Y.2.1]; exact ⟨Nat.le_of_ble_eq_true rfl, Nat.le_of_ble_eq_true rfl⟩) dX9_may_90 (st' := [.int r34]) rfl ?_
            refine g_if_ne (pc := 93) X (tgt := 105) dX9_may_93 rfl (fun c => ?_) (fun c => ?_)
            · have h := br_n c h
              refine g_sub (lv' := [(4, .int r2), (7, .int r19), (8, .int r23)]) [4, 1, 0] rfl ?_
              exact bj_X9_may_105 Y  h
            · have h := br_y c h
              refine g_aload_n (pc := 96) X 5 rfl dX9_may_96 ?_
              refine g_iload (pc := 97) X 2 rfl dX9_may_97 ?_
              obtain ⟨k37, h⟩ := gd_i h
              obtain ⟨r38, w39, h40, h⟩ := bd2_i h
              refine g_callV (pc := 99) X FcX9 k37 mk_X9_isByFriend q_1201 q_35 q_1199 (c_X9_isByFriend h40) rfl rfl (by rw [Y.2.1]; decide)  rfl (rest := []) rfl (Nat.le_of_ble_eq_true rfl) (by rw [Y.2.1]; exact ⟨Nat.le_of_ble_eq_true rfl, Nat.le_of_ble_eq_true rfl⟩) dX9_may_99 (st' := [.int r38]) rfl ?_
              have kJ : Gd t V 10 0 0 (Qe t V (some (.int r)) w' 0 0) 110 [(8, .int r23), (7, .int r19), (6, .int x16), (5, .int r6), (4, .int r2), (0, rf V v0), (1, .int v1), (2, .int v2), (3, .int v3)] [.int (if r38 = 0 then 0 else 1 : Int32)] w39 := by
                obtain ⟨x41, e42, h⟩ := lb_i h
                refine g_top e42 ?_
                refine g_istore (pc := 110) X (lv' := [(9, .int x41), (8, .int r23), (7, .int r19), (6, .int x16), (5, .int r6), (4, .int r2), (0, rf V v0), (1, .int v1), (2, .int v2), (3, .int v3)]) dX9_may_110 (by decide) rfl ?_
                refine g_iload (pc := 112) X 5 rfl dX9_may_112 ?_
                by_cases c43 : r2 = 2
                · have h := br_y c43 h
                  refine g_tswI (pc := 114) X 2 (tgt := 144) dX9_may_114 c43 (by decide) (by decide) rfl rfl ?_
                  refine g_iload (pc := 144) X 2 rfl dX9_may_144 ?_
                  refine g_iload (pc := 146) X 1 rfl dX9_may_146 ?_
                  have kJ : Gd t V 10 0 0 (Qe t V (some (.int r)) w' 0 0) 161 [(9, .int x41), (8, .int r23), (7, .int r19), (6, .int x16), (5, .int r6), (4, .int r2), (0, rf V v0), (1, .int v1), (2, .int v2), (3, .int v3)] [.int (if r19 = r23 then 1 else (if x41 = 0 then 0 else 1 : Int32) : Int32)] w39 := by
                    obtain ⟨e1, e2⟩ := rt_i h
                    exact g_zret (pc := 161) X Y.2.2.1 (bz_ite (Or.inr rfl) (bz_ite (Or.inl rfl) (Or.inr rfl))) (Nat.le_of_ble_eq_true rfl) (Nat.le_of_ble_eq_true rfl) e1 e2 dX9_may_161
                  refine g_icmp_eq (pc := 148) X (tgt := 156) dX9_may_148 rfl (fun c0 => ?_) (fun c0 => ?_)
                  · refine g_iconst (pc := 156) X (v := 1) dX9_may_156 rfl ?_
                    refine g_goto (pc := 157) X (tgt := 161) dX9_may_157 rfl ?_
                    exact g_top (by rw [if_pos c0]) kJ
                  · refine g_iload (pc := 151) X 0 rfl dX9_may_151 ?_
                    refine g_if_eq (pc := 153) X (tgt := 160) dX9_may_153 rfl (fun c1 => ?_) (fun c1 => ?_)
                    · refine g_iconst (pc := 160) X (v := 0) dX9_may_160 rfl ?_
                      exact g_top (by rw [if_neg c0, if_pos c1]) kJ
                    · refine g_iconst (pc := 156) X (v := 1) dX9_may_156 rfl ?_
                      refine g_goto (pc := 157) X (tgt := 161) dX9_may_157 rfl ?_
                      exact g_top (by rw [if_neg c0, if_neg c1]) kJ
                · have h := br_n c43 h
                  by_cases c44 : r2 = 3
                  · have h := br_y c44 h
                    refine g_tswI (pc := 114) X 3 (tgt := 162) dX9_may_114 c44 (by decide) (by decide) rfl rfl ?_
                    refine g_iload (pc := 162) X 2 rfl dX9_may_162 ?_
                    have kJ : Gd t V 10 0 0 (Qe t V (some (.int r)) w' 0 0) 177 [(9, .int x41), (8, .int r23), (7, .int r19), (6, .int x16), (5, .int r6), (4, .int r2), (0, rf V v0), (1, .int v1), (2, .int v2), (3, .int v3)] [.int (if r19 = 0 then (if r23 = 0 then 1 else 0 : Int32) else 0 : Int32)] w39 := by
                      obtain ⟨e1, e2⟩ := rt_i h
                      exact g_zret (pc := 177) X Y.2.2.1 (bz_ite (bz_ite (Or.inr rfl) (Or.inl rfl)) (Or.inl rfl)) (Nat.le_of_ble_eq_true rfl) (Nat.le_of_ble_eq_true rfl) e1 e2 dX9_may_177
                    refine g_if_ne (pc := 164) X (tgt := 176) dX9_may_164 rfl (fun c0 => ?_) (fun c0 => ?_)
                    · refine g_iconst (pc := 176) X (v := 0) dX9_may_176 rfl ?_
                      exact g_top (by rw [if_neg c0]) kJ
                    · refine g_iload (pc := 167) X 1 rfl dX9_may_167 ?_
                      refine g_if_ne (pc := 169) X (tgt := 176) dX9_may_169 rfl (fun c1 => ?_) (fun c1 => ?_)
                      · refine g_iconst (pc := 176) X (v := 0) dX9_may_176 rfl ?_
                        exact g_top (by rw [if_pos c0, if_neg c1]) kJ
                      · refine g_iconst (pc := 172) X (v := 1) dX9_may_172 rfl ?_
                        refine g_goto (pc := 173) X (tgt := 177) dX9_may_173 rfl ?_
                        exact g_top (by rw [if_pos c0, if_pos c1]) kJ
                  · have h := br_n c44 h
                    by_cases c45 : r2 = 4
                    · have h := br_y c45 h
                      refine g_tswI (pc := 114) X 4 (tgt := 178) dX9_may_114 c45 (by decide) (by decide) rfl rfl ?_
                      refine g_iload (pc := 178) X 2 rfl dX9_may_178 ?_
                      refine g_iload (pc := 180) X 1 rfl dX9_may_180 ?_
                      have kJ : Gd t V 10 0 0 (Qe t V (some (.int r)) w' 0 0) 205 [(9, .int x41), (8, .int r23), (7, .int r19), (6, .int x16), (5, .int r6), (4, .int r2), (0, rf V v0), (1, .int v1), (2, .int v2), (3, .int v3)] [.int (if r19 = r23 then 1 else (if x41 = 0 then (if r19 = 0 then (if r23 = 0 then 0 else 1 : Int32) else 1 : Int32) else 1 : Int32) : Int32)] w39 := by
                        obtain ⟨e1, e2⟩ := rt_i h
                        exact g_zret (pc := 205) X Y.2.2.1 (bz_ite (Or.inr rfl) (bz_ite (bz_ite (bz_ite (Or.inl rfl) (Or.inr rfl)) (Or.inr rfl)) (Or.inr rfl))) (Nat.le_of_ble_eq_true rfl) (Nat.le_of_ble_eq_true rfl) e1 e2 dX9_may_205
                      refine g_icmp_eq (pc := 182) X (tgt := 200) dX9_may_182 rfl (fun c0 => ?_) (fun c0 => ?_)
                      · refine g_iconst (pc := 200) X (v := 1) dX9_may_200 rfl ?_
                        refine g_goto (pc := 201) X (tgt := 205) dX9_may_201 rfl ?_
                        exact g_top (by rw [if_pos c0]) kJ
                      · refine g_iload (pc := 185) X 0 rfl dX9_may_185 ?_
                        refine g_if_ne (pc := 187) X (tgt := 200) dX9_may_187 rfl (fun c1 => ?_) (fun c1 => ?_)
                        · refine g_iconst (pc := 200) X (v := 1) dX9_may_200 rfl ?_
                          refine g_goto (pc := 201) X (tgt := 205) dX9_may_201 rfl ?_
                          exact g_top (by rw [if_neg c0, if_neg c1]) kJ
                        · refine g_iload (pc := 190) X 2 rfl dX9_may_190 ?_
                          refine g_if_ne (pc := 192) X (tgt := 200) dX9_may_192 rfl (fun c2 => ?_) (fun c2 => ?_)
                          · refine g_iconst (pc := 200) X (v := 1) dX9_may_200 rfl ?_
                            refine g_goto (pc := 201) X (tgt := 205) dX9_may_201 rfl ?_
                            exact g_top (by rw [if_neg c0, if_pos c1, if_neg c2]) kJ
                          · refine g_iload (pc := 195) X 1 rfl dX9_may_195 ?_
                            refine g_if_eq (pc := 197) X (tgt := 204) dX9_may_197 rfl (fun c3 => ?_) (fun c3 => ?_)
                            · refine g_iconst (pc := 204) X (v := 0) dX9_may_204 rfl ?_
                              exact g_top (by rw [if_neg c0, if_pos c1, if_pos c2, if_pos c3]) kJ
                            · refine g_iconst (pc := 200) X (v := 1) dX9_may_200 rfl ?_
                              refine g_goto (pc := 201) X (tgt := 205) dX9_may_201 rfl ?_
                              exact g_top (by rw [if_neg c0, if_pos c1, if_pos c2, if_neg c3]) kJ
                    · have h := br_n c45 h
                      by_cases c46 : r2 = 5
                      · have h := br_y c46 h
                        refine g_tswI (pc := 114) X 5 (tgt := 162) dX9_may_114 c46 (by decide) (by decide) rfl rfl ?_
                        refine g_iload (pc := 162) X 2 rfl dX9_may_162 ?_
                        have kJ : Gd t V 10 0 0 (Qe t V (some (.int r)) w' 0 0) 177 [(9, .int x41), (8, .int r23), (7, .int r19), (6, .int x16), (5, .int r6), (4, .int r2), (0, rf V v0), (1, .int v1), (2, .int v2), (3, .int v3)] [.int (if r19 = 0 then (if r23 = 0 then 1 else 0 : Int32) else 0 : Int32)] w39 := by
                          obtain ⟨e1, e2⟩ := rt_i h
                          exact g_zret (pc := 177) X Y.2.2.1 (bz_ite (bz_ite (Or.inr rfl) (Or.inl rfl)) (Or.inl rfl)) (Nat.le_of_ble_eq_true rfl) (Nat.le_of_ble_eq_true rfl) e1 e2 dX9_may_177
                        refine g_if_ne (pc := 164) X (tgt := 176) dX9_may_164 rfl (fun c0 => ?_) (fun c0 => ?_)
                        · refine g_iconst (pc := 176) X (v := 0) dX9_may_176 rfl ?_
                          exact g_top (by rw [if_neg c0]) kJ
                        · refine g_iload (pc := 167) X 1 rfl dX9_may_167 ?_
                          refine g_if_ne (pc := 169) X (tgt := 176) dX9_may_169 rfl (fun c1 => ?_) (fun c1 => ?_)
                          · refine g_iconst (pc := 176) X (v := 0) dX9_may_176 rfl ?_
                            exact g_top (by rw [if_pos c0, if_neg c1]) kJ
                          · refine g_iconst (pc := 172) X (v := 1) dX9_may_172 rfl ?_
                            refine g_goto (pc := 173) X (tgt := 177) dX9_may_173 rfl ?_
                            exact g_top (by rw [if_pos c0, if_pos c1]) kJ
                      · have h := br_n c46 h
                        refine g_tswO (pc := 114) X (tgt := 206) dX9_may_114 (by have n0 : Int32.toInt r2 ≠ 2 := nt_ c43; have n1 : Int32.toInt r2 ≠ 3 := nt_ c44; have n2 : Int32.toInt r2 ≠ 4 := nt_ c45; have n3 : Int32.toInt r2 ≠ 5 := nt_ c46; omega) rfl ?_
                        refine g_iload (pc := 206) X 2 rfl dX9_may_206 ?_
                        refine g_iload (pc := 208) X 1 rfl dX9_may_208 ?_
                        have kJ : Gd t V 10 0 0 (Qe t V (some (.int r)) w' 0 0) 218 [(9, .int x41), (8, .int r23), (7, .int r19), (6, .int x16), (5, .int r6), (4, .int r2), (0, rf V v0), (1, .int v1), (2, .int v2), (3, .int v3)] [.int (if r19 = r23 then 1 else 0 : Int32)] w39 := by
                          obtain ⟨e1, e2⟩ := rt_i h
                          exact g_zret (pc := 218) X Y.2.2.1 (bz_ite (Or.inr rfl) (Or.inl rfl)) (Nat.le_of_ble_eq_true rfl) (Nat.le_of_ble_eq_true rfl) e1 e2 dX9_may_218
                        refine g_icmp_ne (pc := 210) X (tgt := 217) dX9_may_210 rfl (fun c0 => ?_) (fun c0 => ?_)
                        · refine g_iconst (pc := 217) X (v := 0) dX9_may_217 rfl ?_
                          exact g_top (by rw [if_neg c0]) kJ
                        · refine g_iconst (pc := 213) X (v := 1) dX9_may_213 rfl ?_
                          refine g_goto (pc := 214) X (tgt := 218) dX9_may_214 rfl ?_
                          exact g_top (by rw [if_pos c0]) kJ
              refine g_if_eq (pc := 102) X (tgt := 109) dX9_may_102 rfl (fun c0 => ?_) (fun c0 => ?_)
              · refine g_iconst (pc := 109) X (v := 0) dX9_may_109 rfl ?_
                exact g_top (by rw [if_pos c0]) kJ
              · refine g_iconst (pc := 105) X (v := 1) dX9_may_105 rfl ?_
                refine g_goto (pc := 106) X (tgt := 110) dX9_may_106 rfl ?_
                exact g_top (by rw [if_neg c0]) kJ
        refine g_if_eq (pc := 45) X (tgt := 54) dX9_may_45 rfl (fun c0 => ?_) (fun c0 => ?_)
        · refine g_iload_n (pc := 54) X 4 rfl dX9_may_54 ?_
          refine g_iconst (pc := 55) X (v := 1) dX9_may_55 rfl ?_
          refine g_iadd (pc := 56) X dX9_may_56 ?_
          exact g_top (by rw [if_pos c0]) kJ
        · refine g_iload_n (pc := 48) X 4 rfl dX9_may_48 ?_
          refine g_iconst (pc := 49) X (v := 2) dX9_may_49 rfl ?_
          refine g_iadd (pc := 50) X dX9_may_50 ?_
          refine g_goto (pc := 51) X (tgt := 57) dX9_may_51 rfl ?_
          exact g_top (by rw [if_neg c0]) kJ
      · have h := br_n c h
        refine g_iconst (pc := 38) X (v := 0) dX9_may_38 rfl ?_
        obtain ⟨e1, e2⟩ := rt_i h
        exact g_zret (pc := 39) X Y.2.2.1 (Or.inl rfl) (Nat.le_of_ble_eq_true rfl) (Nat.le_of_ble_eq_true rfl) e1 e2 dX9_may_39

def L_X9_placesOf_10  (n : Nat) (v0 : Nat) (v1 : Int32) (v2 : Int32) (v3 : Int32) (v4 : Int32) (w : Wd) : Option (Int32 × Wd) := match n with
  | 0 => none
  | n + 1 => (if wK w v0 = 9 then
 (bd1 (wR w v0 0) fun a6 =>
 (if aK 11 w a6 2 = true then
 (if (wI w a6 (nx 2)) ≤ v4 then
 some (v3, w)
 else
 (bd2 (f_X9_may v0 v1 v4 v2 w) fun r9 w10 =>
 (lb_ (v3 ||| (if r9 = 0 then 0 else 1 <<< (v4 &&& 31) : Int32)) fun x12 =>
 (lb_ (v4 + 1) fun x14 =>
 L_X9_placesOf_10 n v0 v1 v2 x12 x14 w10))))
 else none))
 else none)
theorem bL_X9_placesOf_10 {t : Ct} {V : Vt} {r : Int32} {w' : Wd} (Y : Hd_ t V cX9_placesOf 5 RX9 { frames := 5, cells := 0, slots := 0, locals := 117 } (some .int) "placesOf") : ∀ {n : Nat} {v0 : Nat} {v1 : Int32} {v2 : Int32} {v3 : Int32} {v4 : Int32} {w : Wd}, L_X9_placesOf_10  n v0 v1 v2 v3 v4 w = some (r, w') → Gd t V 5 0 0 (Qe t V (some (.int r)) w' 0 0) 10 [(0, rf V v0), (1, .int v1), (2, .int v2), (3, .int v3), (4, .int v4)] [] w := by
  have X := Y.1
  intro n
  induction n with
  | zero => intro v0 v1 v2 v3 v4 w h; cases h
  | succ n ih0 =>
    have ih : ∀ (v0 : Nat) (v1 : Int32) (v2 : Int32) (v3 : Int32) (v4 : Int32) (w : Wd), L_X9_placesOf_10  n v0 v1 v2 v3 v4 w = some (r, w') → Gd t V 5 0 0 (Qe t V (some (.int r)) w' 0 0) 10 [(0, rf V v0), (1, .int v1), (2, .int v2), (3, .int v3), (4, .int v4)] [] w := fun v0 v1 v2 v3 v4 w h => ih0 h
    clear ih0
    intro v0 v1 v2 v3 v4 w h
    unfold L_X9_placesOf_10 at h
    refine g_iload (pc := 10) X 4 rfl dX9_placesOf_10 ?_
    refine g_aload_n (pc := 12) X 0 rfl dX9_placesOf_12 ?_
    obtain ⟨k5, h⟩ := gd_i h
    obtain ⟨a6, e7, h⟩ := bd1_i h
    refine g_getR (pc := 13) X FcX9 k5 0 e7 (by decide) rfl q_1020 dX9_placesOf_13 ?_
    refine g_iconst (pc := 16) X (v := 2) dX9_placesOf_16 rfl ?_
    obtain ⟨k8, h⟩ := gd_i h
    refine g_iald (pc := 17) X k8 dX9_placesOf_17 ?_
    refine g_icmp_ge (pc := 18) X (tgt := 49) dX9_placesOf_18 rfl (fun c => ?_) (fun c => ?_)
    · have h := br_y c h
      refine g_iload_n (pc := 49) X 3 rfl dX9_placesOf_49 ?_
      obtain ⟨e1, e2⟩ := rt_i h
      exact g_iret (pc := 50) X Y.2.2.1 (Nat.le_of_ble_eq_true rfl) (Nat.le_of_ble_eq_true rfl) e1 e2 dX9_placesOf_50
    · have h := br_n c h
      refine g_iload_n (pc := 21) X 3 rfl dX9_placesOf_21 ?_
      refine g_aload_n (pc := 22) X 0 rfl dX9_placesOf_22 ?_
      refine g_iload_n (pc := 23) X 1 rfl dX9_placesOf_23 ?_
      refine g_iload (pc := 24) X 4 rfl dX9_placesOf_24 ?_
      refine g_iload_n (pc := 26) X 2 rfl dX9_placesOf_26 ?_
      obtain ⟨r9, w10, h11, h⟩ := bd2_i h
      refine g_callV (pc := 27) X FcX9 k5 mk_X9_may q_1186 q_32 q_1184 (c_X9_may h11) rfl rfl (by rw [Y.2.1]; decide)  rfl (rest := [.int v3]) rfl (Nat.le_of_ble_eq_true rfl) (by rw [Y.2.1]; exact ⟨Nat.le_of_ble_eq_true rfl, Nat.le_of_ble_eq_true rfl⟩) dX9_placesOf_27 (st' := [.int r9, .int v3]) rfl ?_
      have kJ : Gd t V 5 0 0 (Qe t V (some (.int r)) w' 0 0) 41 [(0, rf V v0), (1, .int v1), (2, .int v2), (3, .int v3), (4, .int v4)] [.int (if r9 = 0 then 0 else 1 <<< (v4 &&& 31) : Int32), .int v3] w10 := by
        refine g_ior (pc := 41) X dX9_placesOf_41 ?_
        obtain ⟨x12, e13, h⟩ := lb_i h
        refine g_top e13 ?_
        refine g_istore_n (pc := 42) X (lv' := [(3, .int x12), (0, rf V v0), (1, .int v1), (2, .int v2), (4, .int v4)]) dX9_placesOf_42 (by decide) rfl ?_
        obtain ⟨x14, e15, h⟩ := lb_i h
        refine g_iinc (pc := 43) X 4 rfl dX9_placesOf_43 (v := x14) e15.symm (by decide) (lv' := [(4, .int x14), (3, .int x12), (0, rf V v0), (1, .int v1), (2, .int v2)]) rfl ?_
        refine g_goto (pc := 46) X (tgt := 10) dX9_placesOf_46 rfl ?_
        refine g_sub (lv' := [(0, rf V v0), (1, .int v1), (2, .int v2), (3, .int x12), (4, .int x14)]) [2, 3, 4, 1, 0] rfl ?_
        exact ih _ _ _ _ _ _ h
      refine g_if_eq (pc := 30) X (tgt := 40) dX9_placesOf_30 rfl (fun c0 => ?_) (fun c0 => ?_)
      · refine g_iconst (pc := 40) X (v := 0) dX9_placesOf_40 rfl ?_
        exact g_top (by rw [if_pos c0]) kJ
      · refine g_iconst (pc := 33) X (v := 1) dX9_placesOf_33 rfl ?_
        refine g_iload (pc := 34) X 4 rfl dX9_placesOf_34 ?_
        refine g_ishl (pc := 36) X dX9_placesOf_36 ?_
        refine g_goto (pc := 37) X (tgt := 41) dX9_placesOf_37 rfl ?_
        exact g_top (by rw [if_neg c0]) kJ

def f_X9_placesOf (v0 : Nat) (v1 : Int32) (w : Wd) : Option (Int32 × Wd) := (if wK w v0 = 9 then
 (bd2 (f_X9_taken v0 w) fun r2 w3 =>
 L_X9_placesOf_10 FU v0 v1 r2 0 0 w3)
 else none)
theorem c_X9_placesOf {l : Launch} {V : Vt} {v0 : Nat} {v1 : Int32} {w w' : Wd} {r : Int32} (h : f_X9_placesOf v0 v1 w = some (r, w')) : MetW l V yX9_placesOf cX9_placesOf 5 (some .int) { frames := 5, cells := 0, slots := 0, locals := 117 } w [rf V v0, .int v1] (some (.int r)) w' 0 0 := by
  refine g_start (by decide) (Nat.le_of_ble_eq_true rfl) ?_
  intro t _ hrm X hret hnm
  have Y : Hd_ t V cX9_placesOf 5 RX9 { frames := 5, cells := 0, slots := 0, locals := 117 } (some .int) "placesOf" := ⟨X, hrm, hret, hnm⟩
  refine g_as (lv' := [(0, rf V v0), (1, .int v1)]) (st' := []) rfl rfl ?_
  unfold f_X9_placesOf at h
  refine g_aload_n (pc := 0) X 0 rfl dX9_placesOf_0 ?_
  obtain ⟨k1, h⟩ := gd_i h
  obtain ⟨r2, w3, h4, h⟩ := bd2_i h
  refine g_callV (pc := 1) X FcX9 k1 mk_X9_taken q_1182 q_31 q_1180 (c_X9_taken h4) rfl rfl (by rw [Y.2.1]; decide)  rfl (rest := []) rfl (Nat.le_of_ble_eq_true rfl) (by rw [Y.2.1]; exact ⟨Nat.le_of_ble_eq_true rfl, Nat.le_of_ble_eq_true rfl⟩) dX9_placesOf_1 (st' := [.int r2]) rfl ?_
  refine g_istore_n (pc := 4) X (lv' := [(2, .int r2), (0, rf V v0), (1, .int v1)]) dX9_placesOf_4 (by decide) rfl ?_
  refine g_iconst (pc := 5) X (v := 0) dX9_placesOf_5 rfl ?_
  refine g_istore_n (pc := 6) X (lv' := [(3, .int 0), (2, .int r2), (0, rf V v0), (1, .int v1)]) dX9_placesOf_6 (by decide) rfl ?_
  refine g_iconst (pc := 7) X (v := 0) dX9_placesOf_7 rfl ?_
  refine g_istore (pc := 8) X (lv' := [(4, .int 0), (3, .int 0), (2, .int r2), (0, rf V v0), (1, .int v1)]) dX9_placesOf_8 (by decide) rfl ?_
  refine g_sub (lv' := [(0, rf V v0), (1, .int v1), (2, .int r2), (3, .int 0), (4, .int 0)]) [3, 4, 2, 1, 0] rfl ?_
  exact bL_X9_placesOf_10 Y  h

def L_X9_manySit_4  (n : Nat) (v0 : Nat) (v1 : Int32) (v2 : Int32) (w : Wd) : Option (Int32 × Wd) := match n with
  | 0 => none
  | n + 1 => (if wK w v0 = 9 then
 (bd1 (wR w v0 0) fun a2 =>
 (if aK 11 w a2 1 = true then
 (if (wI w a2 (nx 1)) ≤ v2 then
 some (v1, w)
 else
 (bd2 (f_X9_of v0 v2 1 w) fun r5 w6 =>
 (lb_ (v1 + (if 0 ≤ r5 then 1 else 0 : Int32)) fun x8 =>
 (lb_ (v2 + 1) fun x10 =>
 L_X9_manySit_4 n v0 x8 x10 w6))))
 else none))
 else none)
theorem bL_X9_manySit_4 {t : Ct} {V : Vt} {r : Int32} {w' : Wd} (Y : Hd_ t V cX9_manySit 3 RX9 { frames := 1, cells := 0, slots := 0, locals := 22 } (some .int) "manySit") : ∀ {n : Nat} {v0 : Nat} {v1 : Int32} {v2 : Int32} {w : Wd}, L_X9_manySit_4  n v0 v1 v2 w = some (r, w') → Gd t V 3 0 0 (Qe t V (some (.int r)) w' 0 0) 4 [(0, rf V v0), (1, .int v1), (2, .int v2)] [] w := by
  have X := Y.1
  intro n
  induction n with
  | zero => intro v0 v1 v2 w h; cases h
  | succ n ih0 =>
    have ih : ∀ (v0 : Nat) (v1 : Int32) (v2 : Int32) (w : Wd), L_X9_manySit_4  n v0 v1 v2 w = some (r, w') → Gd t V 3 0 0 (Qe t V (some (.int r)) w' 0 0) 4 [(0, rf V v0), (1, .int v1), (2, .int v2)] [] w := fun v0 v1 v2 w h => ih0 h
    clear ih0
    intro v0 v1 v2 w h
    unfold L_X9_manySit_4 at h
    refine g_iload_n (pc := 4) X 2 rfl dX9_manySit_4 ?_
    refine g_aload_n (pc := 5) X 0 rfl dX9_manySit_5 ?_
    obtain ⟨k1, h⟩ := gd_i h
    obtain ⟨a2, e3, h⟩ := bd1_i h
    refine g_getR (pc := 6) X FcX9 k1 0 e3 (by decide) rfl q_1020 dX9_manySit_6 ?_
    refine g_iconst (pc := 9) X (v := 1) dX9_manySit_9 rfl ?_
    obtain ⟨k4, h⟩ := gd_i h
    refine g_iald (pc := 10) X k4 dX9_manySit_10 ?_
    refine g_icmp_ge (pc := 11) X (tgt := 37) dX9_manySit_11 rfl (fun c => ?_) (fun c => ?_)
    · have h := br_y c h
      refine g_iload_n (pc := 37) X 1 rfl dX9_manySit_37 ?_
      obtain ⟨e1, e2⟩ := rt_i h
      exact g_iret (pc := 38) X Y.2.2.1 (Nat.le_of_ble_eq_true rfl) (Nat.le_of_ble_eq_true rfl) e1 e2 dX9_manySit_38
    · have h := br_n c h
      refine g_iload_n (pc := 14) X 1 rfl dX9_manySit_14 ?_
      refine g_aload_n (pc := 15) X 0 rfl dX9_manySit_15 ?_
      refine g_iload_n (pc := 16) X 2 rfl dX9_manySit_16 ?_
      refine g_iconst (pc := 17) X (v := 1) dX9_manySit_17 rfl ?_
      obtain ⟨r5, w6, h7, h⟩ := bd2_i h
      refine g_callV (pc := 18) X FcX9 k1 mk_X9_of q_1142 q_24 q_1140 (c_X9_of h7) rfl rfl (by rw [Y.2.1]; decide)  rfl (rest := [.int v1]) rfl (Nat.le_of_ble_eq_true rfl) (by rw [Y.2.1]; exact ⟨Nat.le_of_ble_eq_true rfl, Nat.le_of_ble_eq_true rfl⟩) dX9_manySit_18 (st' := [.int r5, .int v1]) rfl ?_
      have kJ : Gd t V 3 0 0 (Qe t V (some (.int r)) w' 0 0) 29 [(0, rf V v0), (1, .int v1), (2, .int v2)] [.int (if 0 ≤ r5 then 1 else 0 : Int32), .int v1] w6 := by
        refine g_iadd (pc := 29) X dX9_manySit_29 ?_
        obtain ⟨x8, e9, h⟩ := lb_i h
        refine g_top e9 ?_
        refine g_istore_n (pc := 30) X (lv' := [(1, .int x8), (0, rf V v0), (2, .int v2)]) dX9_manySit_30 (by decide) rfl ?_
        obtain ⟨x10, e11, h⟩ := lb_i h
        refine g_iinc (pc := 31) X 2 rfl dX9_manySit_31 (v := x10) e11.symm (by decide) (lv' := [(2, .int x10), (1, .int x8), (0, rf V v0)]) rfl ?_
        refine g_goto (pc := 34) X (tgt := 4) dX9_manySit_34 rfl ?_
        refine g_sub (lv' := [(0, rf V v0), (1, .int x8), (2, .int x10)]) [2, 1, 0] rfl ?_
        exact ih _ _ _ _ h
      refine g_if_ge (pc := 21) X (tgt := 28) dX9_manySit_21 rfl (fun c0 => ?_) (fun c0 => ?_)
      · refine g_iconst (pc := 28) X (v := 1) dX9_manySit_28 rfl ?_
        exact g_top (by rw [if_pos c0]) kJ
      · refine g_iconst (pc := 24) X (v := 0) dX9_manySit_24 rfl ?_
        refine g_goto (pc := 25) X (tgt := 29) dX9_manySit_25 rfl ?_
        exact g_top (by rw [if_neg c0]) kJ

def f_X9_manySit (v0 : Nat) (w : Wd) : Option (Int32 × Wd) := L_X9_manySit_4 FU v0 0 0 w
theorem c_X9_manySit {l : Launch} {V : Vt} {v0 : Nat} {w w' : Wd} {r : Int32} (h : f_X9_manySit v0 w = some (r, w')) : MetW l V yX9_manySit cX9_manySit 3 (some .int) { frames := 1, cells := 0, slots := 0, locals := 22 } w [rf V v0] (some (.int r)) w' 0 0 := by
  refine g_start (by decide) (Nat.le_of_ble_eq_true rfl) ?_
  intro t _ hrm X hret hnm
  have Y : Hd_ t V cX9_manySit 3 RX9 { frames := 1, cells := 0, slots := 0, locals := 22 } (some .int) "manySit" := ⟨X, hrm, hret, hnm⟩
  refine g_as (lv' := [(0, rf V v0)]) (st' := []) rfl rfl ?_
  unfold f_X9_manySit at h
  refine g_iconst (pc := 0) X (v := 0) dX9_manySit_0 rfl ?_
  refine g_istore_n (pc := 1) X (lv' := [(1, .int 0), (0, rf V v0)]) dX9_manySit_1 (by decide) rfl ?_
  refine g_iconst (pc := 2) X (v := 0) dX9_manySit_2 rfl ?_
  refine g_istore_n (pc := 3) X (lv' := [(2, .int 0), (1, .int 0), (0, rf V v0)]) dX9_manySit_3 (by decide) rfl ?_
  refine g_sub (lv' := [(0, rf V v0), (1, .int 0), (2, .int 0)]) [2, 1, 0] rfl ?_
  exact bL_X9_manySit_4 Y  h

def L_X9_bench_68  (n : Nat) (v0 : Nat) (v1 : Int32) (v2 : Int32) (v3 : Int32) (v4 : Int32) (v5 : Int32) (w : Wd) : Option (Int32 × Wd) := match n with
  | 0 => none
  | n + 1 => (if 12 ≤ v5 then
 (if wK w v0 = 9 then
 (bd1 (wR w v0 0) fun a19 =>
 (if aK 11 w a19 2 = true then
 (lb_ (sI w a19 (nx 2) v1) fun w22 =>
 (bd1 (wR w22 v0 0) fun a24 =>
 (if aK 11 w22 a24 3 = true then
 (lb_ (sI w22 a24 (nx 3) v2) fun w27 =>
 (bd1 (wR w27 v0 0) fun a29 =>
 (if aK 11 w27 a29 4 = true then
 (lb_ (sI w27 a29 (nx 4) v3) fun w32 =>
 some (v4, w32))
 else none)))
 else none)))
 else none))
 else none)
 else
 (if wK w v0 = 9 then
 (bd1 (wR w v0 0) fun a35 =>
 (if aK 11 w a35 (12 + v5) = true then
 (lb_ (sI w a35 (nx (12 + v5)) 0) fun w38 =>
 (lb_ (v5 + 1) fun x40 =>
 L_X9_bench_68 n v0 v1 v2 v3 v4 x40 w38))
 else none))
 else none))
theorem bL_X9_bench_68 {t : Ct} {V : Vt} {r : Int32} {w' : Wd} (Y : Hd_ t V cX9_bench 6 RX9 { frames := 2, cells := 0, slots := 0, locals := 44 } (some .int) "bench") : ∀ {n : Nat} {v0 : Nat} {v1 : Int32} {v2 : Int32} {v3 : Int32} {v4 : Int32} {v5 : Int32} {w : Wd}, L_X9_bench_68  n v0 v1 v2 v3 v4 v5 w = some (r, w') → Gd t V 6 0 0 (Qe t V (some (.int r)) w' 0 0) 68 [(0, rf V v0), (1, .int v1), (2, .int v2), (3, .int v3), (4, .int v4), (5, .int v5)] [] w := by
  have X := Y.1
  intro n
  induction n with
  | zero => intro v0 v1 v2 v3 v4 v5 w h; cases h
  | succ n ih0 =>
    have ih : ∀ (v0 : Nat) (v1 : Int32) (v2 : Int32) (v3 : Int32) (v4 : Int32) (v5 : Int32) (w : Wd), L_X9_bench_68  n v0 v1 v2 v3 v4 v5 w = some (r, w') → Gd t V 6 0 0 (Qe t V (some (.int r)) w' 0 0) 68 [(0, rf V v0), (1, .int v1), (2, .int v2), (3, .int v3), (4, .int v4), (5, .int v5)] [] w := fun v0 v1 v2 v3 v4 v5 w h => ih0 h
    clear ih0
    intro v0 v1 v2 v3 v4 v5 w h
    unfold L_X9_bench_68 at h
    refine g_iload (pc := 68) X 5 rfl dX9_bench_68 ?_
    refine g_bipush (pc := 70) X (v := 12) dX9_bench_70 rfl ?_
    refine g_icmp_ge (pc := 72) X (tgt := 92) dX9_bench_72 rfl (fun c => ?_) (fun c => ?_)
    · have h := br_y c h
      refine g_aload_n (pc := 92) X 0 rfl dX9_bench_92 ?_
      obtain ⟨k18, h⟩ := gd_i h
      obtain ⟨a19, e20, h⟩ := bd1_i h
      refine g_getR (pc := 93) X FcX9 k18 0 e20 (by decide) rfl q_1020 dX9_bench_93 ?_
      refine g_iconst (pc := 96) X (v := 2) dX9_bench_96 rfl ?_
      refine g_iload_n (pc := 97) X 1 rfl dX9_bench_97 ?_
      obtain ⟨k21, h⟩ := gd_i h
      refine g_iast (pc := 98) X k21 dX9_bench_98 ?_
      obtain ⟨w22, e23, h⟩ := lb_i h
      refine g_w e23 ?_
      refine g_aload_n (pc := 99) X 0 rfl dX9_bench_99 ?_
      obtain ⟨a24, e25, h⟩ := bd1_i h
      refine g_getR (pc := 100) X FcX9 (kd_I e23 k18) 0 e25 (by decide) rfl q_1020 dX9_bench_100 ?_
      refine g_iconst (pc := 103) X (v := 3) dX9_bench_103 rfl ?_
      refine g_iload_n (pc := 104) X 2 rfl dX9_bench_104 ?_
      obtain ⟨k26, h⟩ := gd_i h
      refine g_iast (pc := 105) X k26 dX9_bench_105 ?_
      obtain ⟨w27, e28, h⟩ := lb_i h
      refine g_w e28 ?_
      refine g_aload_n (pc := 106) X 0 rfl dX9_bench_106 ?_
      obtain ⟨a29, e30, h⟩ := bd1_i h
      refine g_getR (pc := 107) X FcX9 (kd_I e28 (kd_I e23 k18)) 0 e30 (by decide) rfl q_1020 dX9_bench_107 ?_
      refine g_iconst (pc := 110) X (v := 4) dX9_bench_110 rfl ?_
      refine g_iload_n (pc := 111) X 3 rfl dX9_bench_111 ?_
      obtain ⟨k31, h⟩ := gd_i h
      refine g_iast (pc := 112) X k31 dX9_bench_112 ?_
      obtain ⟨w32, e33, h⟩ := lb_i h
      refine g_w e33 ?_
      refine g_iload (pc := 113) X 4 rfl dX9_bench_113 ?_
      obtain ⟨e1, e2⟩ := rt_i h
      exact g_iret (pc := 115) X Y.2.2.1 (Nat.le_of_ble_eq_true rfl) (Nat.le_of_ble_eq_true rfl) e1 e2 dX9_bench_115
    · have h := br_n c h
      refine g_aload_n (pc := 75) X 0 rfl dX9_bench_75 ?_
      obtain ⟨k34, h⟩ := gd_i h
      obtain ⟨a35, e36, h⟩ := bd1_i h
      refine g_getR (pc := 76) X FcX9 k34 0 e36 (by decide) rfl q_1020 dX9_bench_76 ?_
      refine g_bipush (pc := 79) X (v := 12) dX9_bench_79 rfl ?_
      refine g_iload (pc := 81) X 5 rfl dX9_bench_81 ?_
      refine g_iadd (pc := 83) X dX9_bench_83 ?_
      refine g_iconst (pc := 84) X (v := 0) dX9_bench_84 rfl ?_
      obtain ⟨k37, h⟩ := gd_i h
      refine g_iast (pc := 85) X k37 dX9_bench_85 ?_
      obtain ⟨w38, e39, h⟩ := lb_i h
      refine g_w e39 ?_
      obtain ⟨x40, e41, h⟩ := lb_i h
      refine g_iinc (pc := 86) X 5 rfl dX9_bench_86 (v := x40) e41.symm (by decide) (lv' := [(5, .int x40), (0, rf V v0), (1, .int v1), (2, .int v2), (3, .int v3), (4, .int v4)]) rfl ?_
      refine g_goto (pc := 89) X (tgt := 68) dX9_bench_89 rfl ?_
      refine g_sub (lv' := [(0, rf V v0), (1, .int v1), (2, .int v2), (3, .int v3), (4, .int v4), (5, .int x40)]) [1, 2, 3, 4, 5, 0] rfl ?_
      exact ih _ _ _ _ _ _ _ h

def L_X9_bench_40  (n : Nat) (v0 : Nat) (v1 : Int32) (v2 : Int32) (v3 : Int32) (v4 : Int32) (v5 : Int32) (w : Wd) : Option (Int32 × Wd) := match n with
  | 0 => none
  | n + 1 => (if wK w v0 = 9 then
 (bd1 (wR w v0 0) fun a15 =>
 (if aK 11 w a15 1 = true then
 (if (wI w a15 (nx 1)) ≤ v5 then
 L_X9_bench_68 FU v0 v1 v2 v3 v4 0 w
 else
 (bd2 (f_X9_put v0 v5 1 (-1) w) fun r42 w43 =>
 (lb_ (v5 + 1) fun x45 =>
 L_X9_bench_40 n v0 v1 v2 v3 v4 x45 w43)))
 else none))
 else none)
theorem bL_X9_bench_40 {t : Ct} {V : Vt} {r : Int32} {w' : Wd} (Y : Hd_ t V cX9_bench 6 RX9 { frames := 2, cells := 0, slots := 0, locals := 44 } (some .int) "bench") : ∀ {n : Nat} {v0 : Nat} {v1 : Int32} {v2 : Int32} {v3 : Int32} {v4 : Int32} {v5 : Int32} {w : Wd}, L_X9_bench_40  n v0 v1 v2 v3 v4 v5 w = some (r, w') → Gd t V 6 0 0 (Qe t V (some (.int r)) w' 0 0) 40 [(0, rf V v0), (1, .int v1), (2, .int v2), (3, .int v3), (4, .int v4), (5, .int v5)] [] w := by
  have X := Y.1
  intro n
  induction n with
  | zero => intro v0 v1 v2 v3 v4 v5 w h; cases h
  | succ n ih0 =>
    have ih : ∀ (v0 : Nat) (v1 : Int32) (v2 : Int32) (v3 : Int32) (v4 : Int32) (v5 : Int32) (w : Wd), L_X9_bench_40  n v0 v1 v2 v3 v4 v5 w = some (r, w') → Gd t V 6 0 0 (Qe t V (some (.int r)) w' 0 0) 40 [(0, rf V v0), (1, .int v1), (2, .int v2), (3, .int v3), (4, .int v4), (5, .int v5)] [] w := fun v0 v1 v2 v3 v4 v5 w h => ih0 h
    clear ih0
    intro v0 v1 v2 v3 v4 v5 w h
    unfold L_X9_bench_40 at h
    refine g_iload (pc := 40) X 5 rfl dX9_bench_40 ?_
    refine g_aload_n (pc := 42) X 0 rfl dX9_bench_42 ?_
    obtain ⟨k14, h⟩ := gd_i h
    obtain ⟨a15, e16, h⟩ := bd1_i h
    refine g_getR (pc := 43) X FcX9 k14 0 e16 (by decide) rfl q_1020 dX9_bench_43 ?_
    refine g_iconst (pc := 46) X (v := 1) dX9_bench_46 rfl ?_
    obtain ⟨k17, h⟩ := gd_i h
    refine g_iald (pc := 47) X k17 dX9_bench_47 ?_
    refine g_icmp_ge (pc := 48) X (tgt := 65) dX9_bench_48 rfl (fun c => ?_) (fun c => ?_)
    · have h := br_y c h
      refine g_iconst (pc := 65) X (v := 0) dX9_bench_65 rfl ?_
      refine g_istore (pc := 66) X (lv' := [(5, .int 0), (0, rf V v0), (1, .int v1), (2, .int v2), (3, .int v3), (4, .int v4)]) dX9_bench_66 (by decide) rfl ?_
      refine g_sub (lv' := [(0, rf V v0), (1, .int v1), (2, .int v2), (3, .int v3), (4, .int v4), (5, .int 0)]) [1, 2, 3, 4, 5, 0] rfl ?_
      exact bL_X9_bench_68 Y  h
    · have h := br_n c h
      refine g_aload_n (pc := 51) X 0 rfl dX9_bench_51 ?_
      refine g_iload (pc := 52) X 5 rfl dX9_bench_52 ?_
      refine g_iconst (pc := 54) X (v := 1) dX9_bench_54 rfl ?_
      refine g_iconst (pc := 55) X (v := (-1)) dX9_bench_55 rfl ?_
      obtain ⟨r42, w43, h44, h⟩ := bd2_i h
      refine g_callV (pc := 56) X FcX9 k14 mk_X9_put q_1146 q_25 q_1144 (c_X9_put h44) rfl rfl (by rw [Y.2.1]; decide)  rfl (rest := []) rfl (Nat.le_of_ble_eq_true rfl) (by rw [Y.2.1]; exact ⟨Nat.le_of_ble_eq_true rfl, Nat.le_of_ble_eq_true rfl⟩) dX9_bench_56 (st' := []) rfl ?_
      obtain ⟨x45, e46, h⟩ := lb_i h
      refine g_iinc (pc := 59) X 5 rfl dX9_bench_59 (v := x45) e46.symm (by decide) (lv' := [(5, .int x45), (0, rf V v0), (1, .int v1), (2, .int v2), (3, .int v3), (4, .int v4)]) rfl ?_
      refine g_goto (pc := 62) X (tgt := 40) dX9_bench_62 rfl ?_
      refine g_sub (lv' := [(0, rf V v0), (1, .int v1), (2, .int v2), (3, .int v3), (4, .int v4), (5, .int x45)]) [1, 2, 3, 4, 5, 0] rfl ?_
      exact ih _ _ _ _ _ _ _ h

def f_X9_bench (v0 : Nat) (v1 : Int32) (v2 : Int32) (v3 : Int32) (w : Wd) : Option (Int32 × Wd) := (bd2 (f_X9_in v1 1 12 w) fun r1 w2 =>
 (if r1 = 0 then
 some ((-1000000001), w2)
 else
 (bd2 (f_X9_in v2 0 1 w2) fun r4 w5 =>
 (if r4 = 0 then
 some ((-1000000001), w5)
 else
 (bd2 (f_X9_in v3 0 1 w5) fun r7 w8 =>
 (if r7 = 0 then
 some ((-1000000001), w8)
 else
 (if wK w8 v0 = 9 then
 (bd2 (f_X9_manySit v0 w8) fun r11 w12 =>
 L_X9_bench_40 FU v0 v1 v2 v3 r11 0 w12)
 else none)))))))
theorem c_X9_bench {l : Launch} {V : Vt} {v0 : Nat} {v1 : Int32} {v2 : Int32} {v3 : Int32} {w w' : Wd} {r : Int32} (h : f_X9_bench v0 v1 v2 v3 w = some (r, w')) : MetW l V yX9_bench cX9_bench 6 (some .int) { frames := 2, cells := 0, slots := 0, locals := 44 } w [rf V v0, .int v1, .int v2, .int v3] (some (.int r)) w' 0 0 := by
  refine g_start (by decide) (Nat.le_of_ble_eq_true rfl) ?_
  intro t _ hrm X hret hnm
  have Y : Hd_ t V cX9_bench 6 RX9 { frames := 2, cells := 0, slots := 0, locals := 44 } (some .int) "bench" := ⟨X, hrm, hret, hnm⟩
  refine g_as (lv' := [(0, rf V v0), (1, .int v1), (2, .int v2), (3, .int v3)]) (st' := []) rfl rfl ?_
  unfold f_X9_bench at h
  refine g_iload_n (pc := 0) X 1 rfl dX9_bench_0 ?_
  refine g_iconst (pc := 1) X (v := 1) dX9_bench_1 rfl ?_
  refine g_bipush (pc := 2) X (v := 12) dX9_bench_2 rfl ?_
  obtain ⟨r1, w2, h3, h⟩ := bd2_i h
  refine g_callS (pc := 4) X mk_X9_in q_1133 q_1132 (c_X9_in h3) rfl rfl (by rw [Y.2.1]; decide)  rfl (rest := []) rfl (Nat.le_of_ble_eq_true rfl) (by rw [Y.2.1]; exact ⟨Nat.le_of_ble_eq_true rfl, Nat.le_of_ble_eq_true rfl⟩) dX9_bench_4 (st' := [.int r1]) rfl ?_
  refine g_if_eq (pc := 7) X (tgt := 28) dX9_bench_7 rfl (fun c => ?_) (fun c => ?_)
  · have h := br_y c h
    refine g_ldc (pc := 28) X q_1135 dX9_bench_28 ?_
    obtain ⟨e1, e2⟩ := rt_i h
    exact g_iret (pc := 30) X Y.2.2.1 (Nat.le_of_ble_eq_true rfl) (Nat.le_of_ble_eq_true rfl) e1 e2 dX9_bench_30
  · have h := br_n c h
    refine g_iload_n (pc := 10) X 2 rfl dX9_bench_10 ?_
    refine g_iconst (pc := 11) X (v := 0) dX9_bench_11 rfl ?_
    refine g_iconst (pc := 12) X (v := 1) dX9_bench_12 rfl ?_
    obtain ⟨r4, w5, h6, h⟩ := bd2_i h
    refine g_callS (pc := 13) X mk_X9_in q_1133 q_1132 (c_X9_in h6) rfl rfl (by rw [Y.2.1]; decide)  rfl (rest := []) rfl (Nat.le_of_ble_eq_true rfl) (by rw [Y.2.1]; exact ⟨Nat.le_of_ble_eq_true rfl, Nat.le_of_ble_eq_true rfl⟩) dX9_bench_13 (st' := [.int r4]) rfl ?_
    refine g_if_eq (pc := 16) X (tgt := 28) dX9_bench_16 rfl (fun c => ?_) (fun c => ?_)
    · have h := br_y c h
      refine g_ldc (pc := 28) X q_1135 dX9_bench_28 ?_
      obtain ⟨e1, e2⟩ := rt_i h
      exact g_iret (pc := 30) X Y.2.2.1 (Nat.le_of_ble_eq_true rfl) (Nat.le_of_ble_eq_true rfl) e1 e2 dX9_bench_30
    · have h := br_n c h
      refine g_iload_n (pc := 19) X 3 rfl dX9_bench_19 ?_
      refine g_iconst (pc := 20) X (v := 0) dX9_bench_20 rfl ?_
      refine g_iconst (pc := 21) X (v := 1) dX9_bench_21 rfl ?_
      obtain ⟨r7, w8, h9, h⟩ := bd2_i h
      refine g_callS (pc := 22) X mk_X9_in q_1133 q_1132 (c_X9_in h9) rfl rfl (by rw [Y.2.1]; decide)  rfl (rest := []) rfl (Nat.le_of_ble_eq_true rfl) (by rw [Y.2.1]; exact ⟨Nat.le_of_ble_eq_true rfl, Nat.le_of_ble_eq_true rfl⟩) dX9_bench_22 (st' := [.int r7]) rfl ?_
      refine g_if_ne (pc := 25) X (tgt := 31) dX9_bench_25 rfl (fun c => ?_) (fun c => ?_)
      · have h := br_n c h
        refine g_aload_n (pc := 31) X 0 rfl dX9_bench_31 ?_
        obtain ⟨k10, h⟩ := gd_i h
        obtain ⟨r11, w12, h13, h⟩ := bd2_i h
        refine g_callV (pc := 32) X FcX9 k10 mk_X9_manySit q_1138 q_23 q_1136 (c_X9_manySit h13) rfl rfl (by rw [Y.2.1]; decide)  rfl (rest := []) rfl (Nat.le_of_ble_eq_true rfl) (by rw [Y.2.1]; exact ⟨Nat.le_of_ble_eq_true rfl, Nat.le_of_ble_eq_true rfl⟩) dX9_bench_32 (st' := [.int r11]) rfl ?_
        refine g_istore (pc := 35) X (lv' := [(4, .int r11), (0, rf V v0), (1, .int v1), (2, .int v2), (3, .int v3)]) dX9_bench_35 (by decide) rfl ?_
        refine g_iconst (pc := 37) X (v := 0) dX9_bench_37 rfl ?_
        refine g_istore (pc := 38) X (lv' := [(5, .int 0), (4, .int r11), (0, rf V v0), (1, .int v1), (2, .int v2), (3, .int v3)]) dX9_bench_38 (by decide) rfl ?_
        refine g_sub (lv' := [(0, rf V v0), (1, .int v1), (2, .int v2), (3, .int v3), (4, .int r11), (5, .int 0)]) [2, 3, 4, 5, 1, 0] rfl ?_
        exact bL_X9_bench_40 Y  h
      · have h := br_y c h
        refine g_ldc (pc := 28) X q_1135 dX9_bench_28 ?_
        obtain ⟨e1, e2⟩ := rt_i h
        exact g_iret (pc := 30) X Y.2.2.1 (Nat.le_of_ble_eq_true rfl) (Nat.le_of_ble_eq_true rfl) e1 e2 dX9_bench_30

def f_X9_comes (v0 : Nat) (v1 : Int32) (w : Wd) : Option (Int32 × Wd) := (if wK w v0 = 9 then
 (bd1 (wR w v0 0) fun a2 =>
 (if aK 11 w a2 1 = true then
 (lb_ (wI w a2 (nx 1)) fun x5 =>
 (bd1 (wR w v0 0) fun a7 =>
 (if aK 11 w a7 1 = true then
 (if aK 11 w a7 1 = true then
 (lb_ (sI w a7 (nx 1) ((wI w a7 (nx 1)) + 1)) fun w11 =>
 (bd2 (f_X9_put v0 x5 0 v1 w11) fun r13 w14 =>
 (if wK w14 v0 = 9 then
 (bd2 (f_X9_put v0 x5 1 (-1) w14) fun r17 w18 =>
 (if wK w18 v0 = 9 then
 (bd2 (f_X9_put v0 x5 2 0 w18) fun r21 w22 =>
 (if wK w22 v0 = 9 then
 (bd2 (f_X9_put v0 x5 3 0 w22) fun r25 w26 =>
 some (x5, w26))
 else none))
 else none))
 else none)))
 else none)
 else none)))
 else none))
 else none)
theorem c_X9_comes {l : Launch} {V : Vt} {v0 : Nat} {v1 : Int32} {w w' : Wd} {r : Int32} (h : f_X9_comes v0 v1 w = some (r, w')) : MetW l V yX9_comes cX9_comes 3 (some .int) { frames := 1, cells := 0, slots := 0, locals := 23 } w [rf V v0, .int v1] (some (.int r)) w' 0 0 := by
  refine g_start (by decide) (Nat.le_of_ble_eq_true rfl) ?_
  intro t _ hrm X hret hnm
  have Y : Hd_ t V cX9_comes 3 RX9 { frames := 1, cells := 0, slots := 0, locals := 23 } (some .int) "comes" := ⟨X, hrm, hret, hnm⟩
  refine g_as (lv' := [(0, rf V v0), (1, .int v1)]) (st' := []) rfl rfl ?_
  unfold f_X9_comes at h
  refine g_aload_n (pc := 0) X 0 rfl dX9_comes_0 ?_
  obtain ⟨k1, h⟩ := gd_i h
  obtain ⟨a2, e3, h⟩ := bd1_i h
  refine g_getR (pc := 1) X FcX9 k1 0 e3 (by decide) rfl q_1020 dX9_comes_1 ?_
  refine g_iconst (pc := 4) X (v := 1) dX9_comes_4 rfl ?_
  obtain ⟨k4, h⟩ := gd_i h
  refine g_iald (pc := 5) X k4 dX9_comes_5 ?_
  obtain ⟨x5, e6, h⟩ := lb_i h
  refine g_top e6 ?_
  refine g_istore_n (pc := 6) X (lv' := [(2, .int x5), (0, rf V v0), (1, .int v1)]) dX9_comes_6 (by decide) rfl ?_
  refine g_aload_n (pc := 7) X 1 rfl dX9_comes_7 ?_
  obtain ⟨a7, e8, h⟩ := bd1_i h
  refine g_getR (pc := 8) X FcX9 k1 0 e8 (by decide) rfl q_1020 dX9_comes_8 ?_
  refine g_iconst (pc := 11) X (v := 1) dX9_comes_11 rfl ?_
  refine g_dup2 (pc := 12) X rfl rfl dX9_comes_12 ?_
  obtain ⟨k9, h⟩ := gd_i h
  refine g_iald (pc := 13) X k9 dX9_comes_13 ?_
  refine g_iconst (pc := 14) X (v := 1) dX9_comes_14 rfl ?_
  refine g_iadd (pc := 15) X dX9_comes_15 ?_
  obtain ⟨k10, h⟩ := gd_i h
  refine g_iast (pc := 16) X k10 dX9_comes_16 ?_
  obtain ⟨w11, e12, h⟩ := lb_i h
  refine g_w e12 ?_
  refine g_aload_n (pc := 17) X 1 rfl dX9_comes_17 ?_
  refine g_iload_n (pc := 18) X 0 rfl dX9_comes_18 ?_
  refine g_iconst (pc := 19) X (v := 0) dX9_comes_19 rfl ?_
  refine g_iload_n (pc := 20) X 2 rfl dX9_comes_20 ?_
  obtain ⟨r13, w14, h15, h⟩ := bd2_i h
  refine g_callV (pc := 21) X FcX9 (kd_I e12 k1) mk_X9_put q_1146 q_25 q_1144 (c_X9_put h15) rfl rfl (by rw [Y.2.1]; decide)  rfl (rest := []) rfl (Nat.le_of_ble_eq_true rfl) (by rw [Y.2.1]; exact ⟨Nat.le_of_ble_eq_true rfl, Nat.le_of_ble_eq_true rfl⟩) dX9_comes_21 (st' := []) rfl ?_
  refine g_aload_n (pc := 24) X 1 rfl dX9_comes_24 ?_
  refine g_iload_n (pc := 25) X 0 rfl dX9_comes_25 ?_
  refine g_iconst (pc := 26) X (v := 1) dX9_comes_26 rfl ?_
  refine g_iconst (pc := 27) X (v := (-1)) dX9_comes_27 rfl ?_
  obtain ⟨k16, h⟩ := gd_i h
  obtain ⟨r17, w18, h19, h⟩ := bd2_i h
  refine g_callV (pc := 28) X FcX9 k16 mk_X9_put q_1146 q_25 q_1144 (c_X9_put h19) rfl rfl (by rw [Y.2.1]; decide)  rfl (rest := []) rfl (Nat.le_of_ble_eq_true rfl) (by rw [Y.2.1]; exact ⟨Nat.le_of_ble_eq_true rfl, Nat.le_of_ble_eq_true rfl⟩) dX9_comes_28 (st' := []) rfl ?_
  refine g_aload_n (pc := 31) X 1 rfl dX9_comes_31 ?_
  refine g_iload_n (pc := 32) X 0 rfl dX9_comes_32 ?_
  refine g_iconst (pc := 33) X (v := 2) dX9_comes_33 rfl ?_
  refine g_iconst (pc := 34) X (v := 0) dX9_comes_34 rfl ?_
  obtain ⟨k20, h⟩ := gd_i h
  obtain ⟨r21, w22, h23, h⟩ := bd2_i h
  refine g_callV (pc := 35) X FcX9 k20 mk_X9_put q_1146 q_25 q_1144 (c_X9_put h23) rfl rfl (by rw [Y.2.1]; decide)  rfl (rest := []) rfl (Nat.le_of_ble_eq_true rfl) (by rw [Y.2.1]; exact ⟨Nat.le_of_ble_eq_true rfl, Nat.le_of_ble_eq_true rfl⟩) dX9_comes_35 (st' := []) rfl ?_
  refine g_aload_n (pc := 38) X 1 rfl dX9_comes_38 ?_
  refine g_iload_n (pc := 39) X 0 rfl dX9_comes_39 ?_
  refine g_iconst (pc := 40) X (v := 3) dX9_comes_40 rfl ?_
  refine g_iconst (pc := 41) X (v := 0) dX9_comes_41 rfl ?_
  obtain ⟨k24, h⟩ := gd_i h
  obtain ⟨r25, w26, h27, h⟩ := bd2_i h
  refine g_callV (pc := 42) X FcX9 k24 mk_X9_put q_1146 q_25 q_1144 (c_X9_put h27) rfl rfl (by rw [Y.2.1]; decide)  rfl (rest := []) rfl (Nat.le_of_ble_eq_true rfl) (by rw [Y.2.1]; exact ⟨Nat.le_of_ble_eq_true rfl, Nat.le_of_ble_eq_true rfl⟩) dX9_comes_42 (st' := []) rfl ?_
  refine g_iload_n (pc := 45) X 0 rfl dX9_comes_45 ?_
  obtain ⟨e1, e2⟩ := rt_i h
  exact g_iret (pc := 46) X Y.2.2.1 (Nat.le_of_ble_eq_true rfl) (Nat.le_of_ble_eq_true rfl) e1 e2 dX9_comes_46

def f_X9_sitter (v0 : Nat) (v1 : Int32) (w : Wd) : Option (Int32 × Wd) := (bd2 (f_X9_in v1 0 5 w) fun r1 w2 =>
 (if r1 = 0 then
 some ((-1000000001), w2)
 else
 (if wK w2 v0 = 9 then
 (bd1 (wR w2 v0 0) fun a5 =>
 (if aK 11 w2 a5 1 = true then
 (if (wI w2 a5 (nx 1)) = 12 then
 some ((-1000000003), w2)
 else
 (bd2 (f_X9_comes v0 v1 w2) fun r8 w9 =>
 some (r8, w9)))
 else none))
 else none)))
theorem c_X9_sitter {l : Launch} {V : Vt} {v0 : Nat} {v1 : Int32} {w w' : Wd} {r : Int32} (h : f_X9_sitter v0 v1 w = some (r, w')) : MetW l V yX9_sitter cX9_sitter 2 (some .int) { frames := 2, cells := 0, slots := 0, locals := 45 } w [rf V v0, .int v1] (some (.int r)) w' 0 0 := by
  refine g_start (by decide) (Nat.le_of_ble_eq_true rfl) ?_
  intro t _ hrm X hret hnm
  have Y : Hd_ t V cX9_sitter 2 RX9 { frames := 2, cells := 0, slots := 0, locals := 45 } (some .int) "sitter" := ⟨X, hrm, hret, hnm⟩
  refine g_as (lv' := [(0, rf V v0), (1, .int v1)]) (st' := []) rfl rfl ?_
  unfold f_X9_sitter at h
  refine g_iload_n (pc := 0) X 1 rfl dX9_sitter_0 ?_
  refine g_iconst (pc := 1) X (v := 0) dX9_sitter_1 rfl ?_
  refine g_iconst (pc := 2) X (v := 5) dX9_sitter_2 rfl ?_
  obtain ⟨r1, w2, h3, h⟩ := bd2_i h
  refine g_callS (pc := 3) X mk_X9_in q_1133 q_1132 (c_X9_in h3) rfl rfl (by rw [Y.2.1]; decide)  rfl (rest := []) rfl (Nat.le_of_ble_eq_true rfl) (by rw [Y.2.1]; exact ⟨Nat.le_of_ble_eq_true rfl, Nat.le_of_ble_eq_true rfl⟩) dX9_sitter_3 (st' := [.int r1]) rfl ?_
  refine g_if_ne (pc := 6) X (tgt := 12) dX9_sitter_6 rfl (fun c => ?_) (fun c => ?_)
  · have h := br_n c h
    refine g_aload_n (pc := 12) X 0 rfl dX9_sitter_12 ?_
    obtain ⟨k4, h⟩ := gd_i h
    obtain ⟨a5, e6, h⟩ := bd1_i h
    refine g_getR (pc := 13) X FcX9 k4 0 e6 (by decide) rfl q_1020 dX9_sitter_13 ?_
    refine g_iconst (pc := 16) X (v := 1) dX9_sitter_16 rfl ?_
    obtain ⟨k7, h⟩ := gd_i h
    refine g_iald (pc := 17) X k7 dX9_sitter_17 ?_
    refine g_bipush (pc := 18) X (v := 12) dX9_sitter_18 rfl ?_
    refine g_icmp_ne (pc := 20) X (tgt := 28) dX9_sitter_20 rfl (fun c => ?_) (fun c => ?_)
    · have h := br_n c h
      refine g_aload_n (pc := 28) X 0 rfl dX9_sitter_28 ?_
      refine g_iload_n (pc := 29) X 1 rfl dX9_sitter_29 ?_
      obtain ⟨r8, w9, h10, h⟩ := bd2_i h
      refine g_callV (pc := 30) X FcX9 k4 mk_X9_comes q_1155 q_26 q_1153 (c_X9_comes h10) rfl rfl (by rw [Y.2.1]; decide)  rfl (rest := []) rfl (Nat.le_of_ble_eq_true rfl) (by rw [Y.2.1]; exact ⟨Nat.le_of_ble_eq_true rfl, Nat.le_of_ble_eq_true rfl⟩) dX9_sitter_30 (st' := [.int r8]) rfl ?_
      obtain ⟨e1, e2⟩ := rt_i h
      exact g_iret (pc := 33) X Y.2.2.1 (Nat.le_of_ble_eq_true rfl) (Nat.le_of_ble_eq_true rfl) e1 e2 dX9_sitter_33
    · have h := br_y c h
      refine g_ldc (pc := 23) X q_1152 dX9_sitter_23 ?_
      refine g_goto (pc := 25) X (tgt := 33) dX9_sitter_25 rfl ?_
      obtain ⟨e1, e2⟩ := rt_i h
      exact g_iret (pc := 33) X Y.2.2.1 (Nat.le_of_ble_eq_true rfl) (Nat.le_of_ble_eq_true rfl) e1 e2 dX9_sitter_33
  · have h := br_y c h
    refine g_ldc (pc := 9) X q_1135 dX9_sitter_9 ?_
    obtain ⟨e1, e2⟩ := rt_i h
    exact g_iret (pc := 11) X Y.2.2.1 (Nat.le_of_ble_eq_true rfl) (Nat.le_of_ble_eq_true rfl) e1 e2 dX9_sitter_11

def f_X9_worthOf (v0 : Nat) (v1 : Int32) (w : Wd) : Option (Int32 × Wd) := (if wK w v0 = 9 then
 (bd2 (f_X9_of v0 v1 3 w) fun r2 w3 =>
 (if wK w3 v0 = 9 then
 (bd2 (f_X9_of v0 v1 0 w3) fun r6 w7 =>
 (if r6 = 1 then
 some (r2 + 6, w7)
 else
 (if r6 = 2 then
 some (99 - r2, w7)
 else
 (if r6 = 3 then
 some (2 * (r2 + 6), w7)
 else
 (if r6 = 4 then
 some (95 - r2, w7)
 else
 (if r6 = 5 then
 some (3, w7)
 else
 some (r2, w7)))))))
 else none))
 else none)
theorem c_X9_worthOf {l : Launch} {V : Vt} {v0 : Nat} {v1 : Int32} {w w' : Wd} {r : Int32} (h : f_X9_worthOf v0 v1 w = some (r, w')) : MetW l V yX9_worthOf cX9_worthOf 3 (some .int) { frames := 1, cells := 0, slots := 0, locals := 22 } w [rf V v0, .int v1] (some (.int r)) w' 0 0 := by
  refine g_start (by decide) (Nat.le_of_ble_eq_true rfl) ?_
  intro t _ hrm X hret hnm
  have Y : Hd_ t V cX9_worthOf 3 RX9 { frames := 1, cells := 0, slots := 0, locals := 22 } (some .int) "worthOf" := ⟨X, hrm, hret, hnm⟩
  refine g_as (lv' := [(0, rf V v0), (1, .int v1)]) (st' := []) rfl rfl ?_
  unfold f_X9_worthOf at h
  refine g_aload_n (pc := 0) X 0 rfl dX9_worthOf_0 ?_
  refine g_iload_n (pc := 1) X 1 rfl dX9_worthOf_1 ?_
  refine g_iconst (pc := 2) X (v := 3) dX9_worthOf_2 rfl ?_
  obtain ⟨k1, h⟩ := gd_i h
  obtain ⟨r2, w3, h4, h⟩ := bd2_i h
  refine g_callV (pc := 3) X FcX9 k1 mk_X9_of q_1142 q_24 q_1140 (c_X9_of h4) rfl rfl (by rw [Y.2.1]; decide)  rfl (rest := []) rfl (Nat.le_of_ble_eq_true rfl) (by rw [Y.2.1]; exact ⟨Nat.le_of_ble_eq_true rfl, Nat.le_of_ble_eq_true rfl⟩) dX9_worthOf_3 (st' := [.int r2]) rfl ?_
  refine g_istore_n (pc := 6) X (lv' := [(2, .int r2), (0, rf V v0), (1, .int v1)]) dX9_worthOf_6 (by decide) rfl ?_
  refine g_aload_n (pc := 7) X 1 rfl dX9_worthOf_7 ?_
  refine g_iload_n (pc := 8) X 2 rfl dX9_worthOf_8 ?_
  refine g_iconst (pc := 9) X (v := 0) dX9_worthOf_9 rfl ?_
  obtain ⟨k5, h⟩ := gd_i h
  obtain ⟨r6, w7, h8, h⟩ := bd2_i h
  refine g_callV (pc := 10) X FcX9 k5 mk_X9_of q_1142 q_24 q_1140 (c_X9_of h8) rfl rfl (by rw [Y.2.1]; decide)  rfl (rest := []) rfl (Nat.le_of_ble_eq_true rfl) (by rw [Y.2.1]; exact ⟨Nat.le_of_ble_eq_true rfl, Nat.le_of_ble_eq_true rfl⟩) dX9_worthOf_10 (st' := [.int r6]) rfl ?_
  by_cases c9 : r6 = 1
  · have h := br_y c9 h
    refine g_tswI (pc := 13) X 1 (tgt := 48) dX9_worthOf_13 c9 (by decide) (by decide) rfl rfl ?_
    refine g_iload_n (pc := 48) X 0 rfl dX9_worthOf_48 ?_
    refine g_bipush (pc := 49) X (v := 6) dX9_worthOf_49 rfl ?_
    refine g_iadd (pc := 51) X dX9_worthOf_51 ?_
    obtain ⟨e1, e2⟩ := rt_i h
    exact g_iret (pc := 52) X Y.2.2.1 (Nat.le_of_ble_eq_true rfl) (Nat.le_of_ble_eq_true rfl) e1 e2 dX9_worthOf_52
  · have h := br_n c9 h
    by_cases c10 : r6 = 2
    · have h := br_y c10 h
      refine g_tswI (pc := 13) X 2 (tgt := 53) dX9_worthOf_13 c10 (by decide) (by decide) rfl rfl ?_
      refine g_bipush (pc := 53) X (v := 99) dX9_worthOf_53 rfl ?_
      refine g_iload_n (pc := 55) X 0 rfl dX9_worthOf_55 ?_
      refine g_isub (pc := 56) X dX9_worthOf_56 ?_
      obtain ⟨e1, e2⟩ := rt_i h
      exact g_iret (pc := 57) X Y.2.2.1 (Nat.le_of_ble_eq_true rfl) (Nat.le_of_ble_eq_true rfl) e1 e2 dX9_worthOf_57
    · have h := br_n c10 h
      by_cases c11 : r6 = 3
      · have h := br_y c11 h
        refine g_tswI (pc := 13) X 3 (tgt := 58) dX9_worthOf_13 c11 (by decide) (by decide) rfl rfl ?_
        refine g_iconst (pc := 58) X (v := 2) dX9_worthOf_58 rfl ?_
        refine g_iload_n (pc := 59) X 0 rfl dX9_worthOf_59 ?_
        refine g_bipush (pc := 60) X (v := 6) dX9_worthOf_60 rfl ?_
        refine g_iadd (pc := 62) X dX9_worthOf_62 ?_
        refine g_imul (pc := 63) X dX9_worthOf_63 ?_
        obtain ⟨e1, e2⟩ := rt_i h
        exact g_iret (pc := 64) X Y.2.2.1 (Nat.le_of_ble_eq_true rfl) (Nat.le_of_ble_eq_true rfl) e1 e2 dX9_worthOf_64
      · have h := br_n c11 h
        by_cases c12 : r6 = 4
        · have h := br_y c12 h
          refine g_tswI (pc := 13) X 4 (tgt := 65) dX9_worthOf_13 c12 (by decide) (by decide) rfl rfl ?_
          refine g_bipush (pc := 65) X (v := 95) dX9_worthOf_65 rfl ?_
          refine g_iload_n (pc := 67) X 0 rfl dX9_worthOf_67 ?_
          refine g_isub (pc := 68) X dX9_worthOf_68 ?_
          obtain ⟨e1, e2⟩ := rt_i h
          exact g_iret (pc := 69) X Y.2.2.1 (Nat.le_of_ble_eq_true rfl) (Nat.le_of_ble_eq_true rfl) e1 e2 dX9_worthOf_69
        · have h := br_n c12 h
          by_cases c13 : r6 = 5
          · have h := br_y c13 h
            refine g_tswI (pc := 13) X 5 (tgt := 70) dX9_worthOf_13 c13 (by decide) (by decide) rfl rfl ?_
            refine g_iconst (pc := 70) X (v := 3) dX9_worthOf_70 rfl ?_
            obtain ⟨e1, e2⟩ := rt_i h
            exact g_iret (pc := 71) X Y.2.2.1 (Nat.le_of_ble_eq_true rfl) (Nat.le_of_ble_eq_true rfl) e1 e2 dX9_worthOf_71
          · have h := br_n c13 h
            refine g_tswO (pc := 13) X (tgt := 72) dX9_worthOf_13 (by have n0 : Int32.toInt r6 ≠ 1 := nt_ c9; have n1 : Int32.toInt r6 ≠ 2 := nt_ c10; have n2 : Int32.toInt r6 ≠ 3 := nt_ c11; have n3 : Int32.toInt r6 ≠ 4 := nt_ c12; have n4 : Int32.toInt r6 ≠ 5 := nt_ c13; omega) rfl ?_
            refine g_iload_n (pc := 72) X 0 rfl dX9_worthOf_72 ?_
            obtain ⟨e1, e2⟩ := rt_i h
            exact g_iret (pc := 73) X Y.2.2.1 (Nat.le_of_ble_eq_true rfl) (Nat.le_of_ble_eq_true rfl) e1 e2 dX9_worthOf_73

def f_X9_told (v0 : Nat) (v1 : Int32) (v2 : Int32) (w : Wd) : Option (Int32 × Wd) := (if wK w v0 = 9 then
 (bd2 (f_X9_isSitter v0 v1 w) fun r2 w3 =>
 (if r2 = 0 then
 some ((-1000000001), w3)
 else
 (if v2 = 0 then
 (if wK w3 v0 = 9 then
 (bd2 (f_X9_of v0 v1 v2 w3) fun r7 w8 =>
 some (r7, w8))
 else none)
 else
 (if v2 = 1 then
 (if wK w3 v0 = 9 then
 (bd2 (f_X9_of v0 v1 v2 w3) fun r12 w13 =>
 some (r12, w13))
 else none)
 else
 (if v2 = 2 then
 (if wK w3 v0 = 9 then
 (bd2 (f_X9_of v0 v1 v2 w3) fun r17 w18 =>
 some (r17, w18))
 else none)
 else
 (if v2 = 3 then
 (if wK w3 v0 = 9 then
 (bd2 (f_X9_of v0 v1 v2 w3) fun r22 w23 =>
 some (r22, w23))
 else none)
 else
 (if v2 = 4 then
 (if wK w3 v0 = 9 then
 (bd2 (f_X9_setOf v0 v1 w3) fun r27 w28 =>
 some (r27, w28))
 else none)
 else
 (if v2 = 5 then
 (if wK w3 v0 = 9 then
 (bd2 (f_X9_placesOf v0 v1 w3) fun r32 w33 =>
 some (r32, w33))
 else none)
 else
 (if v2 = 6 then
 (if wK w3 v0 = 9 then
 (bd2 (f_X9_worthOf v0 v1 w3) fun r37 w38 =>
 some (r37, w38))
 else none)
 else
 some ((-1000000001), w3))))))))))
 else none)
theorem c_X9_told {l : Launch} {V : Vt} {v0 : Nat} {v1 : Int32} {v2 : Int32} {w w' : Wd} {r : Int32} (h : f_X9_told v0 v1 v2 w = some (r, w')) : MetW l V yX9_told cX9_told 3 (some .int) { frames := 6, cells := 0, slots := 0, locals := 141 } w [rf V v0, .int v1, .int v2] (some (.int r)) w' 0 0 := by
  refine g_start (by decide) (Nat.le_of_ble_eq_true rfl) ?_
  intro t _ hrm X hret hnm
  have Y : Hd_ t V cX9_told 3 RX9 { frames := 6, cells := 0, slots := 0, locals := 141 } (some .int) "told" := ⟨X, hrm, hret, hnm⟩
  refine g_as (lv' := [(0, rf V v0), (1, .int v1), (2, .int v2)]) (st' := []) rfl rfl ?_
  unfold f_X9_told at h
  refine g_aload_n (pc := 0) X 0 rfl dX9_told_0 ?_
  refine g_iload_n (pc := 1) X 1 rfl dX9_told_1 ?_
  obtain ⟨k1, h⟩ := gd_i h
  obtain ⟨r2, w3, h4, h⟩ := bd2_i h
  refine g_callV (pc := 2) X FcX9 k1 mk_X9_isSitter q_1163 q_27 q_1161 (c_X9_isSitter h4) rfl rfl (by rw [Y.2.1]; decide)  rfl (rest := []) rfl (Nat.le_of_ble_eq_true rfl) (by rw [Y.2.1]; exact ⟨Nat.le_of_ble_eq_true rfl, Nat.le_of_ble_eq_true rfl⟩) dX9_told_2 (st' := [.int r2]) rfl ?_
  refine g_if_ne (pc := 5) X (tgt := 11) dX9_told_5 rfl (fun c => ?_) (fun c => ?_)
  · have h := br_n c h
    refine g_iload_n (pc := 11) X 2 rfl dX9_told_11 ?_
    by_cases c5 : v2 = 0
    · have h := br_y c5 h
      refine g_tswI (pc := 12) X 0 (tgt := 56) dX9_told_12 c5 (by decide) (by decide) rfl rfl ?_
      refine g_aload_n (pc := 56) X 0 rfl dX9_told_56 ?_
      refine g_iload_n (pc := 57) X 1 rfl dX9_told_57 ?_
      refine g_iload_n (pc := 58) X 2 rfl dX9_told_58 ?_
      obtain ⟨k6, h⟩ := gd_i h
      obtain ⟨r7, w8, h9, h⟩ := bd2_i h
      refine g_callV (pc := 59) X FcX9 k6 mk_X9_of q_1142 q_24 q_1140 (c_X9_of h9) rfl rfl (by rw [Y.2.1]; decide)  rfl (rest := []) rfl (Nat.le_of_ble_eq_true rfl) (by rw [Y.2.1]; exact ⟨Nat.le_of_ble_eq_true rfl, Nat.le_of_ble_eq_true rfl⟩) dX9_told_59 (st' := [.int r7]) rfl ?_
      obtain ⟨e1, e2⟩ := rt_i h
      exact g_iret (pc := 62) X Y.2.2.1 (Nat.le_of_ble_eq_true rfl) (Nat.le_of_ble_eq_true rfl) e1 e2 dX9_told_62
    · have h := br_n c5 h
      by_cases c10 : v2 = 1
      · have h := br_y c10 h
        refine g_tswI (pc := 12) X 1 (tgt := 56) dX9_told_12 c10 (by decide) (by decide) rfl rfl ?_
        refine g_aload_n (pc := 56) X 0 rfl dX9_told_56 ?_
        refine g_iload_n (pc := 57) X 1 rfl dX9_told_57 ?_
        refine g_iload_n (pc := 58) X 2 rfl dX9_told_58 ?_
        obtain ⟨k11, h⟩ := gd_i h
        obtain ⟨r12, w13, h14, h⟩ := bd2_i h
        refine g_callV (pc := 59) X FcX9 k11 mk_X9_of q_1142 q_24 q_1140 (c_X9_of h14) rfl rfl (by rw [Y.2.1]; decide)  rfl (rest := []) rfl (Nat.le_of_ble_eq_true rfl) (by rw [Y.2.1]; exact ⟨Nat.le_of_ble_eq_true rfl, Nat.le_of_ble_eq_true rfl⟩) dX9_told_59 (st' := [.int r12]) rfl ?_
        obtain ⟨e1, e2⟩ := rt_i h
        exact g_iret (pc := 62) X Y.2.2.1 (Nat.le_of_ble_eq_true rfl) (Nat.le_of_ble_eq_true rfl) e1 e2 dX9_told_62
      · have h := br_n c10 h
        by_cases c15 : v2 = 2
        · have h := br_y c15 h
          refine g_tswI (pc := 12) X 2 (tgt := 56) dX9_told_12 c15 (by decide) (by decide) rfl rfl ?_
          refine g_aload_n (pc := 56) X 0 rfl dX9_told_56 ?_
          refine g_iload_n (pc := 57) X 1 rfl dX9_told_57 ?_
          refine g_iload_n (pc := 58) X 2 rfl dX9_told_58 ?_
          obtain ⟨k16, h⟩ := gd_i h
          obtain ⟨r17, w18, h19, h⟩ := bd2_i h
          refine g_callV (pc := 59) X FcX9 k16 mk_X9_of q_1142 q_24 q_1140 (c_X9_of h19) rfl rfl (by rw [Y.2.1]; decide)  rfl (rest := []) rfl (Nat.le_of_ble_eq_true rfl) (by rw [Y.2.1]; exact ⟨Nat.le_of_ble_eq_true rfl, Nat.le_of_ble_eq_true rfl⟩) dX9_told_59 (st' := [.int r17]) rfl ?_
          obtain ⟨e1, e2⟩ := rt_i h
          exact g_iret (pc := 62) X Y.2.2.1 (Nat.le_of_ble_eq_true rfl) (Nat.le_of_ble_eq_true rfl) e1 e2 dX9_told_62
        · have h := br_n c15 h
          by_cases c20 : v2 = 3
          · have h := br_y c20 h
            refine g_tswI (pc := 12) X 3 (tgt := 56) dX9_told_12 c20 (by decide) (by decide) rfl rfl ?_
            refine g_aload_n (pc := 56) X 0 rfl dX9_told_56 ?_
            refine g_iload_n (pc := 57) X 1 rfl dX9_told_57 ?_
            refine g_iload_n (pc := 58) X 2 rfl dX9_told_58 ?_
            obtain ⟨k21, h⟩ := gd_i h
            obtain ⟨r22, w23, h24, h⟩ := bd2_i h
            refine g_callV (pc := 59) X FcX9 k21 mk_X9_of q_1142 q_24 q_1140 (c_X9_of h24) rfl rfl (by rw [Y.2.1]; decide)  rfl (rest := []) rfl (Nat.le_of_ble_eq_true rfl) (by rw [Y.2.1]; exact ⟨Nat.le_of_ble_eq_true rfl, Nat.le_of_ble_eq_true rfl⟩) dX9_told_59 (st' := [.int r22]) rfl ?_
            obtain ⟨e1, e2⟩ := rt_i h
            exact g_iret (pc := 62) X Y.2.2.1 (Nat.le_of_ble_eq_true rfl) (Nat.le_of_ble_eq_true rfl) e1 e2 dX9_told_62
          · have h := br_n c20 h
            by_cases c25 : v2 = 4
            · have h := br_y c25 h
              refine g_tswI (pc := 12) X 4 (tgt := 63) dX9_told_12 c25 (by decide) (by decide) rfl rfl ?_
              refine g_aload_n (pc := 63) X 0 rfl dX9_told_63 ?_
              refine g_iload_n (pc := 64) X 1 rfl dX9_told_64 ?_
              obtain ⟨k26, h⟩ := gd_i h
              obtain ⟨r27, w28, h29, h⟩ := bd2_i h
              refine g_callV (pc := 65) X FcX9 k26 mk_X9_setOf q_1167 q_28 q_1165 (c_X9_setOf h29) rfl rfl (by rw [Y.2.1]; decide)  rfl (rest := []) rfl (Nat.le_of_ble_eq_true rfl) (by rw [Y.2.1]; exact ⟨Nat.le_of_ble_eq_true rfl, Nat.le_of_ble_eq_true rfl⟩) dX9_told_65 (st' := [.int r27]) rfl ?_
              obtain ⟨e1, e2⟩ := rt_i h
              exact g_iret (pc := 68) X Y.2.2.1 (Nat.le_of_ble_eq_true rfl) (Nat.le_of_ble_eq_true rfl) e1 e2 dX9_told_68
            · have h := br_n c25 h
              by_cases c30 : v2 = 5
              · have h := br_y c30 h
                refine g_tswI (pc := 12) X 5 (tgt := 69) dX9_told_12 c30 (by decide) (by decide) rfl rfl ?_
                refine g_aload_n (pc := 69) X 0 rfl dX9_told_69 ?_
                refine g_iload_n (pc := 70) X 1 rfl dX9_told_70 ?_
                obtain ⟨k31, h⟩ := gd_i h
                obtain ⟨r32, w33, h34, h⟩ := bd2_i h
                refine g_callV (pc := 71) X FcX9 k31 mk_X9_placesOf q_1178 q_30 q_1176 (c_X9_placesOf h34) rfl rfl (by rw [Y.2.1]; decide)  rfl (rest := []) rfl (Nat.le_of_ble_eq_true rfl) (by rw [Y.2.1]; exact ⟨Nat.le_of_ble_eq_true rfl, Nat.le_of_ble_eq_true rfl⟩) dX9_told_71 (st' := [.int r32]) rfl ?_
                obtain ⟨e1, e2⟩ := rt_i h
                exact g_iret (pc := 74) X Y.2.2.1 (Nat.le_of_ble_eq_true rfl) (Nat.le_of_ble_eq_true rfl) e1 e2 dX9_told_74
              · have h := br_n c30 h
                by_cases c35 : v2 = 6
                · have h := br_y c35 h
                  refine g_tswI (pc := 12) X 6 (tgt := 75) dX9_told_12 c35 (by decide) (by decide) rfl rfl ?_
                  refine g_aload_n (pc := 75) X 0 rfl dX9_told_75 ?_
                  refine g_iload_n (pc := 76) X 1 rfl dX9_told_76 ?_
                  obtain ⟨k36, h⟩ := gd_i h
                  obtain ⟨r37, w38, h39, h⟩ := bd2_i h
                  refine g_callV (pc := 77) X FcX9 k36 mk_X9_worthOf q_1205 q_36 q_1203 (c_X9_worthOf h39) rfl rfl (by rw [Y.2.1]; decide)  rfl (rest := []) rfl (Nat.le_of_ble_eq_true rfl) (by rw [Y.2.1]; exact ⟨Nat.le_of_ble_eq_true rfl, Nat.le_of_ble_eq_true rfl⟩) dX9_told_77 (st' := [.int r37]) rfl ?_
                  obtain ⟨e1, e2⟩ := rt_i h
                  exact g_iret (pc := 80) X Y.2.2.1 (Nat.le_of_ble_eq_true rfl) (Nat.le_of_ble_eq_true rfl) e1 e2 dX9_told_80
                · have h := br_n c35 h
                  refine g_tswO (pc := 12) X (tgt := 81) dX9_told_12 (by have n0 : Int32.toInt v2 ≠ 0 := nt_ c5; have n1 : Int32.toInt v2 ≠ 1 := nt_ c10; have n2 : Int32.toInt v2 ≠ 2 := nt_ c15; have n3 : Int32.toInt v2 ≠ 3 := nt_ c20; have n4 : Int32.toInt v2 ≠ 4 := nt_ c25; have n5 : Int32.toInt v2 ≠ 5 := nt_ c30; have n6 : Int32.toInt v2 ≠ 6 := nt_ c35; omega) rfl ?_
                  refine g_ldc (pc := 81) X q_1135 dX9_told_81 ?_
                  obtain ⟨e1, e2⟩ := rt_i h
                  exact g_iret (pc := 83) X Y.2.2.1 (Nat.le_of_ble_eq_true rfl) (Nat.le_of_ble_eq_true rfl) e1 e2 dX9_told_83
  · have h := br_y c h
    refine g_ldc (pc := 8) X q_1135 dX9_told_8 ?_
    obtain ⟨e1, e2⟩ := rt_i h
    exact g_iret (pc := 10) X Y.2.2.1 (Nat.le_of_ble_eq_true rfl) (Nat.le_of_ble_eq_true rfl) e1 e2 dX9_told_10

def f_X9_isUnder (v0 : Int32) (v1 : Int32) (w : Wd) : Option (Int32 × Wd) := some ((if v1 = 0 then 1 else (if v0 = v1 then 1 else (if v1 = 1 then (if v0 = 3 then 1 else (if v1 = 2 then (if v0 = 4 then 1 else 0 : Int32) else 0 : Int32) : Int32) else (if v1 = 2 then (if v0 = 4 then 1 else 0 : Int32) else 0 : Int32) : Int32) : Int32) : Int32), w)
theorem c_X9_isUnder {l : Launch} {V : Vt} {v0 : Int32} {v1 : Int32} {w w' : Wd} {r : Int32} (h : f_X9_isUnder v0 v1 w = some (r, w')) : MetW l V yX9_isUnder cX9_isUnder 2 (some .boolean) { frames := 0, cells := 0, slots := 0, locals := 0 } w [.int v0, .int v1] (some (.int r)) w' 0 0 := by
  refine g_start (by decide) (Nat.le_of_ble_eq_true rfl) ?_
  intro t _ hrm X hret hnm
  have Y : Hd_ t V cX9_isUnder 2 RX9 { frames := 0, cells := 0, slots := 0, locals := 0 } (some .boolean) "isUnder" := ⟨X, hrm, hret, hnm⟩
  refine g_as (lv' := [(0, .int v0), (1, .int v1)]) (st' := []) rfl rfl ?_
  unfold f_X9_isUnder at h
  refine g_iload_n (pc := 0) X 1 rfl dX9_isUnder_0 ?_
  have kJ : Gd t V 2 0 0 (Qe t V (some (.int r)) w' 0 0) 34 [(0, .int v0), (1, .int v1)] [.int (if v1 = 0 then 1 else (if v0 = v1 then 1 else (if v1 = 1 then (if v0 = 3 then 1 else (if v1 = 2 then (if v0 = 4 then 1 else 0 : Int32) else 0 : Int32) : Int32) else (if v1 = 2 then (if v0 = 4 then 1 else 0 : Int32) else 0 : Int32) : Int32) : Int32) : Int32)] w := by
    obtain ⟨e1, e2⟩ := rt_i h
    exact g_zret (pc := 34) X Y.2.2.1 (bz_ite (Or.inr rfl) (bz_ite (Or.inr rfl) (bz_ite (bz_ite (Or.inr rfl) (bz_ite (bz_ite (Or.inr rfl) (Or.inl rfl)) (Or.inl rfl))) (bz_ite (bz_ite (Or.inr rfl) (Or.inl rfl)) (Or.inl rfl))))) (Nat.le_of_ble_eq_true rfl) (Nat.le_of_ble_eq_true rfl) e1 e2 dX9_isUnder_34
  refine g_if_eq (pc := 1) X (tgt := 29) dX9_isUnder_1 rfl (fun c0 => ?_) (fun c0 => ?_)
  · refine g_iconst (pc := 29) X (v := 1) dX9_isUnder_29 rfl ?_
    refine g_goto (pc := 30) X (tgt := 34) dX9_isUnder_30 rfl ?_
    exact g_top (by rw [if_pos c0]) kJ
  · refine g_iload_n (pc := 4) X 0 rfl dX9_isUnder_4 ?_
    refine g_iload_n (pc := 5) X 1 rfl dX9_isUnder_5 ?_
    refine g_icmp_eq (pc := 6) X (tgt := 29) dX9_isUnder_6 rfl (fun c1 => ?_) (fun c1 => ?_)
    · refine g_iconst (pc := 29) X (v := 1) dX9_isUnder_29 rfl ?_
      refine g_goto (pc := 30) X (tgt := 34) dX9_isUnder_30 rfl ?_
      exact g_top (by rw [if_neg c0, if_pos c1]) kJ
    · refine g_iload_n (pc := 9) X 1 rfl dX9_isUnder_9 ?_
      refine g_iconst (pc := 10) X (v := 1) dX9_isUnder_10 rfl ?_
      refine g_icmp_ne (pc := 11) X (tgt := 19) dX9_isUnder_11 rfl (fun c2 => ?_) (fun c2 => ?_)
      · refine g_iload_n (pc := 19) X 1 rfl dX9_isUnder_19 ?_
        refine g_iconst (pc := 20) X (v := 2) dX9_isUnder_20 rfl ?_
        refine g_icmp_ne (pc := 21) X (tgt := 33) dX9_isUnder_21 rfl (fun c3 => ?_) (fun c3 => ?_)
        · refine g_iconst (pc := 33) X (v := 0) dX9_isUnder_33 rfl ?_
          exact g_top (by rw [if_neg c0, if_neg c1, if_neg c2, if_neg c3]) kJ
        · refine g_iload_n (pc := 24) X 0 rfl dX9_isUnder_24 ?_
          refine g_iconst (pc := 25) X (v := 4) dX9_isUnder_25 rfl ?_
          refine g_icmp_ne (pc := 26) X (tgt := 33) dX9_isUnder_26 rfl (fun c4 => ?_) (fun c4 => ?_)
          · refine g_iconst (pc := 33) X (v := 0) dX9_isUnder_33 rfl ?_
            exact g_top (by rw [if_neg c0, if_neg c1, if_neg c2, if_pos c3, if_neg c4]) kJ
          · refine g_iconst (pc := 29) X (v := 1) dX9_isUnder_29 rfl ?_
            refine g_goto (pc := 30) X (tgt := 34) dX9_isUnder_30 rfl ?_
            exact g_top (by rw [if_neg c0, if_neg c1, if_neg c2, if_pos c3, if_pos c4]) kJ
      · refine g_iload_n (pc := 14) X 0 rfl dX9_isUnder_14 ?_
        refine g_iconst (pc := 15) X (v := 3) dX9_isUnder_15 rfl ?_
        refine g_icmp_eq (pc := 16) X (tgt := 29) dX9_isUnder_16 rfl (fun c3 => ?_) (fun c3 => ?_)
        · refine g_iconst (pc := 29) X (v := 1) dX9_isUnder_29 rfl ?_
          refine g_goto (pc := 30) X (tgt := 34) dX9_isUnder_30 rfl ?_
          exact g_top (by rw [if_neg c0, if_neg c1, if_pos c2, if_pos c3]) kJ
        · refine g_iload_n (pc := 19) X 1 rfl dX9_isUnder_19 ?_
          refine g_iconst (pc := 20) X (v := 2) dX9_isUnder_20 rfl ?_
          refine g_icmp_ne (pc := 21) X (tgt := 33) dX9_isUnder_21 rfl (fun c4 => ?_) (fun c4 => ?_)
          · refine g_iconst (pc := 33) X (v := 0) dX9_isUnder_33 rfl ?_
            exact g_top (by rw [if_neg c0, if_neg c1, if_pos c2, if_neg c3, if_neg c4]) kJ
          · refine g_iload_n (pc := 24) X 0 rfl dX9_isUnder_24 ?_
            refine g_iconst (pc := 25) X (v := 4) dX9_isUnder_25 rfl ?_
            refine g_icmp_ne (pc := 26) X (tgt := 33) dX9_isUnder_26 rfl (fun c5 => ?_) (fun c5 => ?_)
            · refine g_iconst (pc := 33) X (v := 0) dX9_isUnder_33 rfl ?_
              exact g_top (by rw [if_neg c0, if_neg c1, if_pos c2, if_neg c3, if_pos c4, if_neg c5]) kJ
            · refine g_iconst (pc := 29) X (v := 1) dX9_isUnder_29 rfl ?_
              refine g_goto (pc := 30) X (tgt := 34) dX9_isUnder_30 rfl ?_
              exact g_top (by rw [if_neg c0, if_neg c1, if_pos c2, if_neg c3, if_pos c4, if_pos c5]) kJ

def f_X9_as (v0 : Nat) (v1 : Int32) (v2 : Int32) (w : Wd) : Option (Int32 × Wd) := (if wK w v0 = 9 then
 (bd2 (f_X9_isSitter v0 v1 w) fun r2 w3 =>
 (if r2 = 0 then
 some ((-1000000001), w3)
 else
 (bd2 (f_X9_in v2 0 5 w3) fun r5 w6 =>
 (if r5 = 0 then
 some ((-1000000001), w6)
 else
 (if wK w6 v0 = 9 then
 (bd2 (f_X9_of v0 v1 0 w6) fun r9 w10 =>
 (bd2 (f_X9_isUnder r9 v2 w10) fun r12 w13 =>
 (if r12 = 0 then
 some ((-1000000012), w13)
 else
 (if wK w13 v0 = 9 then
 (bd2 (f_X9_of v0 v1 3 w13) fun r16 w17 =>
 some (r16, w17))
 else none))))
 else none)))))
 else none)
theorem c_X9_as {l : Launch} {V : Vt} {v0 : Nat} {v1 : Int32} {v2 : Int32} {w w' : Wd} {r : Int32} (h : f_X9_as v0 v1 v2 w = some (r, w')) : MetW l V yX9_as cX9_as 3 (some .int) { frames := 2, cells := 0, slots := 0, locals := 43 } w [rf V v0, .int v1, .int v2] (some (.int r)) w' 0 0 := by
  refine g_start (by decide) (Nat.le_of_ble_eq_true rfl) ?_
  intro t _ hrm X hret hnm
  have Y : Hd_ t V cX9_as 3 RX9 { frames := 2, cells := 0, slots := 0, locals := 43 } (some .int) "as" := ⟨X, hrm, hret, hnm⟩
  refine g_as (lv' := [(0, rf V v0), (1, .int v1), (2, .int v2)]) (st' := []) rfl rfl ?_
  unfold f_X9_as at h
  refine g_aload_n (pc := 0) X 0 rfl dX9_as_0 ?_
  refine g_iload_n (pc := 1) X 1 rfl dX9_as_1 ?_
  obtain ⟨k1, h⟩ := gd_i h
  obtain ⟨r2, w3, h4, h⟩ := bd2_i h
  refine g_callV (pc := 2) X FcX9 k1 mk_X9_isSitter q_1163 q_27 q_1161 (c_X9_isSitter h4) rfl rfl (by rw [Y.2.1]; decide)  rfl (rest := []) rfl (Nat.le_of_ble_eq_true rfl) (by rw [Y.2.1]; exact ⟨Nat.le_of_ble_eq_true rfl, Nat.le_of_ble_eq_true rfl⟩) dX9_as_2 (st' := [.int r2]) rfl ?_
  refine g_if_eq (pc := 5) X (tgt := 17) dX9_as_5 rfl (fun c => ?_) (fun c => ?_)
  · have h := br_y c h
    refine g_ldc (pc := 17) X q_1135 dX9_as_17 ?_
    obtain ⟨e1, e2⟩ := rt_i h
    exact g_iret (pc := 19) X Y.2.2.1 (Nat.le_of_ble_eq_true rfl) (Nat.le_of_ble_eq_true rfl) e1 e2 dX9_as_19
  · have h := br_n c h
    refine g_iload_n (pc := 8) X 2 rfl dX9_as_8 ?_
    refine g_iconst (pc := 9) X (v := 0) dX9_as_9 rfl ?_
    refine g_iconst (pc := 10) X (v := 5) dX9_as_10 rfl ?_
    obtain ⟨r5, w6, h7, h⟩ := bd2_i h
    refine g_callS (pc := 11) X mk_X9_in q_1133 q_1132 (c_X9_in h7) rfl rfl (by rw [Y.2.1]; decide)  rfl (rest := []) rfl (Nat.le_of_ble_eq_true rfl) (by rw [Y.2.1]; exact ⟨Nat.le_of_ble_eq_true rfl, Nat.le_of_ble_eq_true rfl⟩) dX9_as_11 (st' := [.int r5]) rfl ?_
    refine g_if_ne (pc := 14) X (tgt := 20) dX9_as_14 rfl (fun c => ?_) (fun c => ?_)
    · have h := br_n c h
      refine g_aload_n (pc := 20) X 0 rfl dX9_as_20 ?_
      refine g_iload_n (pc := 21) X 1 rfl dX9_as_21 ?_
      refine g_iconst (pc := 22) X (v := 0) dX9_as_22 rfl ?_
      obtain ⟨k8, h⟩ := gd_i h
      obtain ⟨r9, w10, h11, h⟩ := bd2_i h
      refine g_callV (pc := 23) X FcX9 k8 mk_X9_of q_1142 q_24 q_1140 (c_X9_of h11) rfl rfl (by rw [Y.2.1]; decide)  rfl (rest := []) rfl (Nat.le_of_ble_eq_true rfl) (by rw [Y.2.1]; exact ⟨Nat.le_of_ble_eq_true rfl, Nat.le_of_ble_eq_true rfl⟩) dX9_as_23 (st' := [.int r9]) rfl ?_
      refine g_iload_n (pc := 26) X 2 rfl dX9_as_26 ?_
      obtain ⟨r12, w13, h14, h⟩ := bd2_i h
      refine g_callS (pc := 27) X mk_X9_isUnder q_1212 q_1211 (c_X9_isUnder h14) rfl rfl (by rw [Y.2.1]; decide)  rfl (rest := []) rfl (Nat.le_of_ble_eq_true rfl) (by rw [Y.2.1]; exact ⟨Nat.le_of_ble_eq_true rfl, Nat.le_of_ble_eq_true rfl⟩) dX9_as_27 (st' := [.int r12]) rfl ?_
      refine g_if_eq (pc := 30) X (tgt := 42) dX9_as_30 rfl (fun c => ?_) (fun c => ?_)
      · have h := br_y c h
        refine g_ldc (pc := 42) X q_1214 dX9_as_42 ?_
        obtain ⟨e1, e2⟩ := rt_i h
        exact g_iret (pc := 44) X Y.2.2.1 (Nat.le_of_ble_eq_true rfl) (Nat.le_of_ble_eq_true rfl) e1 e2 dX9_as_44
      · have h := br_n c h
        refine g_aload_n (pc := 33) X 0 rfl dX9_as_33 ?_
        refine g_iload_n (pc := 34) X 1 rfl dX9_as_34 ?_
        refine g_iconst (pc := 35) X (v := 3) dX9_as_35 rfl ?_
        obtain ⟨k15, h⟩ := gd_i h
        obtain ⟨r16, w17, h18, h⟩ := bd2_i h
        refine g_callV (pc := 36) X FcX9 k15 mk_X9_of q_1142 q_24 q_1140 (c_X9_of h18) rfl rfl (by rw [Y.2.1]; decide)  rfl (rest := []) rfl (Nat.le_of_ble_eq_true rfl) (by rw [Y.2.1]; exact ⟨Nat.le_of_ble_eq_true rfl, Nat.le_of_ble_eq_true rfl⟩) dX9_as_36 (st' := [.int r16]) rfl ?_
        refine g_goto (pc := 39) X (tgt := 44) dX9_as_39 rfl ?_
        obtain ⟨e1, e2⟩ := rt_i h
        exact g_iret (pc := 44) X Y.2.2.1 (Nat.le_of_ble_eq_true rfl) (Nat.le_of_ble_eq_true rfl) e1 e2 dX9_as_44
    · have h := br_y c h
      refine g_ldc (pc := 17) X q_1135 dX9_as_17 ?_
      obtain ⟨e1, e2⟩ := rt_i h
      exact g_iret (pc := 19) X Y.2.2.1 (Nat.le_of_ble_eq_true rfl) (Nat.le_of_ble_eq_true rfl) e1 e2 dX9_as_19

def f_X9_turns (v0 : Nat) (v1 : Int32) (v2 : Int32) (w : Wd) : Option (Int32 × Wd) := (if wK w v0 = 9 then
 (bd2 (f_X9_isSitter v0 v1 w) fun r2 w3 =>
 (if r2 = 0 then
 some ((-1000000001), w3)
 else
 (bd2 (f_X9_in v2 0 5 w3) fun r5 w6 =>
 (if r5 = 0 then
 some ((-1000000001), w6)
 else
 (if wK w6 v0 = 9 then
 (bd2 (f_X9_of v0 v1 1 w6) fun r9 w10 =>
 (if r9 < 0 then
 (if wK w10 v0 = 9 then
 (bd2 (f_X9_becomes v0 (24 + (4 * v1)) v2 w10) fun r13 w14 =>
 some (r13, w14))
 else none)
 else
 some ((-1000000002), w10)))
 else none)))))
 else none)
theorem c_X9_turns {l : Launch} {V : Vt} {v0 : Nat} {v1 : Int32} {v2 : Int32} {w w' : Wd} {r : Int32} (h : f_X9_turns v0 v1 v2 w = some (r, w')) : MetW l V yX9_turns cX9_turns 3 (some .int) { frames := 2, cells := 0, slots := 0, locals := 43 } w [rf V v0, .int v1, .int v2] (some (.int r)) w' 0 0 := by
  refine g_start (by decide) (Nat.le_of_ble_eq_true rfl) ?_
  intro t _ hrm X hret hnm
  have Y : Hd_ t V cX9_turns 3 RX9 { frames := 2, cells := 0, slots := 0, locals := 43 } (some .int) "turns" := ⟨X, hrm, hret, hnm⟩
  refine g_as (lv' := [(0, rf V v0), (1, .int v1), (2, .int v2)]) (st' := []) rfl rfl ?_
  unfold f_X9_turns at h
  refine g_aload_n (pc := 0) X 0 rfl dX9_turns_0 ?_
  refine g_iload_n (pc := 1) X 1 rfl dX9_turns_1 ?_
  obtain ⟨k1, h⟩ := gd_i h
  obtain ⟨r2, w3, h4, h⟩ := bd2_i h
  refine g_callV (pc := 2) X FcX9 k1 mk_X9_isSitter q_1163 q_27 q_1161 (c_X9_isSitter h4) rfl rfl (by rw [Y.2.1]; decide)  rfl (rest := []) rfl (Nat.le_of_ble_eq_true rfl) (by rw [Y.2.1]; exact ⟨Nat.le_of_ble_eq_true rfl, Nat.le_of_ble_eq_true rfl⟩) dX9_turns_2 (st' := [.int r2]) rfl ?_
  refine g_if_eq (pc := 5) X (tgt := 17) dX9_turns_5 rfl (fun c => ?_) (fun c => ?_)
  · have h := br_y c h
    refine g_ldc (pc := 17) X q_1135 dX9_turns_17 ?_
    obtain ⟨e1, e2⟩ := rt_i h
    exact g_iret (pc := 19) X Y.2.2.1 (Nat.le_of_ble_eq_true rfl) (Nat.le_of_ble_eq_true rfl) e1 e2 dX9_turns_19
  · have h := br_n c h
    refine g_iload_n (pc := 8) X 2 rfl dX9_turns_8 ?_
    refine g_iconst (pc := 9) X (v := 0) dX9_turns_9 rfl ?_
    refine g_iconst (pc := 10) X (v := 5) dX9_turns_10 rfl ?_
    obtain ⟨r5, w6, h7, h⟩ := bd2_i h
    refine g_callS (pc := 11) X mk_X9_in q_1133 q_1132 (c_X9_in h7) rfl rfl (by rw [Y.2.1]; decide)  rfl (rest := []) rfl (Nat.le_of_ble_eq_true rfl) (by rw [Y.2.1]; exact ⟨Nat.le_of_ble_eq_true rfl, Nat.le_of_ble_eq_true rfl⟩) dX9_turns_11 (st' := [.int r5]) rfl ?_
    refine g_if_ne (pc := 14) X (tgt := 20) dX9_turns_14 rfl (fun c => ?_) (fun c => ?_)
    · have h := br_n c h
      refine g_aload_n (pc := 20) X 0 rfl dX9_turns_20 ?_
      refine g_iload_n (pc := 21) X 1 rfl dX9_turns_21 ?_
      refine g_iconst (pc := 22) X (v := 1) dX9_turns_22 rfl ?_
      obtain ⟨k8, h⟩ := gd_i h
      obtain ⟨r9, w10, h11, h⟩ := bd2_i h
      refine g_callV (pc := 23) X FcX9 k8 mk_X9_of q_1142 q_24 q_1140 (c_X9_of h11) rfl rfl (by rw [Y.2.1]; decide)  rfl (rest := []) rfl (Nat.le_of_ble_eq_true rfl) (by rw [Y.2.1]; exact ⟨Nat.le_of_ble_eq_true rfl, Nat.le_of_ble_eq_true rfl⟩) dX9_turns_23 (st' := [.int r9]) rfl ?_
      refine g_if_lt (pc := 26) X (tgt := 34) dX9_turns_26 rfl (fun c => ?_) (fun c => ?_)
      · have h := br_y c h
        refine g_aload_n (pc := 34) X 0 rfl dX9_turns_34 ?_
        refine g_bipush (pc := 35) X (v := 24) dX9_turns_35 rfl ?_
        refine g_iconst (pc := 37) X (v := 4) dX9_turns_37 rfl ?_
        refine g_iload_n (pc := 38) X 1 rfl dX9_turns_38 ?_
        refine g_imul (pc := 39) X dX9_turns_39 ?_
        refine g_iadd (pc := 40) X dX9_turns_40 ?_
        refine g_iload_n (pc := 41) X 2 rfl dX9_turns_41 ?_
        obtain ⟨k12, h⟩ := gd_i h
        obtain ⟨r13, w14, h15, h⟩ := bd2_i h
        refine g_callV (pc := 42) X FcX9 k12 mk_X9_becomes q_1222 q_37 q_1220 (c_X9_becomes h15) rfl rfl (by rw [Y.2.1]; decide)  rfl (rest := []) rfl (Nat.le_of_ble_eq_true rfl) (by rw [Y.2.1]; exact ⟨Nat.le_of_ble_eq_true rfl, Nat.le_of_ble_eq_true rfl⟩) dX9_turns_42 (st' := [.int r13]) rfl ?_
        obtain ⟨e1, e2⟩ := rt_i h
        exact g_iret (pc := 45) X Y.2.2.1 (Nat.le_of_ble_eq_true rfl) (Nat.le_of_ble_eq_true rfl) e1 e2 dX9_turns_45
      · have h := br_n c h
        refine g_ldc (pc := 29) X q_1219 dX9_turns_29 ?_
        refine g_goto (pc := 31) X (tgt := 45) dX9_turns_31 rfl ?_
        obtain ⟨e1, e2⟩ := rt_i h
        exact g_iret (pc := 45) X Y.2.2.1 (Nat.le_of_ble_eq_true rfl) (Nat.le_of_ble_eq_true rfl) e1 e2 dX9_turns_45
    · have h := br_y c h
      refine g_ldc (pc := 17) X q_1135 dX9_turns_17 ?_
      obtain ⟨e1, e2⟩ := rt_i h
      exact g_iret (pc := 19) X Y.2.2.1 (Nat.le_of_ble_eq_true rfl) (Nat.le_of_ble_eq_true rfl) e1 e2 dX9_turns_19

def L_X9_counts_10  (n : Nat) (v0 : Nat) (v1 : Int32) (v2 : Int32) (w : Wd) : Option (Int32 × Wd) := match n with
  | 0 => none
  | n + 1 => (if v2 < 0 then
 some ((-1), w)
 else
 (if wK w v0 = 9 then
 (bd1 (wR w v0 0) fun a8 =>
 (if aK 11 w a8 (72 + (2 * v2)) = true then
 (if ((wI w a8 (nx (72 + (2 * v2)))) / 1000) = v1 then
 some (v2, w)
 else
 (lb_ (v2 + (-1)) fun x11 =>
 L_X9_counts_10 n v0 v1 x11 w))
 else none))
 else none))
theorem bL_X9_counts_10 {t : Ct} {V : Vt} {r : Int32} {w' : Wd} (Y : Hd_ t V cX9_counts 3 RX9 { frames := 0, cells := 0, slots := 0, locals := 0 } (some .int) "counts") : ∀ {n : Nat} {v0 : Nat} {v1 : Int32} {v2 : Int32} {w : Wd}, L_X9_counts_10  n v0 v1 v2 w = some (r, w') → Gd t V 3 0 0 (Qe t V (some (.int r)) w' 0 0) 10 [(0, rf V v0), (1, .int v1), (2, .int v2)] [] w := by
  have X := Y.1
  intro n
  induction n with
  | zero => intro v0 v1 v2 w h; cases h
  | succ n ih0 =>
    have ih : ∀ (v0 : Nat) (v1 : Int32) (v2 : Int32) (w : Wd), L_X9_counts_10  n v0 v1 v2 w = some (r, w') → Gd t V 3 0 0 (Qe t V (some (.int r)) w' 0 0) 10 [(0, rf V v0), (1, .int v1), (2, .int v2)] [] w := fun v0 v1 v2 w h => ih0 h
    clear ih0
    intro v0 v1 v2 w h
    unfold L_X9_counts_10 at h
    refine g_iload_n (pc := 10) X 2 rfl dX9_counts_10 ?_
    refine g_if_lt (pc := 11) X (tgt := 41) dX9_counts_11 rfl (fun c => ?_) (fun c => ?_)
    · have h := br_y c h
      refine g_iconst (pc := 41) X (v := (-1)) dX9_counts_41 rfl ?_
      obtain ⟨e1, e2⟩ := rt_i h
      exact g_iret (pc := 42) X Y.2.2.1 (Nat.le_of_ble_eq_true rfl) (Nat.le_of_ble_eq_true rfl) e1 e2 dX9_counts_42
    · have h := br_n c h
      refine g_aload_n (pc := 14) X 0 rfl dX9_counts_14 ?_
      obtain ⟨k7, h⟩ := gd_i h
      obtain ⟨a8, e9, h⟩ := bd1_i h
      refine g_getR (pc := 15) X FcX9 k7 0 e9 (by decide) rfl q_1020 dX9_counts_15 ?_
      refine g_bipush (pc := 18) X (v := 72) dX9_counts_18 rfl ?_
      refine g_iconst (pc := 20) X (v := 2) dX9_counts_20 rfl ?_
      refine g_iload_n (pc := 21) X 2 rfl dX9_counts_21 ?_
      refine g_imul (pc := 22) X dX9_counts_22 ?_
      refine g_iadd (pc := 23) X dX9_counts_23 ?_
      obtain ⟨k10, h⟩ := gd_i h
      refine g_iald (pc := 24) X k10 dX9_counts_24 ?_
      refine g_sipush (pc := 25) X (v := 1000) dX9_counts_25 rfl ?_
      refine g_idiv (pc := 28) X (by decide) dX9_counts_28 ?_
      refine g_iload_n (pc := 29) X 1 rfl dX9_counts_29 ?_
      refine g_icmp_ne (pc := 30) X (tgt := 35) dX9_counts_30 rfl (fun c => ?_) (fun c => ?_)
      · have h := br_n c h
        obtain ⟨x11, e12, h⟩ := lb_i h
        refine g_iinc (pc := 35) X 2 rfl dX9_counts_35 (v := x11) e12.symm (by decide) (lv' := [(2, .int x11), (0, rf V v0), (1, .int v1)]) rfl ?_
        refine g_goto (pc := 38) X (tgt := 10) dX9_counts_38 rfl ?_
        refine g_sub (lv' := [(0, rf V v0), (1, .int v1), (2, .int x11)]) [1, 2, 0] rfl ?_
        exact ih _ _ _ _ h
      · have h := br_y c h
        refine g_iload_n (pc := 33) X 2 rfl dX9_counts_33 ?_
        obtain ⟨e1, e2⟩ := rt_i h
        exact g_iret (pc := 34) X Y.2.2.1 (Nat.le_of_ble_eq_true rfl) (Nat.le_of_ble_eq_true rfl) e1 e2 dX9_counts_34

def f_X9_counts (v0 : Nat) (v1 : Int32) (w : Wd) : Option (Int32 × Wd) := (if wK w v0 = 9 then
 (bd1 (wR w v0 0) fun a2 =>
 (if aK 11 w a2 11 = true then
 (lb_ ((wI w a2 (nx 11)) - 1) fun x5 =>
 L_X9_counts_10 FU v0 v1 x5 w)
 else none))
 else none)
theorem c_X9_counts {l : Launch} {V : Vt} {v0 : Nat} {v1 : Int32} {w w' : Wd} {r : Int32} (h : f_X9_counts v0 v1 w = some (r, w')) : MetW l V yX9_counts cX9_counts 3 (some .int) { frames := 0, cells := 0, slots := 0, locals := 0 } w [rf V v0, .int v1] (some (.int r)) w' 0 0 := by
  refine g_start (by decide) (Nat.le_of_ble_eq_true rfl) ?_
  intro t _ hrm X hret hnm
  have Y : Hd_ t V cX9_counts 3 RX9 { frames := 0, cells := 0, slots := 0, locals := 0 } (some .int) "counts" := ⟨X, hrm, hret, hnm⟩
  refine g_as (lv' := [(0, rf V v0), (1, .int v1)]) (st' := []) rfl rfl ?_
  unfold f_X9_counts at h
  refine g_aload_n (pc := 0) X 0 rfl dX9_counts_0 ?_
  obtain ⟨k1, h⟩ := gd_i h
  obtain ⟨a2, e3, h⟩ := bd1_i h
  refine g_getR (pc := 1) X FcX9 k1 0 e3 (by decide) rfl q_1020 dX9_counts_1 ?_
  refine g_bipush (pc := 4) X (v := 11) dX9_counts_4 rfl ?_
  obtain ⟨k4, h⟩ := gd_i h
  refine g_iald (pc := 6) X k4 dX9_counts_6 ?_
  refine g_iconst (pc := 7) X (v := 1) dX9_counts_7 rfl ?_
  refine g_isub (pc := 8) X dX9_counts_8 ?_
  obtain ⟨x5, e6, h⟩ := lb_i h
  refine g_top e6 ?_
  refine g_istore_n (pc := 9) X (lv' := [(2, .int x5), (0, rf V v0), (1, .int v1)]) dX9_counts_9 (by decide) rfl ?_
  refine g_sub (lv' := [(0, rf V v0), (1, .int v1), (2, .int x5)]) [1, 2, 0] rfl ?_
  exact bL_X9_counts_10 Y  h

def f_X9_two (v0 : Int32) (v1 : Int32) (v2 : Int32) (w : Wd) : Option (Int32 × Wd) := (if v0 = (-8) then
 some (v1 * v2, w)
 else
 (if v0 = (-7) then
 some (v1 - v2, w)
 else
 (if v0 = (-6) then
 some (v1 + v2, w)
 else
 (if v0 = (-5) then
 some ((if v1 ≤ v2 then 0 else 1 : Int32), w)
 else
 (if v0 = (-4) then
 some ((if v1 = v2 then 1 else 0 : Int32), w)
 else
 (if v0 = (-3) then
 some ((if v2 ≤ v1 then 0 else 1 : Int32), w)
 else
 (if v0 = (-2) then
 some ((if v1 = 0 then 0 else (if v2 = 0 then 0 else 1 : Int32) : Int32), w)
 else
 (if v0 = (-1) then
 some ((if v1 = 0 then (if v2 = 0 then 0 else 1 : Int32) else 1 : Int32), w)
 else
 (if v2 = 0 then
 some (0, w)
 else
 (if ¬ v2 = 0 then
 some (v1 / v2, w)
 else none))))))))))
theorem c_X9_two {l : Launch} {V : Vt} {v0 : Int32} {v1 : Int32} {v2 : Int32} {w w' : Wd} {r : Int32} (h : f_X9_two v0 v1 v2 w = some (r, w')) : MetW l V yX9_two cX9_two 3 (some .int) { frames := 0, cells := 0, slots := 0, locals := 0 } w [.int v0, .int v1, .int v2] (some (.int r)) w' 0 0 := by
  refine g_start (by decide) (Nat.le_of_ble_eq_true rfl) ?_
  intro t _ hrm X hret hnm
  have Y : Hd_ t V cX9_two 3 RX9 { frames := 0, cells := 0, slots := 0, locals := 0 } (some .int) "two" := ⟨X, hrm, hret, hnm⟩
  refine g_as (lv' := [(0, .int v0), (1, .int v1), (2, .int v2)]) (st' := []) rfl rfl ?_
  unfold f_X9_two at h
  refine g_iload_n (pc := 0) X 0 rfl dX9_two_0 ?_
  by_cases c1 : v0 = (-8)
  · have h := br_y c1 h
    refine g_tswI (pc := 1) X (-8) (tgt := 117) dX9_two_1 c1 (by decide) (by decide) rfl rfl ?_
    refine g_iload_n (pc := 117) X 1 rfl dX9_two_117 ?_
    refine g_iload_n (pc := 118) X 2 rfl dX9_two_118 ?_
    refine g_imul (pc := 119) X dX9_two_119 ?_
    obtain ⟨e1, e2⟩ := rt_i h
    exact g_iret (pc := 120) X Y.2.2.1 (Nat.le_of_ble_eq_true rfl) (Nat.le_of_ble_eq_true rfl) e1 e2 dX9_two_120
  · have h := br_n c1 h
    by_cases c2 : v0 = (-7)
    · have h := br_y c2 h
      refine g_tswI (pc := 1) X (-7) (tgt := 113) dX9_two_1 c2 (by decide) (by decide) rfl rfl ?_
      refine g_iload_n (pc := 113) X 1 rfl dX9_two_113 ?_
      refine g_iload_n (pc := 114) X 2 rfl dX9_two_114 ?_
      refine g_isub (pc := 115) X dX9_two_115 ?_
      obtain ⟨e1, e2⟩ := rt_i h
      exact g_iret (pc := 116) X Y.2.2.1 (Nat.le_of_ble_eq_true rfl) (Nat.le_of_ble_eq_true rfl) e1 e2 dX9_two_116
    · have h := br_n c2 h
      by_cases c3 : v0 = (-6)
      · have h := br_y c3 h
        refine g_tswI (pc := 1) X (-6) (tgt := 109) dX9_two_1 c3 (by decide) (by decide) rfl rfl ?_
        refine g_iload_n (pc := 109) X 1 rfl dX9_two_109 ?_
        refine g_iload_n (pc := 110) X 2 rfl dX9_two_110 ?_
        refine g_iadd (pc := 111) X dX9_two_111 ?_
        obtain ⟨e1, e2⟩ := rt_i h
        exact g_iret (pc := 112) X Y.2.2.1 (Nat.le_of_ble_eq_true rfl) (Nat.le_of_ble_eq_true rfl) e1 e2 dX9_two_112
      · have h := br_n c3 h
        by_cases c4 : v0 = (-5)
        · have h := br_y c4 h
          refine g_tswI (pc := 1) X (-5) (tgt := 98) dX9_two_1 c4 (by decide) (by decide) rfl rfl ?_
          refine g_iload_n (pc := 98) X 1 rfl dX9_two_98 ?_
          refine g_iload_n (pc := 99) X 2 rfl dX9_two_99 ?_
          have kJ : Gd t V 3 0 0 (Qe t V (some (.int r)) w' 0 0) 108 [(0, .int v0), (1, .int v1), (2, .int v2)] [.int (if v1 ≤ v2 then 0 else 1 : Int32)] w := by
            obtain ⟨e1, e2⟩ := rt_i h
            exact g_iret (pc := 108) X Y.2.2.1 (Nat.le_of_ble_eq_true rfl) (Nat.le_of_ble_eq_true rfl) e1 e2 dX9_two_108
          refine g_icmp_le (pc := 100) X (tgt := 107) dX9_two_100 rfl (fun c0 => ?_) (fun c0 => ?_)
          · refine g_iconst (pc := 107) X (v := 0) dX9_two_107 rfl ?_
            exact g_top (by rw [if_pos c0]) kJ
          · refine g_iconst (pc := 103) X (v := 1) dX9_two_103 rfl ?_
            refine g_goto (pc := 104) X (tgt := 108) dX9_two_104 rfl ?_
            exact g_top (by rw [if_neg c0]) kJ
        · have h := br_n c4 h
          by_cases c5 : v0 = (-4)
          · have h := br_y c5 h
            refine g_tswI (pc := 1) X (-4) (tgt := 87) dX9_two_1 c5 (by decide) (by decide) rfl rfl ?_
            refine g_iload_n (pc := 87) X 1 rfl dX9_two_87 ?_
            refine g_iload_n (pc := 88) X 2 rfl dX9_two_88 ?_
            have kJ : Gd t V 3 0 0 (Qe t V (some (.int r)) w' 0 0) 97 [(0, .int v0), (1, .int v1), (2, .int v2)] [.int (if v1 = v2 then 1 else 0 : Int32)] w := by
              obtain ⟨e1, e2⟩ := rt_i h
              exact g_iret (pc := 97) X Y.2.2.1 (Nat.le_of_ble_eq_true rfl) (Nat.le_of_ble_eq_true rfl) e1 e2 dX9_two_97
            refine g_icmp_ne (pc := 89) X (tgt := 96) dX9_two_89 rfl (fun c0 => ?_) (fun c0 => ?_)
            · refine g_iconst (pc := 96) X (v := 0) dX9_two_96 rfl ?_
              exact g_top (by rw [if_neg c0]) kJ
            · refine g_iconst (pc := 92) X (v := 1) dX9_two_92 rfl ?_
              refine g_goto (pc := 93) X (tgt := 97) dX9_two_93 rfl ?_
              exact g_top (by rw [if_pos c0]) kJ
          · have h := br_n c5 h
            by_cases c6 : v0 = (-3)
            · have h := br_y c6 h
              refine g_tswI (pc := 1) X (-3) (tgt := 76) dX9_two_1 c6 (by decide) (by decide) rfl rfl ?_
              refine g_iload_n (pc := 76) X 1 rfl dX9_two_76 ?_
              refine g_iload_n (pc := 77) X 2 rfl dX9_two_77 ?_
              have kJ : Gd t V 3 0 0 (Qe t V (some (.int r)) w' 0 0) 86 [(0, .int v0), (1, .int v1), (2, .int v2)] [.int (if v2 ≤ v1 then 0 else 1 : Int32)] w := by
                obtain ⟨e1, e2⟩ := rt_i h
                exact g_iret (pc := 86) X Y.2.2.1 (Nat.le_of_ble_eq_true rfl) (Nat.le_of_ble_eq_true rfl) e1 e2 dX9_two_86
              refine g_icmp_ge (pc := 78) X (tgt := 85) dX9_two_78 rfl (fun c0 => ?_) (fun c0 => ?_)
              · refine g_iconst (pc := 85) X (v := 0) dX9_two_85 rfl ?_
                exact g_top (by rw [if_pos c0]) kJ
              · refine g_iconst (pc := 81) X (v := 1) dX9_two_81 rfl ?_
                refine g_goto (pc := 82) X (tgt := 86) dX9_two_82 rfl ?_
                exact g_top (by rw [if_neg c0]) kJ
            · have h := br_n c6 h
              by_cases c7 : v0 = (-2)
              · have h := br_y c7 h
                refine g_tswI (pc := 1) X (-2) (tgt := 62) dX9_two_1 c7 (by decide) (by decide) rfl rfl ?_
                refine g_iload_n (pc := 62) X 1 rfl dX9_two_62 ?_
                have kJ : Gd t V 3 0 0 (Qe t V (some (.int r)) w' 0 0) 75 [(0, .int v0), (1, .int v1), (2, .int v2)] [.int (if v1 = 0 then 0 else (if v2 = 0 then 0 else 1 : Int32) : Int32)] w := by
                  obtain ⟨e1, e2⟩ := rt_i h
                  exact g_iret (pc := 75) X Y.2.2.1 (Nat.le_of_ble_eq_true rfl) (Nat.le_of_ble_eq_true rfl) e1 e2 dX9_two_75
                refine g_if_eq (pc := 63) X (tgt := 74) dX9_two_63 rfl (fun c0 => ?_) (fun c0 => ?_)
                · refine g_iconst (pc := 74) X (v := 0) dX9_two_74 rfl ?_
                  exact g_top (by rw [if_pos c0]) kJ
                · refine g_iload_n (pc := 66) X 2 rfl dX9_two_66 ?_
                  refine g_if_eq (pc := 67) X (tgt := 74) dX9_two_67 rfl (fun c1 => ?_) (fun c1 => ?_)
                  · refine g_iconst (pc := 74) X (v := 0) dX9_two_74 rfl ?_
                    exact g_top (by rw [if_neg c0, if_pos c1]) kJ
                  · refine g_iconst (pc := 70) X (v := 1) dX9_two_70 rfl ?_
                    refine g_goto (pc := 71) X (tgt := 75) dX9_two_71 rfl ?_
                    exact g_top (by rw [if_neg c0, if_neg c1]) kJ
              · have h := br_n c7 h
                by_cases c8 : v0 = (-1)
                · have h := br_y c8 h
                  refine g_tswI (pc := 1) X (-1) (tgt := 48) dX9_two_1 c8 (by decide) (by decide) rfl rfl ?_
                  refine g_iload_n (pc := 48) X 1 rfl dX9_two_48 ?_
                  have kJ : Gd t V 3 0 0 (Qe t V (some (.int r)) w' 0 0) 61 [(0, .int v0), (1, .int v1), (2, .int v2)] [.int (if v1 = 0 then (if v2 = 0 then 0 else 1 : Int32) else 1 : Int32)] w := by
                    obtain ⟨e1, e2⟩ := rt_i h
                    exact g_iret (pc := 61) X Y.2.2.1 (Nat.le_of_ble_eq_true rfl) (Nat.le_of_ble_eq_true rfl) e1 e2 dX9_two_61
                  refine g_if_ne (pc := 49) X (tgt := 56) dX9_two_49 rfl (fun c0 => ?_) (fun c0 => ?_)
                  · refine g_iconst (pc := 56) X (v := 1) dX9_two_56 rfl ?_
                    refine g_goto (pc := 57) X (tgt := 61) dX9_two_57 rfl ?_
                    exact g_top (by rw [if_neg c0]) kJ
                  · refine g_iload_n (pc := 52) X 2 rfl dX9_two_52 ?_
                    refine g_if_eq (pc := 53) X (tgt := 60) dX9_two_53 rfl (fun c1 => ?_) (fun c1 => ?_)
                    · refine g_iconst (pc := 60) X (v := 0) dX9_two_60 rfl ?_
                      exact g_top (by rw [if_pos c0, if_pos c1]) kJ
                    · refine g_iconst (pc := 56) X (v := 1) dX9_two_56 rfl ?_
                      refine g_goto (pc := 57) X (tgt := 61) dX9_two_57 rfl ?_
                      exact g_top (by rw [if_pos c0, if_neg c1]) kJ
                · have h := br_n c8 h
                  refine g_tswO (pc := 1) X (tgt := 121) dX9_two_1 (by have n0 : Int32.toInt v0 ≠ -8 := nt_ c1; have n1 : Int32.toInt v0 ≠ -7 := nt_ c2; have n2 : Int32.toInt v0 ≠ -6 := nt_ c3; have n3 : Int32.toInt v0 ≠ -5 := nt_ c4; have n4 : Int32.toInt v0 ≠ -4 := nt_ c5; have n5 : Int32.toInt v0 ≠ -3 := nt_ c6; have n6 : Int32.toInt v0 ≠ -2 := nt_ c7; have n7 : Int32.toInt v0 ≠ -1 := nt_ c8; omega) rfl ?_
                  refine g_iload_n (pc := 121) X 2 rfl dX9_two_121 ?_
                  refine g_if_ne (pc := 122) X (tgt := 129) dX9_two_122 rfl (fun c => ?_) (fun c => ?_)
                  · have h := br_n c h
                    refine g_iload_n (pc := 129) X 1 rfl dX9_two_129 ?_
                    refine g_iload_n (pc := 130) X 2 rfl dX9_two_130 ?_
                    obtain ⟨k9, h⟩ := gd_i h
                    refine g_idiv (pc := 131) X k9 dX9_two_131 ?_
                    obtain ⟨e1, e2⟩ := rt_i h
                    exact g_iret (pc := 132) X Y.2.2.1 (Nat.le_of_ble_eq_true rfl) (Nat.le_of_ble_eq_true rfl) e1 e2 dX9_two_132
                  · have h := br_y c h
                    refine g_iconst (pc := 125) X (v := 0) dX9_two_125 rfl ?_
                    refine g_goto (pc := 126) X (tgt := 132) dX9_two_126 rfl ?_
                    obtain ⟨e1, e2⟩ := rt_i h
                    exact g_iret (pc := 132) X Y.2.2.1 (Nat.le_of_ble_eq_true rfl) (Nat.le_of_ble_eq_true rfl) e1 e2 dX9_two_132

def j_X9_worksOut_78 (kk21 : Nat → Int32 → Int32 → Int32 → Int32 → Wd → Option (Int32 × Wd)) (v0 : Nat) (v1 : Int32) (v2 : Int32) (v3 : Int32) (v4 : Int32) (s0 : Int32) (s1 : Int32) (s2 : Nat) (w : Wd) : Option (Int32 × Wd) := (if aK 11 w s2 s1 = true then
 (lb_ (sI w s2 (nx s1) s0) fun w51 =>
 (lb_ (v2 + 1) fun x53 =>
 (lb_ (v4 + 1) fun x55 =>
 kk21 v0 v1 x53 v3 x55 w51)))
 else none)
theorem bj_X9_worksOut_78 {t : Ct} {V : Vt} {r : Int32} {w' : Wd} {kk21 : Nat → Int32 → Int32 → Int32 → Int32 → Wd → Option (Int32 × Wd)} (Y : Hd_ t V cX9_worksOut 6 RX9 { frames := 1, cells := 0, slots := 0, locals := 22 } (some .int) "worksOut") (hk21 : ∀ (u0 : Nat) (u1 : Int32) (u2 : Int32) (u3 : Int32) (u4 : Int32) (w : Wd), kk21 u0 u1 u2 u3 u4 w = some (r, w') → Gd t V 6 0 0 (Qe t V (some (.int r)) w' 0 0) 21 [(0, rf V u0), (1, .int u1), (2, .int u2), (3, .int u3), (4, .int u4)] [] w) {v0 : Nat} {v1 : Int32} {v2 : Int32} {v3 : Int32} {v4 : Int32} {s0 : Int32} {s1 : Int32} {s2 : Nat} {w : Wd} (h : j_X9_worksOut_78 kk21 v0 v1 v2 v3 v4 s0 s1 s2 w = some (r, w')) : Gd t V 6 0 0 (Qe t V (some (.int r)) w' 0 0) 78 [(0, rf V v0), (1, .int v1), (2, .int v2), (3, .int v3), (4, .int v4)] [.int s0, .int s1, rf V s2] w := by
  have X := Y.1
  unfold j_X9_worksOut_78 at h
  obtain ⟨k50, h⟩ := gd_i h
  refine g_iast (pc := 78) X k50 dX9_worksOut_78 ?_
  obtain ⟨w51, e52, h⟩ := lb_i h
  refine g_w e52 ?_
  obtain ⟨x53, e54, h⟩ := lb_i h
  refine g_iinc (pc := 79) X 2 rfl dX9_worksOut_79 (v := x53) e54.symm (by decide) (lv' := [(2, .int x53), (0, rf V v0), (1, .int v1), (3, .int v3), (4, .int v4)]) rfl ?_
  refine g_goto (pc := 82) X (tgt := 149) dX9_worksOut_82 rfl ?_
  obtain ⟨x55, e56, h⟩ := lb_i h
  refine g_iinc (pc := 149) X 4 rfl dX9_worksOut_149 (v := x55) e56.symm (by decide) (lv' := [(4, .int x55), (2, .int x53), (0, rf V v0), (1, .int v1), (3, .int v3)]) rfl ?_
  refine g_goto (pc := 152) X (tgt := 21) dX9_worksOut_152 rfl ?_
  refine g_sub (lv' := [(0, rf V v0), (1, .int v1), (2, .int x53), (3, .int v3), (4, .int x55)]) [2, 3, 1, 4, 0] rfl ?_
  exact hk21 _ _ _ _ _ _ h

def L_X9_worksOut_21  (n : Nat) (v0 : Nat) (v1 : Int32) (v2 : Int32) (v3 : Int32) (v4 : Int32) (w : Wd) : Option (Int32 × Wd) := match n with
  | 0 => none
  | n + 1 => (if v3 ≤ v4 then
 (if wK w v0 = 9 then
 (bd1 (wR w v0 23) fun a8 =>
 (if aK 11 w a8 0 = true then
 some (wI w a8 (nx 0), w)
 else none))
 else none)
 else
 (if wK w v0 = 9 then
 (bd1 (wR w v0 0) fun a12 =>
 (if aK 11 w a12 ((100 + (96 * v1)) + v4) = true then
 (lb_ (wI w a12 (nx ((100 + (96 * v1)) + v4))) fun x15 =>
 (if x15 < 0 then
 (if x15 = (-10) then
 (bd1 (wR w v0 23) fun a35 =>
 (bd1 (wR w v0 23) fun a37 =>
 (if aK 11 w a37 (v2 - 1) = true then
 (if aK 11 w a35 (v2 - 1) = true then
 (lb_ (sI w a35 (nx (v2 - 1)) (if (wI w a37 (nx (v2 - 1))) = 0 then 1 else 0 : Int32)) fun w41 =>
 (lb_ (v4 + 1) fun x43 =>
 L_X9_worksOut_21 n v0 v1 v2 v3 x43 w41))
 else none)
 else none)))
 else
 (lb_ (v2 + (-1)) fun x17 =>
 (bd1 (wR w v0 23) fun a19 =>
 (bd1 (wR w v0 23) fun a21 =>
 (if aK 11 w a21 (x17 - 1) = true then
 (bd1 (wR w v0 23) fun a24 =>
 (if aK 11 w a24 x17 = true then
 (bd2 (f_X9_two x15 (wI w a21 (nx (x17 - 1))) (wI w a24 (nx x17)) w) fun r27 w28 =>
 (if aK 11 w28 a19 (x17 - 1) = true then
 (lb_ (sI w28 a19 (nx (x17 - 1)) r27) fun w31 =>
 (lb_ (v4 + 1) fun x33 =>
 L_X9_worksOut_21 n v0 v1 x17 v3 x33 w31))
 else none))
 else none))
 else none)))))
 else
 (bd1 (wR w v0 23) fun a45 =>
 (if 10000 ≤ x15 then
 (bd1 (wR w v0 24) fun a47 =>
 (if aK 11 w a47 (x15 - 10000) = true then
 j_X9_worksOut_78 (L_X9_worksOut_21 n) v0 v1 v2 v3 v4 (wI w a47 (nx (x15 - 10000))) v2 a45 w
 else none))
 else
 j_X9_worksOut_78 (L_X9_worksOut_21 n) v0 v1 v2 v3 v4 x15 v2 a45 w))))
 else none))
 else none))
theorem bL_X9_worksOut_21 {t : Ct} {V : Vt} {r : Int32} {w' : Wd} (Y : Hd_ t V cX9_worksOut 6 RX9 { frames := 1, cells := 0, slots := 0, locals := 22 } (some .int) "worksOut") : ∀ {n : Nat} {v0 : Nat} {v1 : Int32} {v2 : Int32} {v3 : Int32} {v4 : Int32} {w : Wd}, L_X9_worksOut_21  n v0 v1 v2 v3 v4 w = some (r, w') → Gd t V 6 0 0 (Qe t V (some (.int r)) w' 0 0) 21 [(0, rf V v0), (1, .int v1), (2, .int v2), (3, .int v3), (4, .int v4)] [] w := by
  have X := Y.1
  intro n
  induction n with
  | zero => intro v0 v1 v2 v3 v4 w h; cases h
  | succ n ih0 =>
    have ih : ∀ (v0 : Nat) (v1 : Int32) (v2 : Int32) (v3 : Int32) (v4 : Int32) (w : Wd), L_X9_worksOut_21  n v0 v1 v2 v3 v4 w = some (r, w') → Gd t V 6 0 0 (Qe t V (some (.int r)) w' 0 0) 21 [(0, rf V v0), (1, .int v1), (2, .int v2), (3, .int v3), (4, .int v4)] [] w := fun v0 v1 v2 v3 v4 w h => ih0 h
    clear ih0
    intro v0 v1 v2 v3 v4 w h
    unfold L_X9_worksOut_21 at h
    refine g_iload (pc := 21) X 4 rfl dX9_worksOut_21 ?_
    refine g_iload_n (pc := 23) X 3 rfl dX9_worksOut_23 ?_
    refine g_icmp_ge (pc := 24) X (tgt := 155) dX9_worksOut_24 rfl (fun c => ?_) (fun c => ?_)
    · have h := br_y c h
      refine g_aload_n (pc := 155) X 0 rfl dX9_worksOut_155 ?_
      obtain ⟨k7, h⟩ := gd_i h
      obtain ⟨a8, e9, h⟩ := bd1_i h
      refine g_getR (pc := 156) X FcX9 k7 23 e9 (by decide) rfl q_1043 dX9_worksOut_156 ?_
      refine g_iconst (pc := 159) X (v := 0) dX9_worksOut_159 rfl ?_
      obtain ⟨k10, h⟩ := gd_i h
      refine g_iald (pc := 160) X k10 dX9_worksOut_160 ?_
      obtain ⟨e1, e2⟩ := rt_i h
      exact g_iret (pc := 161) X Y.2.2.1 (Nat.le_of_ble_eq_true rfl) (Nat.le_of_ble_eq_true rfl) e1 e2 dX9_worksOut_161
    · have h := br_n c h
      refine g_aload_n (pc := 27) X 0 rfl dX9_worksOut_27 ?_
      obtain ⟨k11, h⟩ := gd_i h
      obtain ⟨a12, e13, h⟩ := bd1_i h
      refine g_getR (pc := 28) X FcX9 k11 0 e13 (by decide) rfl q_1020 dX9_worksOut_28 ?_
      refine g_bipush (pc := 31) X (v := 100) dX9_worksOut_31 rfl ?_
      refine g_bipush (pc := 33) X (v := 96) dX9_worksOut_33 rfl ?_
      refine g_iload_n (pc := 35) X 1 rfl dX9_worksOut_35 ?_
      refine g_imul (pc := 36) X dX9_worksOut_36 ?_
      refine g_iadd (pc := 37) X dX9_worksOut_37 ?_
      refine g_iload (pc := 38) X 4 rfl dX9_worksOut_38 ?_
      refine g_iadd (pc := 40) X dX9_worksOut_40 ?_
      obtain ⟨k14, h⟩ := gd_i h
      refine g_iald (pc := 41) X k14 dX9_worksOut_41 ?_
      obtain ⟨x15, e16, h⟩ := lb_i h
      refine g_top e16 ?_
      refine g_istore (pc := 42) X (lv' := [(5, .int x15), (0, rf V v0), (1, .int v1), (2, .int v2), (3, .int v3), (4, .int v4)]) dX9_worksOut_42 (by decide) rfl ?_
      refine g_iload (pc := 44) X 0 rfl dX9_worksOut_44 ?_
      refine g_if_lt (pc := 46) X (tgt := 85) dX9_worksOut_46 rfl (fun c => ?_) (fun c => ?_)
      · have h := br_y c h
        refine g_iload (pc := 85) X 0 rfl dX9_worksOut_85 ?_
        refine g_bipush (pc := 87) X (v := (-10)) dX9_worksOut_87 rfl ?_
        refine g_icmp_ne (pc := 89) X (tgt := 119) dX9_worksOut_89 rfl (fun c => ?_) (fun c => ?_)
        · have h := br_n c h
          obtain ⟨x17, e18, h⟩ := lb_i h
          refine g_iinc (pc := 119) X 3 rfl dX9_worksOut_119 (v := x17) e18.symm (by decide) (lv' := [(2, .int x17), (5, .int x15), (0, rf V v0), (1, .int v1), (3, .int v3), (4, .int v4)]) rfl ?_
          refine g_aload_n (pc := 122) X 2 rfl dX9_worksOut_122 ?_
          obtain ⟨a19, e20, h⟩ := bd1_i h
          refine g_getR (pc := 123) X FcX9 k11 23 e20 (by decide) rfl q_1043 dX9_worksOut_123 ?_
          refine g_iload_n (pc := 126) X 0 rfl dX9_worksOut_126 ?_
          refine g_iconst (pc := 127) X (v := 1) dX9_worksOut_127 rfl ?_
          refine g_isub (pc := 128) X dX9_worksOut_128 ?_
          refine g_iload (pc := 129) X 1 rfl dX9_worksOut_129 ?_
          refine g_aload_n (pc := 131) X 2 rfl dX9_worksOut_131 ?_
          obtain ⟨a21, e22, h⟩ := bd1_i h
          refine g_getR (pc := 132) X FcX9 k11 23 e22 (by decide) rfl q_1043 dX9_worksOut_132 ?_
          refine g_iload_n (pc := 135) X 0 rfl dX9_worksOut_135 ?_
          refine g_iconst (pc := 136) X (v := 1) dX9_worksOut_136 rfl ?_
          refine g_isub (pc := 137) X dX9_worksOut_137 ?_
          obtain ⟨k23, h⟩ := gd_i h
          refine g_iald (pc := 138) X k23 dX9_worksOut_138 ?_
          refine g_aload_n (pc := 139) X 2 rfl dX9_worksOut_139 ?_
          obtain ⟨a24, e25, h⟩ := bd1_i h
          refine g_getR (pc := 140) X FcX9 k11 23 e25 (by decide) rfl q_1043 dX9_worksOut_140 ?_
          refine g_iload_n (pc := 143) X 0 rfl dX9_worksOut_143 ?_
          obtain ⟨k26, h⟩ := gd_i h
          refine g_iald (pc := 144) X k26 dX9_worksOut_144 ?_
          obtain ⟨r27, w28, h29, h⟩ := bd2_i h
          refine g_callS (pc := 145) X mk_X9_two q_1245 q_1244 (c_X9_two h29) rfl rfl (by rw [Y.2.1]; decide)  rfl (rest := [.int (x17 - 1), rf V a19]) rfl (Nat.le_of_ble_eq_true rfl) (by rw [Y.2.1]; exact ⟨Nat.le_of_ble_eq_true rfl, Nat.le_of_ble_eq_true rfl⟩) dX9_worksOut_145 (st' := [.int r27, .int (x17 - 1), rf V a19]) rfl ?_
          obtain ⟨k30, h⟩ := gd_i h
          refine g_iast (pc := 148) X k30 dX9_worksOut_148 ?_
          obtain ⟨w31, e32, h⟩ := lb_i h
          refine g_w e32 ?_
          obtain ⟨x33, e34, h⟩ := lb_i h
          refine g_iinc (pc := 149) X 5 rfl dX9_worksOut_149 (v := x33) e34.symm (by decide) (lv' := [(4, .int x33), (2, .int x17), (5, .int x15), (0, rf V v0), (1, .int v1), (3, .int v3)]) rfl ?_
          refine g_goto (pc := 152) X (tgt := 21) dX9_worksOut_152 rfl ?_
          refine g_sub (lv' := [(0, rf V v0), (1, .int v1), (2, .int x17), (3, .int v3), (4, .int x33)]) [3, 4, 1, 5, 0] rfl ?_
          exact ih _ _ _ _ _ _ h
        · have h := br_y c h
          refine g_aload_n (pc := 92) X 1 rfl dX9_worksOut_92 ?_
          obtain ⟨a35, e36, h⟩ := bd1_i h
          refine g_getR (pc := 93) X FcX9 k11 23 e36 (by decide) rfl q_1043 dX9_worksOut_93 ?_
          refine g_iload_n (pc := 96) X 3 rfl dX9_worksOut_96 ?_
          refine g_iconst (pc := 97) X (v := 1) dX9_worksOut_97 rfl ?_
          refine g_isub (pc := 98) X dX9_worksOut_98 ?_
          refine g_aload_n (pc := 99) X 1 rfl dX9_worksOut_99 ?_
          obtain ⟨a37, e38, h⟩ := bd1_i h
          refine g_getR (pc := 100) X FcX9 k11 23 e38 (by decide) rfl q_1043 dX9_worksOut_100 ?_
          refine g_iload_n (pc := 103) X 3 rfl dX9_worksOut_103 ?_
          refine g_iconst (pc := 104) X (v := 1) dX9_worksOut_104 rfl ?_
          refine g_isub (pc := 105) X dX9_worksOut_105 ?_
          obtain ⟨k39, h⟩ := gd_i h
          refine g_iald (pc := 106) X k39 dX9_worksOut_106 ?_
          have kJ : Gd t V 6 0 0 (Qe t V (some (.int r)) w' 0 0) 115 [(5, .int x15), (0, rf V v0), (1, .int v1), (2, .int v2), (3, .int v3), (4, .int v4)] [.int (if (wI w a37 (nx (v2 - 1))) = 0 then 1 else 0 : Int32), .int (v2 - 1), rf V a35] w := by
            obtain ⟨k40, h⟩ := gd_i h
            refine g_iast (pc := 115) X k40 dX9_worksOut_115 ?_
            obtain ⟨w41, e42, h⟩ := lb_i h
            refine g_w e42 ?_
            refine g_goto (pc := 116) X (tgt := 149) dX9_worksOut_116 rfl ?_
            obtain ⟨x43, e44, h⟩ := lb_i h
            refine g_iinc (pc := 149) X 5 rfl dX9_worksOut_149 (v := x43) e44.symm (by decide) (lv' := [(4, .int x43), (5, .int x15), (0, rf V v0), (1, .int v1), (2, .int v2), (3, .int v3)]) rfl ?_
            refine g_goto (pc := 152) X (tgt := 21) dX9_worksOut_152 rfl ?_
            refine g_sub (lv' := [(0, rf V v0), (1, .int v1), (2, .int v2), (3, .int v3), (4, .int x43)]) [2, 3, 4, 5, 0] rfl ?_
            exact ih _ _ _ _ _ _ h
          refine g_if_ne (pc := 107) X (tgt := 114) dX9_worksOut_107 rfl (fun c0 => ?_) (fun c0 => ?_)
          · refine g_iconst (pc := 114) X (v := 0) dX9_worksOut_114 rfl ?_
            exact g_top (by rw [if_neg c0]) kJ
          · refine g_iconst (pc := 110) X (v := 1) dX9_worksOut_110 rfl ?_
            refine g_goto (pc := 111) X (tgt := 115) dX9_worksOut_111 rfl ?_
            exact g_top (by rw [if_pos c0]) kJ
      · have h := br_n c h
        refine g_aload_n (pc := 49) X 1 rfl dX9_worksOut_49 ?_
        obtain ⟨a45, e46, h⟩ := bd1_i h
        refine g_getR (pc := 50) X FcX9 k11 23 e46 (by decide) rfl q_1043 dX9_worksOut_50 ?_
        refine g_iload_n (pc := 53) X 3 rfl dX9_worksOut_53 ?_
        refine g_iload (pc := 54) X 0 rfl dX9_worksOut_54 ?_
        refine g_sipush (pc := 56) X (v := 10000) dX9_worksOut_56 rfl ?_
        refine g_icmp_ge (pc := 59) X (tgt := 67) dX9_worksOut_59 rfl (fun c => ?_) (fun c => ?_)
        · have h := br_y c h
          refine g_aload_n (pc := 67) X 1 rfl dX9_worksOut_67 ?_
          obtain ⟨a47, e48, h⟩ := bd1_i h
          refine g_getR (pc := 68) X FcX9 k11 24 e48 (by decide) rfl q_1044 dX9_worksOut_68 ?_
          refine g_iload (pc := 71) X 0 rfl dX9_worksOut_71 ?_
          refine g_sipush (pc := 73) X (v := 10000) dX9_worksOut_73 rfl ?_
          refine g_isub (pc := 76) X dX9_worksOut_76 ?_
          obtain ⟨k49, h⟩ := gd_i h
          refine g_iald (pc := 77) X k49 dX9_worksOut_77 ?_
          refine g_sub (lv' := [(0, rf V v0), (1, .int v1), (2, .int v2), (3, .int v3), (4, .int v4)]) [1, 2, 3, 4, 5] rfl ?_
          exact bj_X9_worksOut_78 Y (ih) h
        · have h := br_n c h
          refine g_iload (pc := 62) X 0 rfl dX9_worksOut_62 ?_
          refine g_goto (pc := 64) X (tgt := 78) dX9_worksOut_64 rfl ?_
          refine g_sub (lv' := [(0, rf V v0), (1, .int v1), (2, .int v2), (3, .int v3), (4, .int v4)]) [1, 2, 3, 4, 5] rfl ?_
          exact bj_X9_worksOut_78 Y (ih) h

def f_X9_worksOut (v0 : Nat) (v1 : Int32) (w : Wd) : Option (Int32 × Wd) := (if wK w v0 = 9 then
 (bd1 (wR w v0 0) fun a2 =>
 (if aK 11 w a2 (72 + (2 * v1)) = true then
 (lb_ (irem (wI w a2 (nx (72 + (2 * v1)))) 1000) fun x5 =>
 L_X9_worksOut_21 FU v0 v1 0 x5 0 w)
 else none))
 else none)
theorem c_X9_worksOut {l : Launch} {V : Vt} {v0 : Nat} {v1 : Int32} {w w' : Wd} {r : Int32} (h : f_X9_worksOut v0 v1 w = some (r, w')) : MetW l V yX9_worksOut cX9_worksOut 6 (some .int) { frames := 1, cells := 0, slots := 0, locals := 22 } w [rf V v0, .int v1] (some (.int r)) w' 0 0 := by
  refine g_start (by decide) (Nat.le_of_ble_eq_true rfl) ?_
  intro t _ hrm X hret hnm
  have Y : Hd_ t V cX9_worksOut 6 RX9 { frames := 1, cells := 0, slots := 0, locals := 22 } (some .int) "worksOut" := ⟨X, hrm, hret, hnm⟩
  refine g_as (lv' := [(0, rf V v0), (1, .int v1)]) (st' := []) rfl rfl ?_
  unfold f_X9_worksOut at h
  refine g_iconst (pc := 0) X (v := 0) dX9_worksOut_0 rfl ?_
  refine g_istore_n (pc := 1) X (lv' := [(2, .int 0), (0, rf V v0), (1, .int v1)]) dX9_worksOut_1 (by decide) rfl ?_
  refine g_aload_n (pc := 2) X 1 rfl dX9_worksOut_2 ?_
  obtain ⟨k1, h⟩ := gd_i h
  obtain ⟨a2, e3, h⟩ := bd1_i h
  refine g_getR (pc := 3) X FcX9 k1 0 e3 (by decide) rfl q_1020 dX9_worksOut_3 ?_
  refine g_bipush (pc := 6) X (v := 72) dX9_worksOut_6 rfl ?_
  refine g_iconst (pc := 8) X (v := 2) dX9_worksOut_8 rfl ?_
  refine g_iload_n (pc := 9) X 2 rfl dX9_worksOut_9 ?_
  refine g_imul (pc := 10) X dX9_worksOut_10 ?_
  refine g_iadd (pc := 11) X dX9_worksOut_11 ?_
  obtain ⟨k4, h⟩ := gd_i h
  refine g_iald (pc := 12) X k4 dX9_worksOut_12 ?_
  refine g_sipush (pc := 13) X (v := 1000) dX9_worksOut_13 rfl ?_
  refine g_irem (pc := 16) X (by decide) dX9_worksOut_16 ?_
  obtain ⟨x5, e6, h⟩ := lb_i h
  refine g_top e6 ?_
  refine g_istore_n (pc := 17) X (lv' := [(3, .int x5), (2, .int 0), (0, rf V v0), (1, .int v1)]) dX9_worksOut_17 (by decide) rfl ?_
  refine g_iconst (pc := 18) X (v := 0) dX9_worksOut_18 rfl ?_
  refine g_istore (pc := 19) X (lv' := [(4, .int 0), (3, .int x5), (2, .int 0), (0, rf V v0), (1, .int v1)]) dX9_worksOut_19 (by decide) rfl ?_
  refine g_sub (lv' := [(0, rf V v0), (1, .int v1), (2, .int 0), (3, .int x5), (4, .int 0)]) [3, 4, 2, 1, 0] rfl ?_
  exact bL_X9_worksOut_21 Y  h

def j_X9_paysAt_84  (v0 : Nat) (v1 : Int32) (s0 : Int32) (w : Wd) : Option (Int32 × Wd) := (if wK w v0 = 9 then
 (bd2 (f_X9_of v0 v1 0 w) fun r38 w39 =>
 (if r38 = 1 then
 some (2 * s0, w39)
 else
 (if r38 = 2 then
 some (s0 - 2, w39)
 else
 (if r38 = 3 then
 some ((2 * s0) + 1, w39)
 else
 (if r38 = 4 then
 some ((s0 - 2) / 2, w39)
 else
 some (s0, w39))))))
 else none)
theorem bj_X9_paysAt_84 {t : Ct} {V : Vt} {r : Int32} {w' : Wd} (Y : Hd_ t V cX9_paysAt 5 RX9 { frames := 2, cells := 0, slots := 0, locals := 47 } (some .int) "paysAt") {v0 : Nat} {v1 : Int32} {s0 : Int32} {w : Wd} (h : j_X9_paysAt_84  v0 v1 s0 w = some (r, w')) : Gd t V 5 0 0 (Qe t V (some (.int r)) w' 0 0) 84 [(0, rf V v0), (1, .int v1)] [.int s0] w := by
  have X := Y.1
  unfold j_X9_paysAt_84 at h
  refine g_istore (pc := 84) X (lv' := [(4, .int s0), (0, rf V v0), (1, .int v1)]) dX9_paysAt_84 (by decide) rfl ?_
  refine g_aload_n (pc := 86) X 1 rfl dX9_paysAt_86 ?_
  refine g_iload_n (pc := 87) X 2 rfl dX9_paysAt_87 ?_
  refine g_iconst (pc := 88) X (v := 0) dX9_paysAt_88 rfl ?_
  obtain ⟨k37, h⟩ := gd_i h
  obtain ⟨r38, w39, h40, h⟩ := bd2_i h
  refine g_callV (pc := 89) X FcX9 k37 mk_X9_of q_1142 q_24 q_1140 (c_X9_of h40) rfl rfl (by rw [Y.2.1]; decide)  rfl (rest := []) rfl (Nat.le_of_ble_eq_true rfl) (by rw [Y.2.1]; exact ⟨Nat.le_of_ble_eq_true rfl, Nat.le_of_ble_eq_true rfl⟩) dX9_paysAt_89 (st' := [.int r38]) rfl ?_
  by_cases c41 : r38 = 1
  · have h := br_y c41 h
    refine g_tswI (pc := 92) X 1 (tgt := 124) dX9_paysAt_92 c41 (by decide) (by decide) rfl rfl ?_
    refine g_iconst (pc := 124) X (v := 2) dX9_paysAt_124 rfl ?_
    refine g_iload (pc := 125) X 0 rfl dX9_paysAt_125 ?_
    refine g_imul (pc := 127) X dX9_paysAt_127 ?_
    obtain ⟨e1, e2⟩ := rt_i h
    exact g_iret (pc := 128) X Y.2.2.1 (Nat.le_of_ble_eq_true rfl) (Nat.le_of_ble_eq_true rfl) e1 e2 dX9_paysAt_128
  · have h := br_n c41 h
    by_cases c42 : r38 = 2
    · have h := br_y c42 h
      refine g_tswI (pc := 92) X 2 (tgt := 129) dX9_paysAt_92 c42 (by decide) (by decide) rfl rfl ?_
      refine g_iload (pc := 129) X 0 rfl dX9_paysAt_129 ?_
      refine g_iconst (pc := 131) X (v := 2) dX9_paysAt_131 rfl ?_
      refine g_isub (pc := 132) X dX9_paysAt_132 ?_
      obtain ⟨e1, e2⟩ := rt_i h
      exact g_iret (pc := 133) X Y.2.2.1 (Nat.le_of_ble_eq_true rfl) (Nat.le_of_ble_eq_true rfl) e1 e2 dX9_paysAt_133
    · have h := br_n c42 h
      by_cases c43 : r38 = 3
      · have h := br_y c43 h
        refine g_tswI (pc := 92) X 3 (tgt := 134) dX9_paysAt_92 c43 (by decide) (by decide) rfl rfl ?_
        refine g_iconst (pc := 134) X (v := 2) dX9_paysAt_134 rfl ?_
        refine g_iload (pc := 135) X 0 rfl dX9_paysAt_135 ?_
        refine g_imul (pc := 137) X dX9_paysAt_137 ?_
        refine g_iconst (pc := 138) X (v := 1) dX9_paysAt_138 rfl ?_
        refine g_iadd (pc := 139) X dX9_paysAt_139 ?_
        obtain ⟨e1, e2⟩ := rt_i h
        exact g_iret (pc := 140) X Y.2.2.1 (Nat.le_of_ble_eq_true rfl) (Nat.le_of_ble_eq_true rfl) e1 e2 dX9_paysAt_140
      · have h := br_n c43 h
        by_cases c44 : r38 = 4
        · have h := br_y c44 h
          refine g_tswI (pc := 92) X 4 (tgt := 141) dX9_paysAt_92 c44 (by decide) (by decide) rfl rfl ?_
          refine g_iload (pc := 141) X 0 rfl dX9_paysAt_141 ?_
          refine g_iconst (pc := 143) X (v := 2) dX9_paysAt_143 rfl ?_
          refine g_isub (pc := 144) X dX9_paysAt_144 ?_
          refine g_iconst (pc := 145) X (v := 2) dX9_paysAt_145 rfl ?_
          refine g_idiv (pc := 146) X (by decide) dX9_paysAt_146 ?_
          obtain ⟨e1, e2⟩ := rt_i h
          exact g_iret (pc := 147) X Y.2.2.1 (Nat.le_of_ble_eq_true rfl) (Nat.le_of_ble_eq_true rfl) e1 e2 dX9_paysAt_147
        · have h := br_n c44 h
          refine g_tswO (pc := 92) X (tgt := 148) dX9_paysAt_92 (by have n0 : Int32.toInt r38 ≠ 1 := nt_ c41; have n1 : Int32.toInt r38 ≠ 2 := nt_ c42; have n2 : Int32.toInt r38 ≠ 3 := nt_ c43; have n3 : Int32.toInt r38 ≠ 4 := nt_ c44; omega) rfl ?_
          refine g_iload (pc := 148) X 0 rfl dX9_paysAt_148 ?_
          obtain ⟨e1, e2⟩ := rt_i h
          exact g_iret (pc := 150) X Y.2.2.1 (Nat.le_of_ble_eq_true rfl) (Nat.le_of_ble_eq_true rfl) e1 e2 dX9_paysAt_150

def f_X9_paysAt (v0 : Nat) (v1 : Int32) (v2 : Int32) (w : Wd) : Option (Int32 × Wd) := (if wK w v0 = 9 then
 (bd2 (f_X9_counts v0 0 w) fun r2 w3 =>
 (if wK w3 v0 = 9 then
 (bd1 (wR w3 v0 24) fun a6 =>
 (bd1 (wR w3 v0 0) fun a8 =>
 (if aK 11 w3 a8 6 = true then
 (if aK 11 w3 a6 0 = true then
 (lb_ (sI w3 a6 (nx 0) (wI w3 a8 (nx 6))) fun w12 =>
 (bd1 (wR w12 v0 24) fun a14 =>
 (bd1 (wR w12 v0 0) fun a16 =>
 (if aK 11 w12 a16 (12 + v2) = true then
 (if aK 11 w12 a14 1 = true then
 (lb_ (sI w12 a14 (nx 1) (wI w12 a16 (nx (12 + v2)))) fun w20 =>
 (bd1 (wR w20 v0 24) fun a22 =>
 (bd2 (f_X9_of v0 v1 3 w20) fun r24 w25 =>
 (if aK 11 w25 a22 2 = true then
 (lb_ (sI w25 a22 (nx 2) r24) fun w28 =>
 (if 0 ≤ r2 then
 (if wK w28 v0 = 9 then
 (bd2 (f_X9_worksOut v0 r2 w28) fun r31 w32 =>
 (bd2 (f_X9_within r31 (-999) 999 w32) fun r34 w35 =>
 j_X9_paysAt_84 v0 v1 r34 w35))
 else none)
 else
 (if wK w28 v0 = 9 then
 (bd1 (wR w28 v0 0) fun a46 =>
 (if aK 11 w28 a46 6 = true then
 (bd1 (wR w28 v0 0) fun a49 =>
 (if aK 11 w28 a49 (12 + v2) = true then
 j_X9_paysAt_84 v0 v1 ((wI w28 a46 (nx 6)) + (wI w28 a49 (nx (12 + v2)))) w28
 else none))
 else none))
 else none)))
 else none))))
 else none)
 else none))))
 else none)
 else none)))
 else none))
 else none)
theorem c_X9_paysAt {l : Launch} {V : Vt} {v0 : Nat} {v1 : Int32} {v2 : Int32} {w w' : Wd} {r : Int32} (h : f_X9_paysAt v0 v1 v2 w = some (r, w')) : MetW l V yX9_paysAt cX9_paysAt 5 (some .int) { frames := 2, cells := 0, slots := 0, locals := 47 } w [rf V v0, .int v1, .int v2] (some (.int r)) w' 0 0 := by
  refine g_start (by decide) (Nat.le_of_ble_eq_true rfl) ?_
  intro t _ hrm X hret hnm
  have Y : Hd_ t V cX9_paysAt 5 RX9 { frames := 2, cells := 0, slots := 0, locals := 47 } (some .int) "paysAt" := ⟨X, hrm, hret, hnm⟩
  refine g_as (lv' := [(0, rf V v0), (1, .int v1), (2, .int v2)]) (st' := []) rfl rfl ?_
  unfold f_X9_paysAt at h
  refine g_aload_n (pc := 0) X 0 rfl dX9_paysAt_0 ?_
  refine g_iconst (pc := 1) X (v := 0) dX9_paysAt_1 rfl ?_
  obtain ⟨k1, h⟩ := gd_i h
  obtain ⟨r2, w3, h4, h⟩ := bd2_i h
  refine g_callV (pc := 2) X FcX9 k1 mk_X9_counts q_1238 q_40 q_1236 (c_X9_counts h4) rfl rfl (by rw [Y.2.1]; decide)  rfl (rest := []) rfl (Nat.le_of_ble_eq_true rfl) (by rw [Y.2.1]; exact ⟨Nat.le_of_ble_eq_true rfl, Nat.le_of_ble_eq_true rfl⟩) dX9_paysAt_2 (st' := [.int r2]) rfl ?_
  refine g_istore_n (pc := 5) X (lv' := [(3, .int r2), (0, rf V v0), (1, .int v1), (2, .int v2)]) dX9_paysAt_5 (by decide) rfl ?_
  refine g_aload_n (pc := 6) X 1 rfl dX9_paysAt_6 ?_
  obtain ⟨k5, h⟩ := gd_i h
  obtain ⟨a6, e7, h⟩ := bd1_i h
  refine g_getR (pc := 7) X FcX9 k5 24 e7 (by decide) rfl q_1044 dX9_paysAt_7 ?_
  refine g_iconst (pc := 10) X (v := 0) dX9_paysAt_10 rfl ?_
  refine g_aload_n (pc := 11) X 1 rfl dX9_paysAt_11 ?_
  obtain ⟨a8, e9, h⟩ := bd1_i h
  refine g_getR (pc := 12) X FcX9 k5 0 e9 (by decide) rfl q_1020 dX9_paysAt_12 ?_
  refine g_bipush (pc := 15) X (v := 6) dX9_paysAt_15 rfl ?_
  obtain ⟨k10, h⟩ := gd_i h
  refine g_iald (pc := 17) X k10 dX9_paysAt_17 ?_
  obtain ⟨k11, h⟩ := gd_i h
  refine g_iast (pc := 18) X k11 dX9_paysAt_18 ?_
  obtain ⟨w12, e13, h⟩ := lb_i h
  refine g_w e13 ?_
  refine g_aload_n (pc := 19) X 1 rfl dX9_paysAt_19 ?_
  obtain ⟨a14, e15, h⟩ := bd1_i h
  refine g_getR (pc := 20) X FcX9 (kd_I e13 k5) 24 e15 (by decide) rfl q_1044 dX9_paysAt_20 ?_
  refine g_iconst (pc := 23) X (v := 1) dX9_paysAt_23 rfl ?_
  refine g_aload_n (pc := 24) X 1 rfl dX9_paysAt_24 ?_
  obtain ⟨a16, e17, h⟩ := bd1_i h
  refine g_getR (pc := 25) X FcX9 (kd_I e13 k5) 0 e17 (by decide) rfl q_1020 dX9_paysAt_25 ?_
  refine g_bipush (pc := 28) X (v := 12) dX9_paysAt_28 rfl ?_
  refine g_iload_n (pc := 30) X 3 rfl dX9_paysAt_30 ?_
  refine g_iadd (pc := 31) X dX9_paysAt_31 ?_
  obtain ⟨k18, h⟩ := gd_i h
  refine g_iald (pc := 32) X k18 dX9_paysAt_32 ?_
  obtain ⟨k19, h⟩ := gd_i h
  refine g_iast (pc := 33) X k19 dX9_paysAt_33 ?_
  obtain ⟨w20, e21, h⟩ := lb_i h
  refine g_w e21 ?_
  refine g_aload_n (pc := 34) X 1 rfl dX9_paysAt_34 ?_
  obtain ⟨a22, e23, h⟩ := bd1_i h
  refine g_getR (pc := 35) X FcX9 (kd_I e21 (kd_I e13 k5)) 24 e23 (by decide) rfl q_1044 dX9_paysAt_35 ?_
  refine g_iconst (pc := 38) X (v := 2) dX9_paysAt_38 rfl ?_
  refine g_aload_n (pc := 39) X 1 rfl dX9_paysAt_39 ?_
  refine g_iload_n (pc := 40) X 2 rfl dX9_paysAt_40 ?_
  refine g_iconst (pc := 41) X (v := 3) dX9_paysAt_41 rfl ?_
  obtain ⟨r24, w25, h26, h⟩ := bd2_i h
  refine g_callV (pc := 42) X FcX9 (kd_I e21 (kd_I e13 k5)) mk_X9_of q_1142 q_24 q_1140 (c_X9_of h26) rfl rfl (by rw [Y.2.1]; decide)  rfl (rest := [.int 2, rf V a22]) rfl (Nat.le_of_ble_eq_true rfl) (by rw [Y.2.1]; exact ⟨Nat.le_of_ble_eq_true rfl, Nat.le_of_ble_eq_true rfl⟩) dX9_paysAt_42 (st' := [.int r24, .int 2, rf V a22]) rfl ?_
  obtain ⟨k27, h⟩ := gd_i h
  refine g_iast (pc := 45) X k27 dX9_paysAt_45 ?_
  obtain ⟨w28, e29, h⟩ := lb_i h
  refine g_w e29 ?_
  refine g_iload_n (pc := 46) X 0 rfl dX9_paysAt_46 ?_
  refine g_if_ge (pc := 47) X (tgt := 70) dX9_paysAt_47 rfl (fun c => ?_) (fun c => ?_)
  · have h := br_y c h
    refine g_aload_n (pc := 70) X 1 rfl dX9_paysAt_70 ?_
    refine g_iload_n (pc := 71) X 0 rfl dX9_paysAt_71 ?_
    obtain ⟨k30, h⟩ := gd_i h
    obtain ⟨r31, w32, h33, h⟩ := bd2_i h
    refine g_callV (pc := 72) X FcX9 k30 mk_X9_worksOut q_1242 q_41 q_1240 (c_X9_worksOut h33) rfl rfl (by rw [Y.2.1]; decide)  rfl (rest := []) rfl (Nat.le_of_ble_eq_true rfl) (by rw [Y.2.1]; exact ⟨Nat.le_of_ble_eq_true rfl, Nat.le_of_ble_eq_true rfl⟩) dX9_paysAt_72 (st' := [.int r31]) rfl ?_
    refine g_sipush (pc := 75) X (v := (-999)) dX9_paysAt_75 rfl ?_
    refine g_sipush (pc := 78) X (v := 999) dX9_paysAt_78 rfl ?_
    obtain ⟨r34, w35, h36, h⟩ := bd2_i h
    refine g_callS (pc := 81) X mk_X9_within q_1248 q_1247 (c_X9_within h36) rfl rfl (by rw [Y.2.1]; decide)  rfl (rest := []) rfl (Nat.le_of_ble_eq_true rfl) (by rw [Y.2.1]; exact ⟨Nat.le_of_ble_eq_true rfl, Nat.le_of_ble_eq_true rfl⟩) dX9_paysAt_81 (st' := [.int r34]) rfl ?_
    refine g_sub (lv' := [(0, rf V v0), (1, .int v1)]) [1, 2] rfl ?_
    exact bj_X9_paysAt_84 Y  h
  · have h := br_n c h
    refine g_aload_n (pc := 50) X 1 rfl dX9_paysAt_50 ?_
    obtain ⟨k45, h⟩ := gd_i h
    obtain ⟨a46, e47, h⟩ := bd1_i h
    refine g_getR (pc := 51) X FcX9 k45 0 e47 (by decide) rfl q_1020 dX9_paysAt_51 ?_
    refine g_bipush (pc := 54) X (v := 6) dX9_paysAt_54 rfl ?_
    obtain ⟨k48, h⟩ := gd_i h
    refine g_iald (pc := 56) X k48 dX9_paysAt_56 ?_
    refine g_aload_n (pc := 57) X 1 rfl dX9_paysAt_57 ?_
    obtain ⟨a49, e50, h⟩ := bd1_i h
    refine g_getR (pc := 58) X FcX9 k45 0 e50 (by decide) rfl q_1020 dX9_paysAt_58 ?_
    refine g_bipush (pc := 61) X (v := 12) dX9_paysAt_61 rfl ?_
    refine g_iload_n (pc := 63) X 3 rfl dX9_paysAt_63 ?_
    refine g_iadd (pc := 64) X dX9_paysAt_64 ?_
    obtain ⟨k51, h⟩ := gd_i h
    refine g_iald (pc := 65) X k51 dX9_paysAt_65 ?_
    refine g_iadd (pc := 66) X dX9_paysAt_66 ?_
    refine g_goto (pc := 67) X (tgt := 84) dX9_paysAt_67 rfl ?_
    refine g_sub (lv' := [(0, rf V v0), (1, .int v1)]) [1, 2] rfl ?_
    exact bj_X9_paysAt_84 Y  h

