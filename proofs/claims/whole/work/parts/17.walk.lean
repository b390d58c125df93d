/-! by program: the pure functions of the methods, and their walks -/
def j_X9_fullUp_30  (v0 : Nat) (v1 : Int32) (w : Wd) : Option (Int32 × Wd) := (if wK w v0 = 9 then
 (bd2 (f_X9_putsBack v0 w) fun r6 w7 =>
 some ((if v1 ≤ 200 then v1 else (-1000000005) : Int32), w7))
 else none)
theorem bj_X9_fullUp_30 {t : Ct} {V : Vt} {r : Int32} {w' : Wd} (Y : Hd_ t V cX9_fullUp 2 RX9 { frames := 8, cells := 0, slots := 0, locals := 186 } (some .int) "fullUp") {v0 : Nat} {v1 : Int32} {w : Wd} (h : j_X9_fullUp_30  v0 v1 w = some (r, w')) : Gd t V 2 0 0 (Qe t V (some (.int r)) w' 0 0) 30 [(0, rf V v0), (1, .int v1)] [] w := by
  have X := Y.1
  unfold j_X9_fullUp_30 at h
  refine g_aload_n (pc := 30) X 0 rfl dX9_fullUp_30 ?_
  obtain ⟨k5, h⟩ := gd_i h
  obtain ⟨r6, w7, h8, h⟩ := bd2_i h
  refine g_callV (pc := 31) X FcX9 k5 mk_X9_putsBack q_1349 q_51 q_1347 (c_X9_putsBack h8) rfl rfl (by rw [Y.2.1]; decide)  rfl (rest := []) rfl (Nat.le_of_ble_eq_true rfl) (by rw [Y.2.1]; exact ⟨Nat.le_of_ble_eq_true rfl, Nat.le_of_ble_eq_true rfl⟩) dX9_fullUp_31 (st' := []) rfl ?_
  refine g_iload_n (pc := 34) X 1 rfl dX9_fullUp_34 ?_
  refine g_sipush (pc := 35) X (v := 200) dX9_fullUp_35 rfl ?_
  have kJ : Gd t V 2 0 0 (Qe t V (some (.int r)) w' 0 0) 47 [(0, rf V v0), (1, .int v1)] [.int (if v1 ≤ 200 then v1 else (-1000000005) : Int32)] w7 := by
    obtain ⟨e1, e2⟩ := rt_i h
    exact g_iret (pc := 47) X Y.2.2.1 (Nat.le_of_ble_eq_true rfl) (Nat.le_of_ble_eq_true rfl) e1 e2 dX9_fullUp_47
  refine g_icmp_le (pc := 38) X (tgt := 46) dX9_fullUp_38 rfl (fun c0 => ?_) (fun c0 => ?_)
  · refine g_iload_n (pc := 46) X 1 rfl dX9_fullUp_46 ?_
    exact g_top (by rw [if_pos c0]) kJ
  · refine g_ldc (pc := 41) X q_1261 dX9_fullUp_41 ?_
    refine g_goto (pc := 43) X (tgt := 47) dX9_fullUp_43 rfl ?_
    exact g_top (by rw [if_neg c0]) kJ

def L_X9_fullUp_6  (n : Nat) (v0 : Nat) (v1 : Int32) (w : Wd) : Option (Int32 × Wd) := match n with
  | 0 => none
  | n + 1 => (if 200 < v1 then
 j_X9_fullUp_30 v0 v1 w
 else
 (if wK w v0 = 9 then
 (bd2 (f_X9_isFullUp v0 w) fun r10 w11 =>
 (if r10 = 0 then
 (if wK w11 v0 = 9 then
 (bd2 (f_X9_minute v0 w11) fun r14 w15 =>
 (lb_ (v1 + 1) fun x17 =>
 L_X9_fullUp_6 n v0 x17 w15))
 else none)
 else
 j_X9_fullUp_30 v0 v1 w11))
 else none))
theorem bL_X9_fullUp_6 {t : Ct} {V : Vt} {r : Int32} {w' : Wd} (Y : Hd_ t V cX9_fullUp 2 RX9 { frames := 8, cells := 0, slots := 0, locals := 186 } (some .int) "fullUp") : ∀ {n : Nat} {v0 : Nat} {v1 : Int32} {w : Wd}, L_X9_fullUp_6  n v0 v1 w = some (r, w') → Gd t V 2 0 0 (Qe t V (some (.int r)) w' 0 0) 6 [(0, rf V v0), (1, .int v1)] [] w := by
  have X := Y.1
  intro n
  induction n with
  | zero => intro v0 v1 w h; cases h
  | succ n ih0 =>
    have ih : ∀ (v0 : Nat) (v1 : Int32) (w : Wd), L_X9_fullUp_6  n v0 v1 w = some (r, w') → Gd t V 2 0 0 (Qe t V (some (.int r)) w' 0 0) 6 [(0, rf V v0), (1, .int v1)] [] w := fun v0 v1 w h => ih0 h
    clear ih0
    intro v0 v1 w h
    unfold L_X9_fullUp_6 at h
    refine g_iload_n (pc := 6) X 1 rfl dX9_fullUp_6 ?_
    refine g_sipush (pc := 7) X (v := 200) dX9_fullUp_7 rfl ?_
    refine g_icmp_gt (pc := 10) X (tgt := 30) dX9_fullUp_10 rfl (fun c => ?_) (fun c => ?_)
    · have h := br_y c h
      refine g_sub (lv' := [(0, rf V v0), (1, .int v1)]) [0, 1] rfl ?_
      exact bj_X9_fullUp_30 Y  h
    · have h := br_n c h
      refine g_aload_n (pc := 13) X 0 rfl dX9_fullUp_13 ?_
      obtain ⟨k9, h⟩ := gd_i h
      obtain ⟨r10, w11, h12, h⟩ := bd2_i h
      refine g_callV (pc := 14) X FcX9 k9 mk_X9_isFullUp q_1357 q_52 q_1355 (c_X9_isFullUp h12) rfl rfl (by rw [Y.2.1]; decide)  rfl (rest := []) rfl (Nat.le_of_ble_eq_true rfl) (by rw [Y.2.1]; exact ⟨Nat.le_of_ble_eq_true rfl, Nat.le_of_ble_eq_true rfl⟩) dX9_fullUp_14 (st' := [.int r10]) rfl ?_
      refine g_if_ne (pc := 17) X (tgt := 30) dX9_fullUp_17 rfl (fun c => ?_) (fun c => ?_)
      · have h := br_n c h
        refine g_sub (lv' := [(0, rf V v0), (1, .int v1)]) [0, 1] rfl ?_
        exact bj_X9_fullUp_30 Y  h
      · have h := br_y c h
        refine g_aload_n (pc := 20) X 0 rfl dX9_fullUp_20 ?_
        obtain ⟨k13, h⟩ := gd_i h
        obtain ⟨r14, w15, h16, h⟩ := bd2_i h
        refine g_callV (pc := 21) X FcX9 k13 mk_X9_minute q_1293 q_44 q_1291 (c_X9_minute h16) rfl rfl (by rw [Y.2.1]; decide)  rfl (rest := []) rfl (Nat.le_of_ble_eq_true rfl) (by rw [Y.2.1]; exact ⟨Nat.le_of_ble_eq_true rfl, Nat.le_of_ble_eq_true rfl⟩) dX9_fullUp_21 (st' := []) rfl ?_
        obtain ⟨x17, e18, h⟩ := lb_i h
        refine g_iinc (pc := 24) X 1 rfl dX9_fullUp_24 (v := x17) e18.symm (by decide) (lv' := [(1, .int x17), (0, rf V v0)]) rfl ?_
        refine g_goto (pc := 27) X (tgt := 6) dX9_fullUp_27 rfl ?_
        refine g_sub (lv' := [(0, rf V v0), (1, .int x17)]) [1, 0] rfl ?_
        exact ih _ _ _ h

def f_X9_fullUp (v0 : Nat) (w : Wd) : Option (Int32 × Wd) := (if wK w v0 = 9 then
 (bd2 (f_X9_thinks v0 w) fun r2 w3 =>
 L_X9_fullUp_6 FU v0 0 w3)
 else none)
theorem c_X9_fullUp {l : Launch} {V : Vt} {v0 : Nat} {w w' : Wd} {r : Int32} (h : f_X9_fullUp v0 w = some (r, w')) : MetW l V yX9_fullUp cX9_fullUp 2 (some .int) { frames := 8, cells := 0, slots := 0, locals := 186 } w [rf V v0] (some (.int r)) w' 0 0 := by
  refine g_start (by decide) (Nat.le_of_ble_eq_true rfl) ?_
  intro t _ hrm X hret hnm
  have Y : Hd_ t V cX9_fullUp 2 RX9 { frames := 8, cells := 0, slots := 0, locals := 186 } (some .int) "fullUp" := ⟨X, hrm, hret, hnm⟩
  refine g_as (lv' := [(0, rf V v0)]) (st' := []) rfl rfl ?_
  unfold f_X9_fullUp at h
  refine g_aload_n (pc := 0) X 0 rfl dX9_fullUp_0 ?_
  obtain ⟨k1, h⟩ := gd_i h
  obtain ⟨r2, w3, h4, h⟩ := bd2_i h
  refine g_callV (pc := 1) X FcX9 k1 mk_X9_thinks q_1344 q_50 q_1342 (c_X9_thinks h4) rfl rfl (by rw [Y.2.1]; decide)  rfl (rest := []) rfl (Nat.le_of_ble_eq_true rfl) (by rw [Y.2.1]; exact ⟨Nat.le_of_ble_eq_true rfl, Nat.le_of_ble_eq_true rfl⟩) dX9_fullUp_1 (st' := []) rfl ?_
  refine g_iconst (pc := 4) X (v := 0) dX9_fullUp_4 rfl ?_
  refine g_istore_n (pc := 5) X (lv' := [(1, .int 0), (0, rf V v0)]) dX9_fullUp_5 (by decide) rfl ?_
  refine g_sub (lv' := [(0, rf V v0), (1, .int 0)]) [1, 0] rfl ?_
  exact bL_X9_fullUp_6 Y  h

def j_X9_rose_92 (kk34 : Nat → Int32 → Int32 → Int32 → Int32 → Int32 → Wd → Option (Int32 × Wd)) (v0 : Nat) (v1 : Int32) (v2 : Int32) (v5 : Int32) (v6 : Int32) (w : Wd) : Option (Int32 × Wd) := (lb_ (v5 + 1) fun x37 =>
 kk34 v0 v1 v2 v5 v6 x37 w)
theorem bj_X9_rose_92 {t : Ct} {V : Vt} {r : Int32} {w' : Wd} {kk34 : Nat → Int32 → Int32 → Int32 → Int32 → Int32 → Wd → Option (Int32 × Wd)} (Y : Hd_ t V cX9_rose 7 RX9 { frames := 9, cells := 0, slots := 0, locals := 208 } (some .int) "rose") (hk34 : ∀ (u0 : Nat) (u1 : Int32) (u2 : Int32) (u3 : Int32) (u4 : Int32) (u5 : Int32) (w : Wd), kk34 u0 u1 u2 u3 u4 u5 w = some (r, w') → Gd t V 7 0 0 (Qe t V (some (.int r)) w' 0 0) 34 [(0, rf V u0), (1, .int u1), (2, .int u2), (3, .int u3), (4, .int u4), (5, .int u5)] [] w) {v0 : Nat} {v1 : Int32} {v2 : Int32} {v5 : Int32} {v6 : Int32} {w : Wd} (h : j_X9_rose_92 kk34 v0 v1 v2 v5 v6 w = some (r, w')) : Gd t V 7 0 0 (Qe t V (some (.int r)) w' 0 0) 92 [(0, rf V v0), (1, .int v1), (2, .int v2), (5, .int v5), (6, .int v6)] [] w := by
  have X := Y.1
  unfold j_X9_rose_92 at h
  refine g_iload (pc := 92) X 3 rfl dX9_rose_92 ?_
  refine g_istore_n (pc := 94) X (lv' := [(3, .int v5), (0, rf V v0), (1, .int v1), (2, .int v2), (5, .int v5), (6, .int v6)]) dX9_rose_94 (by decide) rfl ?_
  refine g_iload (pc := 95) X 5 rfl dX9_rose_95 ?_
  refine g_istore (pc := 97) X (lv' := [(4, .int v6), (3, .int v5), (0, rf V v0), (1, .int v1), (2, .int v2), (5, .int v5), (6, .int v6)]) dX9_rose_97 (by decide) rfl ?_
  obtain ⟨x37, e38, h⟩ := lb_i h
  refine g_iinc (pc := 99) X 5 rfl dX9_rose_99 (v := x37) e38.symm (by decide) (lv' := [(5, .int x37), (4, .int v6), (3, .int v5), (0, rf V v0), (1, .int v1), (2, .int v2), (6, .int v6)]) rfl ?_
  refine g_goto (pc := 102) X (tgt := 34) dX9_rose_102 rfl ?_
  refine g_sub (lv' := [(0, rf V v0), (1, .int v1), (2, .int v2), (3, .int v5), (4, .int v6), (5, .int x37)]) [3, 4, 5, 2, 1, 0] rfl ?_
  exact hk34 _ _ _ _ _ _ _ h

def L_X9_rose_34  (n : Nat) (v0 : Nat) (v1 : Int32) (v2 : Int32) (v3 : Int32) (v4 : Int32) (v5 : Int32) (w : Wd) : Option (Int32 × Wd) := match n with
  | 0 => none
  | n + 1 => (if wK w v0 = 9 then
 (bd1 (wR w v0 0) fun a12 =>
 (if aK 11 w a12 1 = true then
 (if (wI w a12 (nx 1)) ≤ v5 then
 some ((if 0 ≤ v3 then (if v2 = 0 then v3 else v4 : Int32) else (-1000000005) : Int32), w)
 else
 (bd2 (f_X9_of v0 v5 1 w) fun r15 w16 =>
 (if r15 < 0 then
 (lb_ (v5 + 1) fun x18 =>
 L_X9_rose_34 n v0 v1 v2 v3 v4 x18 w16)
 else
 (if wK w16 v0 = 9 then
 (bd2 (f_X9_put v0 v5 1 (-1) w16) fun r21 w22 =>
 (if wK w22 v0 = 9 then
 (bd2 (f_X9_goesOn v0 v1 w22) fun r25 w26 =>
 (if wK w26 v0 = 9 then
 (bd1 (wR w26 v0 0) fun a29 =>
 (if aK 11 w26 a29 10 = true then
 (lb_ (wI w26 a29 (nx 10)) fun x32 =>
 (bd2 (f_X9_putsBack v0 w26) fun r34 w35 =>
 (if v3 < 0 then
 j_X9_rose_92 (L_X9_rose_34 n) v0 v1 v2 v5 x32 w35
 else
 (if x32 ≤ v4 then
 (lb_ (v5 + 1) fun x39 =>
 L_X9_rose_34 n v0 v1 v2 v3 v4 x39 w35)
 else
 j_X9_rose_92 (L_X9_rose_34 n) v0 v1 v2 v5 x32 w35))))
 else none))
 else none))
 else none))
 else none))))
 else none))
 else none)
theorem bL_X9_rose_34 {t : Ct} {V : Vt} {r : Int32} {w' : Wd} (Y : Hd_ t V cX9_rose 7 RX9 { frames := 9, cells := 0, slots := 0, locals := 208 } (some .int) "rose") : ∀ {n : Nat} {v0 : Nat} {v1 : Int32} {v2 : Int32} {v3 : Int32} {v4 : Int32} {v5 : Int32} {w : Wd}, L_X9_rose_34  n v0 v1 v2 v3 v4 v5 w = some (r, w') → Gd t V 7 0 0 (Qe t V (some (.int r)) w' 0 0) 34 [(0, rf V v0), (1, .int v1), (2, .int v2), (3, .int v3), (4, .int v4), (5, .int v5)] [] w := by
  have X := Y.1
  intro n
  induction n with
  | zero => intro v0 v1 v2 v3 v4 v5 w h; cases h
  | succ n ih0 =>
    have ih : ∀ (v0 : Nat) (v1 : Int32) (v2 : Int32) (v3 : Int32) (v4 : Int32) (v5 : Int32) (w : Wd), L_X9_rose_34  n v0 v1 v2 v3 v4 v5 w = some (r, w') → Gd t V 7 0 0 (Qe t V (some (.int r)) w' 0 0) 34 [(0, rf V v0), (1, .int v1), (2, .int v2), (3, .int v3), (4, .int v4), (5, .int v5)] [] w := fun v0 v1 v2 v3 v4 v5 w h => ih0 h
    clear ih0
    intro v0 v1 v2 v3 v4 v5 w h
    unfold L_X9_rose_34 at h
    refine g_iload (pc := 34) X 5 rfl dX9_rose_34 ?_
    refine g_aload_n (pc := 36) X 0 rfl dX9_rose_36 ?_
    obtain ⟨k11, h⟩ := gd_i h
    obtain ⟨a12, e13, h⟩ := bd1_i h
    refine g_getR (pc := 37) X FcX9 k11 0 e13 (by decide) rfl q_1020 dX9_rose_37 ?_
    refine g_iconst (pc := 40) X (v := 1) dX9_rose_40 rfl ?_
    obtain ⟨k14, h⟩ := gd_i h
    refine g_iald (pc := 41) X k14 dX9_rose_41 ?_
    refine g_icmp_ge (pc := 42) X (tgt := 105) dX9_rose_42 rfl (fun c => ?_) (fun c => ?_)
    · have h := br_y c h
      refine g_iload_n (pc := 105) X 3 rfl dX9_rose_105 ?_
      have kJ : Gd t V 7 0 0 (Qe t V (some (.int r)) w' 0 0) 124 [(0, rf V v0), (1, .int v1), (2, .int v2), (3, .int v3), (4, .int v4), (5, .int v5)] [.int (if 0 ≤ v3 then (if v2 = 0 then v3 else v4 : Int32) else (-1000000005) : Int32)] w := by
        obtain ⟨e1, e2⟩ := rt_i h
        exact g_iret (pc := 124) X Y.2.2.1 (Nat.le_of_ble_eq_true rfl) (Nat.le_of_ble_eq_true rfl) e1 e2 dX9_rose_124
      refine g_if_ge (pc := 106) X (tgt := 114) dX9_rose_106 rfl (fun c0 => ?_) (fun c0 => ?_)
      · refine g_iload_n (pc := 114) X 2 rfl dX9_rose_114 ?_
        refine g_if_ne (pc := 115) X (tgt := 122) dX9_rose_115 rfl (fun c1 => ?_) (fun c1 => ?_)
        · refine g_iload (pc := 122) X 4 rfl dX9_rose_122 ?_
          exact g_top (by rw [if_pos c0, if_neg c1]) kJ
        · refine g_iload_n (pc := 118) X 3 rfl dX9_rose_118 ?_
          refine g_goto (pc := 119) X (tgt := 124) dX9_rose_119 rfl ?_
          exact g_top (by rw [if_pos c0, if_pos c1]) kJ
      · refine g_ldc (pc := 109) X q_1261 dX9_rose_109 ?_
        refine g_goto (pc := 111) X (tgt := 124) dX9_rose_111 rfl ?_
        exact g_top (by rw [if_neg c0]) kJ
    · have h := br_n c h
      refine g_aload_n (pc := 45) X 0 rfl dX9_rose_45 ?_
      refine g_iload (pc := 46) X 5 rfl dX9_rose_46 ?_
      refine g_iconst (pc := 48) X (v := 1) dX9_rose_48 rfl ?_
      obtain ⟨r15, w16, h17, h⟩ := bd2_i h
      refine g_callV (pc := 49) X FcX9 k11 mk_X9_of q_1142 q_24 q_1140 (c_X9_of h17) rfl rfl (by rw [Y.2.1]; decide)  rfl (rest := []) rfl (Nat.le_of_ble_eq_true rfl) (by rw [Y.2.1]; exact ⟨Nat.le_of_ble_eq_true rfl, Nat.le_of_ble_eq_true rfl⟩) dX9_rose_49 (st' := [.int r15]) rfl ?_
      refine g_if_lt (pc := 52) X (tgt := 99) dX9_rose_52 rfl (fun c => ?_) (fun c => ?_)
      · have h := br_y c h
        obtain ⟨x18, e19, h⟩ := lb_i h
        refine g_iinc (pc := 99) X 5 rfl dX9_rose_99 (v := x18) e19.symm (by decide) (lv' := [(5, .int x18), (0, rf V v0), (1, .int v1), (2, .int v2), (3, .int v3), (4, .int v4)]) rfl ?_
        refine g_goto (pc := 102) X (tgt := 34) dX9_rose_102 rfl ?_
        refine g_sub (lv' := [(0, rf V v0), (1, .int v1), (2, .int v2), (3, .int v3), (4, .int v4), (5, .int x18)]) [1, 2, 3, 4, 5, 0] rfl ?_
        exact ih _ _ _ _ _ _ _ h
      · have h := br_n c h
        refine g_aload_n (pc := 55) X 0 rfl dX9_rose_55 ?_
        refine g_iload (pc := 56) X 5 rfl dX9_rose_56 ?_
        refine g_iconst (pc := 58) X (v := 1) dX9_rose_58 rfl ?_
        refine g_iconst (pc := 59) X (v := (-1)) dX9_rose_59 rfl ?_
        obtain ⟨k20, h⟩ := gd_i h
        obtain ⟨r21, w22, h23, h⟩ := bd2_i h
        refine g_callV (pc := 60) X FcX9 k20 mk_X9_put q_1146 q_25 q_1144 (c_X9_put h23) rfl rfl (by rw [Y.2.1]; decide)  rfl (rest := []) rfl (Nat.le_of_ble_eq_true rfl) (by rw [Y.2.1]; exact ⟨Nat.le_of_ble_eq_true rfl, Nat.le_of_ble_eq_true rfl⟩) dX9_rose_60 (st' := []) rfl ?_
        refine g_aload_n (pc := 63) X 0 rfl dX9_rose_63 ?_
        refine g_iload_n (pc := 64) X 1 rfl dX9_rose_64 ?_
        obtain ⟨k24, h⟩ := gd_i h
        obtain ⟨r25, w26, h27, h⟩ := bd2_i h
        refine g_callV (pc := 65) X FcX9 k24 mk_X9_goesOn q_1289 q_43 q_1287 (c_X9_goesOn h27) rfl rfl (by rw [Y.2.1]; decide)  rfl (rest := []) rfl (Nat.le_of_ble_eq_true rfl) (by rw [Y.2.1]; exact ⟨Nat.le_of_ble_eq_true rfl, Nat.le_of_ble_eq_true rfl⟩) dX9_rose_65 (st' := []) rfl ?_
        refine g_aload_n (pc := 68) X 0 rfl dX9_rose_68 ?_
        obtain ⟨k28, h⟩ := gd_i h
        obtain ⟨a29, e30, h⟩ := bd1_i h
        refine g_getR (pc := 69) X FcX9 k28 0 e30 (by decide) rfl q_1020 dX9_rose_69 ?_
        refine g_bipush (pc := 72) X (v := 10) dX9_rose_72 rfl ?_
        obtain ⟨k31, h⟩ := gd_i h
        refine g_iald (pc := 74) X k31 dX9_rose_74 ?_
        obtain ⟨x32, e33, h⟩ := lb_i h
        refine g_top e33 ?_
        refine g_istore (pc := 75) X (lv' := [(6, .int x32), (0, rf V v0), (1, .int v1), (2, .int v2), (3, .int v3), (4, .int v4), (5, .int v5)]) dX9_rose_75 (by decide) rfl ?_
        refine g_aload_n (pc := 77) X 1 rfl dX9_rose_77 ?_
        obtain ⟨r34, w35, h36, h⟩ := bd2_i h
        refine g_callV (pc := 78) X FcX9 k28 mk_X9_putsBack q_1349 q_51 q_1347 (c_X9_putsBack h36) rfl rfl (by rw [Y.2.1]; decide)  rfl (rest := []) rfl (Nat.le_of_ble_eq_true rfl) (by rw [Y.2.1]; exact ⟨Nat.le_of_ble_eq_true rfl, Nat.le_of_ble_eq_true rfl⟩) dX9_rose_78 (st' := []) rfl ?_
        refine g_iload_n (pc := 81) X 4 rfl dX9_rose_81 ?_
        refine g_if_lt (pc := 82) X (tgt := 92) dX9_rose_82 rfl (fun c => ?_) (fun c => ?_)
        · have h := br_y c h
          refine g_sub (lv' := [(0, rf V v0), (1, .int v1), (2, .int v2), (5, .int v5), (6, .int x32)]) [1, 2, 3, 6, 0] rfl ?_
          exact bj_X9_rose_92 Y (ih) h
        · have h := br_n c h
          refine g_iload (pc := 85) X 0 rfl dX9_rose_85 ?_
          refine g_iload (pc := 87) X 5 rfl dX9_rose_87 ?_
          refine g_icmp_le (pc := 89) X (tgt := 99) dX9_rose_89 rfl (fun c => ?_) (fun c => ?_)
          · have h := br_y c h
            obtain ⟨x39, e40, h⟩ := lb_i h
            refine g_iinc (pc := 99) X 6 rfl dX9_rose_99 (v := x39) e40.symm (by decide) (lv' := [(5, .int x39), (6, .int x32), (0, rf V v0), (1, .int v1), (2, .int v2), (3, .int v3), (4, .int v4)]) rfl ?_
            refine g_goto (pc := 102) X (tgt := 34) dX9_rose_102 rfl ?_
            refine g_sub (lv' := [(0, rf V v0), (1, .int v1), (2, .int v2), (3, .int v3), (4, .int v4), (5, .int x39)]) [2, 3, 4, 5, 6, 0] rfl ?_
            exact ih _ _ _ _ _ _ _ h
          · have h := br_n c h
            refine g_sub (lv' := [(0, rf V v0), (1, .int v1), (2, .int v2), (5, .int v5), (6, .int x32)]) [1, 2, 3, 6, 0] rfl ?_
            exact bj_X9_rose_92 Y (ih) h

def f_X9_rose (v0 : Nat) (v1 : Int32) (v2 : Int32) (w : Wd) : Option (Int32 × Wd) := (bd2 (f_X9_in v1 1 60 w) fun r1 w2 =>
 (if r1 = 0 then
 some ((-1000000001), w2)
 else
 (bd2 (f_X9_in v2 0 1 w2) fun r4 w5 =>
 (if r4 = 0 then
 some ((-1000000001), w5)
 else
 (if wK w5 v0 = 9 then
 (bd2 (f_X9_thinks v0 w5) fun r8 w9 =>
 L_X9_rose_34 FU v0 v1 v2 (-1) 0 0 w9)
 else none)))))
theorem c_X9_rose {l : Launch} {V : Vt} {v0 : Nat} {v1 : Int32} {v2 : Int32} {w w' : Wd} {r : Int32} (h : f_X9_rose v0 v1 v2 w = some (r, w')) : MetW l V yX9_rose cX9_rose 7 (some .int) { frames := 9, cells := 0, slots := 0, locals := 208 } w [rf V v0, .int v1, .int v2] (some (.int r)) w' 0 0 := by
  refine g_start (by decide) (Nat.le_of_ble_eq_true rfl) ?_
  intro t _ hrm X hret hnm
  have Y : Hd_ t V cX9_rose 7 RX9 { frames := 9, cells := 0, slots := 0, locals := 208 } (some .int) "rose" := ⟨X, hrm, hret, hnm⟩
  refine g_as (lv' := [(0, rf V v0), (1, .int v1), (2, .int v2)]) (st' := []) rfl rfl ?_
  unfold f_X9_rose at h
  refine g_iload_n (pc := 0) X 1 rfl dX9_rose_0 ?_
  refine g_iconst (pc := 1) X (v := 1) dX9_rose_1 rfl ?_
  refine g_bipush (pc := 2) X (v := 60) dX9_rose_2 rfl ?_
  obtain ⟨r1, w2, h3, h⟩ := bd2_i h
  refine g_callS (pc := 4) X mk_X9_in q_1133 q_1132 (c_X9_in h3) rfl rfl (by rw [Y.2.1]; decide)  rfl (rest := []) rfl (Nat.le_of_ble_eq_true rfl) (by rw [Y.2.1]; exact ⟨Nat.le_of_ble_eq_true rfl, Nat.le_of_ble_eq_true rfl⟩) dX9_rose_4 (st' := [.int r1]) rfl ?_
  refine g_if_eq (pc := 7) X (tgt := 19) dX9_rose_7 rfl (fun c => ?_) (fun c => ?_)
  · have h := br_y c h
    refine g_ldc (pc := 19) X q_1135 dX9_rose_19 ?_
    obtain ⟨e1, e2⟩ := rt_i h
    exact g_iret (pc := 21) X Y.2.2.1 (Nat.le_of_ble_eq_true rfl) (Nat.le_of_ble_eq_true rfl) e1 e2 dX9_rose_21
  · have h := br_n c h
    refine g_iload_n (pc := 10) X 2 rfl dX9_rose_10 ?_
    refine g_iconst (pc := 11) X (v := 0) dX9_rose_11 rfl ?_
    refine g_iconst (pc := 12) X (v := 1) dX9_rose_12 rfl ?_
    obtain ⟨r4, w5, h6, h⟩ := bd2_i h
    refine g_callS (pc := 13) X mk_X9_in q_1133 q_1132 (c_X9_in h6) rfl rfl (by rw [Y.2.1]; decide)  rfl (rest := []) rfl (Nat.le_of_ble_eq_true rfl) (by rw [Y.2.1]; exact ⟨Nat.le_of_ble_eq_true rfl, Nat.le_of_ble_eq_true rfl⟩) dX9_rose_13 (st' := [.int r4]) rfl ?_
    refine g_if_ne (pc := 16) X (tgt := 22) dX9_rose_16 rfl (fun c => ?_) (fun c => ?_)
    · have h := br_n c h
      refine g_aload_n (pc := 22) X 0 rfl dX9_rose_22 ?_
      obtain ⟨k7, h⟩ := gd_i h
      obtain ⟨r8, w9, h10, h⟩ := bd2_i h
      refine g_callV (pc := 23) X FcX9 k7 mk_X9_thinks q_1344 q_50 q_1342 (c_X9_thinks h10) rfl rfl (by rw [Y.2.1]; decide)  rfl (rest := []) rfl (Nat.le_of_ble_eq_true rfl) (by rw [Y.2.1]; exact ⟨Nat.le_of_ble_eq_true rfl, Nat.le_of_ble_eq_true rfl⟩) dX9_rose_23 (st' := []) rfl ?_
      refine g_iconst (pc := 26) X (v := (-1)) dX9_rose_26 rfl ?_
      refine g_istore_n (pc := 27) X (lv' := [(3, .int (-1)), (0, rf V v0), (1, .int v1), (2, .int v2)]) dX9_rose_27 (by decide) rfl ?_
      refine g_iconst (pc := 28) X (v := 0) dX9_rose_28 rfl ?_
      refine g_istore (pc := 29) X (lv' := [(4, .int 0), (3, .int (-1)), (0, rf V v0), (1, .int v1), (2, .int v2)]) dX9_rose_29 (by decide) rfl ?_
      refine g_iconst (pc := 31) X (v := 0) dX9_rose_31 rfl ?_
      refine g_istore (pc := 32) X (lv' := [(5, .int 0), (4, .int 0), (3, .int (-1)), (0, rf V v0), (1, .int v1), (2, .int v2)]) dX9_rose_32 (by decide) rfl ?_
      refine g_sub (lv' := [(0, rf V v0), (1, .int v1), (2, .int v2), (3, .int (-1)), (4, .int 0), (5, .int 0)]) [3, 4, 5, 2, 1, 0] rfl ?_
      exact bL_X9_rose_34 Y  h
    · have h := br_y c h
      refine g_ldc (pc := 19) X q_1135 dX9_rose_19 ?_
      obtain ⟨e1, e2⟩ := rt_i h
      exact g_iret (pc := 21) X Y.2.2.1 (Nat.le_of_ble_eq_true rfl) (Nat.le_of_ble_eq_true rfl) e1 e2 dX9_rose_21

def f_X9_isSheet (v0 : Int32) (w : Wd) : Option (Int32 × Wd) := (bd2 (f_X9_in v0 0 3 w) fun r1 w2 =>
 (if r1 = 0 ∨ r1 = 1 then
 some (r1, w2)
 else none))
theorem c_X9_isSheet {l : Launch} {V : Vt} {v0 : Int32} {w w' : Wd} {r : Int32} (h : f_X9_isSheet v0 w = some (r, w')) : MetW l V yX9_isSheet cX9_isSheet 1 (some .boolean) { frames := 1, cells := 0, slots := 0, locals := 22 } w [.int v0] (some (.int r)) w' 0 0 := by
  refine g_start (by decide) (Nat.le_of_ble_eq_true rfl) ?_
  intro t _ hrm X hret hnm
  have Y : Hd_ t V cX9_isSheet 1 RX9 { frames := 1, cells := 0, slots := 0, locals := 22 } (some .boolean) "isSheet" := ⟨X, hrm, hret, hnm⟩
  refine g_as (lv' := [(0, .int v0)]) (st' := []) rfl rfl ?_
  unfold f_X9_isSheet at h
  refine g_iload_n (pc := 0) X 0 rfl dX9_isSheet_0 ?_
  refine g_iconst (pc := 1) X (v := 0) dX9_isSheet_1 rfl ?_
  refine g_iconst (pc := 2) X (v := 3) dX9_isSheet_2 rfl ?_
  obtain ⟨r1, w2, h3, h⟩ := bd2_i h
  refine g_callS (pc := 3) X mk_X9_in q_1133 q_1132 (c_X9_in h3) rfl rfl (by rw [Y.2.1]; decide)  rfl (rest := []) rfl (Nat.le_of_ble_eq_true rfl) (by rw [Y.2.1]; exact ⟨Nat.le_of_ble_eq_true rfl, Nat.le_of_ble_eq_true rfl⟩) dX9_isSheet_3 (st' := [.int r1]) rfl ?_
  obtain ⟨k4, h⟩ := gd_i h
  obtain ⟨e1, e2⟩ := rt_i h
  exact g_zret (pc := 6) X Y.2.2.1 k4 (Nat.le_of_ble_eq_true rfl) (Nat.le_of_ble_eq_true rfl) e1 e2 dX9_isSheet_6

def L_X9_book_32  (n : Nat) (v0 : Nat) (v1 : Int32) (v2 : Int32) (v3 : Int32) (v4 : Int32) (w : Wd) : Option (Int32 × Wd) := match n with
  | 0 => none
  | n + 1 => (if wK w v0 = 9 then
 (bd1 (wR w v0 26) fun a12 =>
 (if aK 11 w a12 v1 = true then
 (if (wI w a12 (nx v1)) ≤ v4 then
 some (v3, w)
 else
 (bd1 (wR w v0 27) fun a15 =>
 (if aK 11 w a15 ((24 * v1) + v4) = true then
 (lb_ (wI w a15 (nx ((24 * v1) + v4))) fun x18 =>
 (if x18 = (-1000000005) then
 (lb_ (v4 + 1) fun x20 =>
 L_X9_book_32 n v0 v1 v2 v3 x20 w)
 else
 (bd2 (f_X9_isPlace v0 x18 w) fun r22 w23 =>
 (if r22 = 0 then
 some (v3, w23)
 else
 (if wK w23 v0 = 9 then
 (bd2 (f_X9_mayOrdinary v0 v2 x18 w23) fun r26 w27 =>
 (if r26 = 0 then
 some (v3, w27)
 else
 (lb_ (v2 ||| (1 <<< (x18 &&& 31))) fun x29 =>
 (lb_ (v3 + 1) fun x31 =>
 (lb_ (v4 + 1) fun x33 =>
 L_X9_book_32 n v0 v1 x29 x31 x33 w27)))))
 else none)))))
 else none)))
 else none))
 else none)
theorem bL_X9_book_32 {t : Ct} {V : Vt} {r : Int32} {w' : Wd} (Y : Hd_ t V cX9_book 6 RX9 { frames := 4, cells := 0, slots := 0, locals := 87 } (some .int) "book") : ∀ {n : Nat} {v0 : Nat} {v1 : Int32} {v2 : Int32} {v3 : Int32} {v4 : Int32} {w : Wd}, L_X9_book_32  n v0 v1 v2 v3 v4 w = some (r, w') → Gd t V 6 0 0 (Qe t V (some (.int r)) w' 0 0) 32 [(0, rf V v0), (1, .int v1), (2, .int v2), (3, .int v3), (4, .int v4)] [] w := by
  have X := Y.1
  intro n
  induction n with
  | zero => intro v0 v1 v2 v3 v4 w h; cases h
  | succ n ih0 =>
    have ih : ∀ (v0 : Nat) (v1 : Int32) (v2 : Int32) (v3 : Int32) (v4 : Int32) (w : Wd), L_X9_book_32  n v0 v1 v2 v3 v4 w = some (r, w') → Gd t V 6 0 0 (Qe t V (some (.int r)) w' 0 0) 32 [(0, rf V v0), (1, .int v1), (2, .int v2), (3, .int v3), (4, .int v4)] [] w := fun v0 v1 v2 v3 v4 w h => ih0 h
    clear ih0
    intro v0 v1 v2 v3 v4 w h
    unfold L_X9_book_32 at h
    refine g_iload (pc := 32) X 4 rfl dX9_book_32 ?_
    refine g_aload_n (pc := 34) X 0 rfl dX9_book_34 ?_
    obtain ⟨k11, h⟩ := gd_i h
    obtain ⟨a12, e13, h⟩ := bd1_i h
    refine g_getR (pc := 35) X FcX9 k11 26 e13 (by decide) rfl q_1046 dX9_book_35 ?_
    refine g_iload_n (pc := 38) X 1 rfl dX9_book_38 ?_
    obtain ⟨k14, h⟩ := gd_i h
    refine g_iald (pc := 39) X k14 dX9_book_39 ?_
    refine g_icmp_ge (pc := 40) X (tgt := 101) dX9_book_40 rfl (fun c => ?_) (fun c => ?_)
    · have h := br_y c h
      refine g_iload_n (pc := 101) X 3 rfl dX9_book_101 ?_
      obtain ⟨e1, e2⟩ := rt_i h
      exact g_iret (pc := 102) X Y.2.2.1 (Nat.le_of_ble_eq_true rfl) (Nat.le_of_ble_eq_true rfl) e1 e2 dX9_book_102
    · have h := br_n c h
      refine g_aload_n (pc := 43) X 0 rfl dX9_book_43 ?_
      obtain ⟨a15, e16, h⟩ := bd1_i h
      refine g_getR (pc := 44) X FcX9 k11 27 e16 (by decide) rfl q_1047 dX9_book_44 ?_
      refine g_bipush (pc := 47) X (v := 24) dX9_book_47 rfl ?_
      refine g_iload_n (pc := 49) X 1 rfl dX9_book_49 ?_
      refine g_imul (pc := 50) X dX9_book_50 ?_
      refine g_iload (pc := 51) X 4 rfl dX9_book_51 ?_
      refine g_iadd (pc := 53) X dX9_book_53 ?_
      obtain ⟨k17, h⟩ := gd_i h
      refine g_iald (pc := 54) X k17 dX9_book_54 ?_
      obtain ⟨x18, e19, h⟩ := lb_i h
      refine g_top e19 ?_
      refine g_istore (pc := 55) X (lv' := [(5, .int x18), (0, rf V v0), (1, .int v1), (2, .int v2), (3, .int v3), (4, .int v4)]) dX9_book_55 (by decide) rfl ?_
      refine g_iload (pc := 57) X 0 rfl dX9_book_57 ?_
      refine g_ldc (pc := 59) X q_1261 dX9_book_59 ?_
      refine g_icmp_eq (pc := 61) X (tgt := 95) dX9_book_61 rfl (fun c => ?_) (fun c => ?_)
      · have h := br_y c h
        obtain ⟨x20, e21, h⟩ := lb_i h
        refine g_iinc (pc := 95) X 5 rfl dX9_book_95 (v := x20) e21.symm (by decide) (lv' := [(4, .int x20), (5, .int x18), (0, rf V v0), (1, .int v1), (2, .int v2), (3, .int v3)]) rfl ?_
        refine g_goto (pc := 98) X (tgt := 32) dX9_book_98 rfl ?_
        refine g_sub (lv' := [(0, rf V v0), (1, .int v1), (2, .int v2), (3, .int v3), (4, .int x20)]) [2, 3, 4, 5, 0] rfl ?_
        exact ih _ _ _ _ _ _ h
      · have h := br_n c h
        refine g_aload_n (pc := 64) X 1 rfl dX9_book_64 ?_
        refine g_iload (pc := 65) X 0 rfl dX9_book_65 ?_
        obtain ⟨r22, w23, h24, h⟩ := bd2_i h
        refine g_callV (pc := 67) X FcX9 k11 mk_X9_isPlace q_1194 q_34 q_1192 (c_X9_isPlace h24) rfl rfl (by rw [Y.2.1]; decide)  rfl (rest := []) rfl (Nat.le_of_ble_eq_true rfl) (by rw [Y.2.1]; exact ⟨Nat.le_of_ble_eq_true rfl, Nat.le_of_ble_eq_true rfl⟩) dX9_book_67 (st' := [.int r22]) rfl ?_
        refine g_if_eq (pc := 70) X (tgt := 83) dX9_book_70 rfl (fun c => ?_) (fun c => ?_)
        · have h := br_y c h
          refine g_iload_n (pc := 83) X 4 rfl dX9_book_83 ?_
          obtain ⟨e1, e2⟩ := rt_i h
          exact g_iret (pc := 84) X Y.2.2.1 (Nat.le_of_ble_eq_true rfl) (Nat.le_of_ble_eq_true rfl) e1 e2 dX9_book_84
        · have h := br_n c h
          refine g_aload_n (pc := 73) X 1 rfl dX9_book_73 ?_
          refine g_iload_n (pc := 74) X 3 rfl dX9_book_74 ?_
          refine g_iload (pc := 75) X 0 rfl dX9_book_75 ?_
          obtain ⟨k25, h⟩ := gd_i h
          obtain ⟨r26, w27, h28, h⟩ := bd2_i h
          refine g_callV (pc := 77) X FcX9 k25 mk_X9_mayOrdinary q_1327 q_49 q_1325 (c_X9_mayOrdinary h28) rfl rfl (by rw [Y.2.1]; decide)  rfl (rest := []) rfl (Nat.le_of_ble_eq_true rfl) (by rw [Y.2.1]; exact ⟨Nat.le_of_ble_eq_true rfl, Nat.le_of_ble_eq_true rfl⟩) dX9_book_77 (st' := [.int r26]) rfl ?_
          refine g_if_ne (pc := 80) X (tgt := 85) dX9_book_80 rfl (fun c => ?_) (fun c => ?_)
          · have h := br_n c h
            refine g_iload_n (pc := 85) X 3 rfl dX9_book_85 ?_
            refine g_iconst (pc := 86) X (v := 1) dX9_book_86 rfl ?_
            refine g_iload (pc := 87) X 0 rfl dX9_book_87 ?_
            refine g_ishl (pc := 89) X dX9_book_89 ?_
            refine g_ior (pc := 90) X dX9_book_90 ?_
            obtain ⟨x29, e30, h⟩ := lb_i h
            refine g_top e30 ?_
            refine g_istore_n (pc := 91) X (lv' := [(2, .int x29), (5, .int x18), (0, rf V v0), (1, .int v1), (3, .int v3), (4, .int v4)]) dX9_book_91 (by decide) rfl ?_
            obtain ⟨x31, e32, h⟩ := lb_i h
            refine g_iinc (pc := 92) X 4 rfl dX9_book_92 (v := x31) e32.symm (by decide) (lv' := [(3, .int x31), (2, .int x29), (5, .int x18), (0, rf V v0), (1, .int v1), (4, .int v4)]) rfl ?_
            obtain ⟨x33, e34, h⟩ := lb_i h
            refine g_iinc (pc := 95) X 5 rfl dX9_book_95 (v := x33) e34.symm (by decide) (lv' := [(4, .int x33), (3, .int x31), (2, .int x29), (5, .int x18), (0, rf V v0), (1, .int v1)]) rfl ?_
            refine g_goto (pc := 98) X (tgt := 32) dX9_book_98 rfl ?_
            refine g_sub (lv' := [(0, rf V v0), (1, .int v1), (2, .int x29), (3, .int x31), (4, .int x33)]) [4, 5, 2, 1, 0] rfl ?_
            exact ih _ _ _ _ _ _ h
          · have h := br_y c h
            refine g_iload_n (pc := 83) X 4 rfl dX9_book_83 ?_
            obtain ⟨e1, e2⟩ := rt_i h
            exact g_iret (pc := 84) X Y.2.2.1 (Nat.le_of_ble_eq_true rfl) (Nat.le_of_ble_eq_true rfl) e1 e2 dX9_book_84

def f_X9_book (v0 : Nat) (v1 : Int32) (w : Wd) : Option (Int32 × Wd) := (bd2 (f_X9_isSheet v1 w) fun r1 w2 =>
 (if r1 = 0 then
 some ((-1000000001), w2)
 else
 (if wK w2 v0 = 9 then
 (bd1 (wR w2 v0 25) fun a5 =>
 (if aK 11 w2 a5 v1 = true then
 (if 0 ≤ (wI w2 a5 (nx v1)) then
 (bd2 (f_X9_taken v0 w2) fun r8 w9 =>
 L_X9_book_32 FU v0 v1 r8 0 0 w9)
 else
 some ((-1000000011), w2))
 else none))
 else none)))
theorem c_X9_book {l : Launch} {V : Vt} {v0 : Nat} {v1 : Int32} {w w' : Wd} {r : Int32} (h : f_X9_book v0 v1 w = some (r, w')) : MetW l V yX9_book cX9_book 6 (some .int) { frames := 4, cells := 0, slots := 0, locals := 87 } w [rf V v0, .int v1] (some (.int r)) w' 0 0 := by
  refine g_start (by decide) (Nat.le_of_ble_eq_true rfl) ?_
  intro t _ hrm X hret hnm
  have Y : Hd_ t V cX9_book 6 RX9 { frames := 4, cells := 0, slots := 0, locals := 87 } (some .int) "book" := ⟨X, hrm, hret, hnm⟩
  refine g_as (lv' := [(0, rf V v0), (1, .int v1)]) (st' := []) rfl rfl ?_
  unfold f_X9_book at h
  refine g_iload_n (pc := 0) X 1 rfl dX9_book_0 ?_
  obtain ⟨r1, w2, h3, h⟩ := bd2_i h
  refine g_callS (pc := 1) X mk_X9_isSheet q_1368 q_1367 (c_X9_isSheet h3) rfl rfl (by rw [Y.2.1]; decide)  rfl (rest := []) rfl (Nat.le_of_ble_eq_true rfl) (by rw [Y.2.1]; exact ⟨Nat.le_of_ble_eq_true rfl, Nat.le_of_ble_eq_true rfl⟩) dX9_book_1 (st' := [.int r1]) rfl ?_
  refine g_if_ne (pc := 4) X (tgt := 10) dX9_book_4 rfl (fun c => ?_) (fun c => ?_)
  · have h := br_n c h
    refine g_aload_n (pc := 10) X 0 rfl dX9_book_10 ?_
    obtain ⟨k4, h⟩ := gd_i h
    obtain ⟨a5, e6, h⟩ := bd1_i h
    refine g_getR (pc := 11) X FcX9 k4 25 e6 (by decide) rfl q_1045 dX9_book_11 ?_
    refine g_iload_n (pc := 14) X 1 rfl dX9_book_14 ?_
    obtain ⟨k7, h⟩ := gd_i h
    refine g_iald (pc := 15) X k7 dX9_book_15 ?_
    refine g_if_ge (pc := 16) X (tgt := 22) dX9_book_16 rfl (fun c => ?_) (fun c => ?_)
    · have h := br_y c h
      refine g_aload_n (pc := 22) X 0 rfl dX9_book_22 ?_
      obtain ⟨r8, w9, h10, h⟩ := bd2_i h
      refine g_callV (pc := 23) X FcX9 k4 mk_X9_taken q_1182 q_31 q_1180 (c_X9_taken h10) rfl rfl (by rw [Y.2.1]; decide)  rfl (rest := []) rfl (Nat.le_of_ble_eq_true rfl) (by rw [Y.2.1]; exact ⟨Nat.le_of_ble_eq_true rfl, Nat.le_of_ble_eq_true rfl⟩) dX9_book_23 (st' := [.int r8]) rfl ?_
      refine g_istore_n (pc := 26) X (lv' := [(2, .int r8), (0, rf V v0), (1, .int v1)]) dX9_book_26 (by decide) rfl ?_
      refine g_iconst (pc := 27) X (v := 0) dX9_book_27 rfl ?_
      refine g_istore_n (pc := 28) X (lv' := [(3, .int 0), (2, .int r8), (0, rf V v0), (1, .int v1)]) dX9_book_28 (by decide) rfl ?_
      refine g_iconst (pc := 29) X (v := 0) dX9_book_29 rfl ?_
      refine g_istore (pc := 30) X (lv' := [(4, .int 0), (3, .int 0), (2, .int r8), (0, rf V v0), (1, .int v1)]) dX9_book_30 (by decide) rfl ?_
      refine g_sub (lv' := [(0, rf V v0), (1, .int v1), (2, .int r8), (3, .int 0), (4, .int 0)]) [3, 4, 2, 1, 0] rfl ?_
      exact bL_X9_book_32 Y  h
    · have h := br_n c h
      refine g_ldc (pc := 19) X q_1370 dX9_book_19 ?_
      obtain ⟨e1, e2⟩ := rt_i h
      exact g_iret (pc := 21) X Y.2.2.1 (Nat.le_of_ble_eq_true rfl) (Nat.le_of_ble_eq_true rfl) e1 e2 dX9_book_21
  · have h := br_y c h
    refine g_ldc (pc := 7) X q_1135 dX9_book_7 ?_
    obtain ⟨e1, e2⟩ := rt_i h
    exact g_iret (pc := 9) X Y.2.2.1 (Nat.le_of_ble_eq_true rfl) (Nat.le_of_ble_eq_true rfl) e1 e2 dX9_book_9

def f_X9_fee (v0 : Nat) (w : Wd) : Option (Int32 × Wd) := (if wK w v0 = 9 then
 (bd2 (f_X9_counts v0 1 w) fun r2 w3 =>
 (if wK w3 v0 = 9 then
 (bd1 (wR w3 v0 24) fun a6 =>
 (bd1 (wR w3 v0 0) fun a8 =>
 (if aK 11 w3 a8 10 = true then
 (if aK 11 w3 a6 0 = true then
 (lb_ (sI w3 a6 (nx 0) (wI w3 a8 (nx 10))) fun w12 =>
 (bd1 (wR w12 v0 24) fun a14 =>
 (bd1 (wR w12 v0 0) fun a16 =>
 (if aK 11 w12 a16 5 = true then
 (if aK 11 w12 a14 1 = true then
 (lb_ (sI w12 a14 (nx 1) (wI w12 a16 (nx 5))) fun w20 =>
 (if 0 ≤ r2 then
 (bd2 (f_X9_worksOut v0 r2 w20) fun r22 w23 =>
 some (r22, w23))
 else
 (bd1 (wR w20 v0 0) fun a25 =>
 (if aK 11 w20 a25 10 = true then
 some (wI w20 a25 (nx 10), w20)
 else none))))
 else none)
 else none))))
 else none)
 else none)))
 else none))
 else none)
theorem c_X9_fee {l : Launch} {V : Vt} {v0 : Nat} {w w' : Wd} {r : Int32} (h : f_X9_fee v0 w = some (r, w')) : MetW l V yX9_fee cX9_fee 2 (some .int) { frames := 2, cells := 0, slots := 0, locals := 47 } w [rf V v0] (some (.int r)) w' 0 0 := by
  refine g_start (by decide) (Nat.le_of_ble_eq_true rfl) ?_
  intro t _ hrm X hret hnm
  have Y : Hd_ t V cX9_fee 2 RX9 { frames := 2, cells := 0, slots := 0, locals := 47 } (some .int) "fee" := ⟨X, hrm, hret, hnm⟩
  refine g_as (lv' := [(0, rf V v0)]) (st' := []) rfl rfl ?_
  unfold f_X9_fee at h
  refine g_aload_n (pc := 0) X 0 rfl dX9_fee_0 ?_
  refine g_iconst (pc := 1) X (v := 1) dX9_fee_1 rfl ?_
  obtain ⟨k1, h⟩ := gd_i h
  obtain ⟨r2, w3, h4, h⟩ := bd2_i h
  refine g_callV (pc := 2) X FcX9 k1 mk_X9_counts q_1238 q_40 q_1236 (c_X9_counts h4) rfl rfl (by rw [Y.2.1]; decide)  rfl (rest := []) rfl (Nat.le_of_ble_eq_true rfl) (by rw [Y.2.1]; exact ⟨Nat.le_of_ble_eq_true rfl, Nat.le_of_ble_eq_true rfl⟩) dX9_fee_2 (st' := [.int r2]) rfl ?_
  refine g_istore_n (pc := 5) X (lv' := [(1, .int r2), (0, rf V v0)]) dX9_fee_5 (by decide) rfl ?_
  refine g_aload_n (pc := 6) X 1 rfl dX9_fee_6 ?_
  obtain ⟨k5, h⟩ := gd_i h
  obtain ⟨a6, e7, h⟩ := bd1_i h
  refine g_getR (pc := 7) X FcX9 k5 24 e7 (by decide) rfl q_1044 dX9_fee_7 ?_
  refine g_iconst (pc := 10) X (v := 0) dX9_fee_10 rfl ?_
  refine g_aload_n (pc := 11) X 1 rfl dX9_fee_11 ?_
  obtain ⟨a8, e9, h⟩ := bd1_i h
  refine g_getR (pc := 12) X FcX9 k5 0 e9 (by decide) rfl q_1020 dX9_fee_12 ?_
  refine g_bipush (pc := 15) X (v := 10) dX9_fee_15 rfl ?_
  obtain ⟨k10, h⟩ := gd_i h
  refine g_iald (pc := 17) X k10 dX9_fee_17 ?_
  obtain ⟨k11, h⟩ := gd_i h
  refine g_iast (pc := 18) X k11 dX9_fee_18 ?_
  obtain ⟨w12, e13, h⟩ := lb_i h
  refine g_w e13 ?_
  refine g_aload_n (pc := 19) X 1 rfl dX9_fee_19 ?_
  obtain ⟨a14, e15, h⟩ := bd1_i h
  refine g_getR (pc := 20) X FcX9 (kd_I e13 k5) 24 e15 (by decide) rfl q_1044 dX9_fee_20 ?_
  refine g_iconst (pc := 23) X (v := 1) dX9_fee_23 rfl ?_
  refine g_aload_n (pc := 24) X 1 rfl dX9_fee_24 ?_
  obtain ⟨a16, e17, h⟩ := bd1_i h
  refine g_getR (pc := 25) X FcX9 (kd_I e13 k5) 0 e17 (by decide) rfl q_1020 dX9_fee_25 ?_
  refine g_iconst (pc := 28) X (v := 5) dX9_fee_28 rfl ?_
  obtain ⟨k18, h⟩ := gd_i h
  refine g_iald (pc := 29) X k18 dX9_fee_29 ?_
  obtain ⟨k19, h⟩ := gd_i h
  refine g_iast (pc := 30) X k19 dX9_fee_30 ?_
  obtain ⟨w20, e21, h⟩ := lb_i h
  refine g_w e21 ?_
  refine g_iload_n (pc := 31) X 0 rfl dX9_fee_31 ?_
  refine g_if_ge (pc := 32) X (tgt := 45) dX9_fee_32 rfl (fun c => ?_) (fun c => ?_)
  · have h := br_y c h
    refine g_aload_n (pc := 45) X 1 rfl dX9_fee_45 ?_
    refine g_iload_n (pc := 46) X 0 rfl dX9_fee_46 ?_
    obtain ⟨r22, w23, h24, h⟩ := bd2_i h
    refine g_callV (pc := 47) X FcX9 (kd_I e21 (kd_I e13 k5)) mk_X9_worksOut q_1242 q_41 q_1240 (c_X9_worksOut h24) rfl rfl (by rw [Y.2.1]; decide)  rfl (rest := []) rfl (Nat.le_of_ble_eq_true rfl) (by rw [Y.2.1]; exact ⟨Nat.le_of_ble_eq_true rfl, Nat.le_of_ble_eq_true rfl⟩) dX9_fee_47 (st' := [.int r22]) rfl ?_
    obtain ⟨e1, e2⟩ := rt_i h
    exact g_iret (pc := 50) X Y.2.2.1 (Nat.le_of_ble_eq_true rfl) (Nat.le_of_ble_eq_true rfl) e1 e2 dX9_fee_50
  · have h := br_n c h
    refine g_aload_n (pc := 35) X 1 rfl dX9_fee_35 ?_
    obtain ⟨a25, e26, h⟩ := bd1_i h
    refine g_getR (pc := 36) X FcX9 (kd_I e21 (kd_I e13 k5)) 0 e26 (by decide) rfl q_1020 dX9_fee_36 ?_
    refine g_bipush (pc := 39) X (v := 10) dX9_fee_39 rfl ?_
    obtain ⟨k27, h⟩ := gd_i h
    refine g_iald (pc := 41) X k27 dX9_fee_41 ?_
    refine g_goto (pc := 42) X (tgt := 50) dX9_fee_42 rfl ?_
    obtain ⟨e1, e2⟩ := rt_i h
    exact g_iret (pc := 50) X Y.2.2.1 (Nat.le_of_ble_eq_true rfl) (Nat.le_of_ble_eq_true rfl) e1 e2 dX9_fee_50

def f_X9_fine (v0 : Nat) (v1 : Int32) (w : Wd) : Option (Int32 × Wd) := (if wK w v0 = 9 then
 (bd2 (f_X9_isSitter v0 v1 w) fun r2 w3 =>
 (if r2 = 0 then
 some ((-1000000001), w3)
 else
 (if wK w3 v0 = 9 then
 (bd2 (f_X9_counts v0 2 w3) fun r6 w7 =>
 (if wK w7 v0 = 9 then
 (bd1 (wR w7 v0 24) fun a10 =>
 (bd2 (f_X9_of v0 v1 2 w7) fun r12 w13 =>
 (if aK 11 w13 a10 0 = true then
 (lb_ (sI w13 a10 (nx 0) r12) fun w16 =>
 (if wK w16 v0 = 9 then
 (bd1 (wR w16 v0 24) fun a19 =>
 (bd2 (f_X9_of v0 v1 3 w16) fun r21 w22 =>
 (if aK 11 w22 a19 1 = true then
 (lb_ (sI w22 a19 (nx 1) r21) fun w25 =>
 (if 0 ≤ r6 then
 (if wK w25 v0 = 9 then
 (bd2 (f_X9_worksOut v0 r6 w25) fun r28 w29 =>
 some (r28, w29))
 else none)
 else
 (if wK w25 v0 = 9 then
 (bd2 (f_X9_of v0 v1 3 w25) fun r32 w33 =>
 some (r32, w33))
 else none)))
 else none)))
 else none))
 else none)))
 else none))
 else none)))
 else none)
theorem c_X9_fine {l : Launch} {V : Vt} {v0 : Nat} {v1 : Int32} {w w' : Wd} {r : Int32} (h : f_X9_fine v0 v1 w = some (r, w')) : MetW l V yX9_fine cX9_fine 3 (some .int) { frames := 2, cells := 0, slots := 0, locals := 47 } w [rf V v0, .int v1] (some (.int r)) w' 0 0 := by
  refine g_start (by decide) (Nat.le_of_ble_eq_true rfl) ?_
  intro t _ hrm X hret hnm
  have Y : Hd_ t V cX9_fine 3 RX9 { frames := 2, cells := 0, slots := 0, locals := 47 } (some .int) "fine" := ⟨X, hrm, hret, hnm⟩
  refine g_as (lv' := [(0, rf V v0), (1, .int v1)]) (st' := []) rfl rfl ?_
  unfold f_X9_fine at h
  refine g_aload_n (pc := 0) X 0 rfl dX9_fine_0 ?_
  refine g_iload_n (pc := 1) X 1 rfl dX9_fine_1 ?_
  obtain ⟨k1, h⟩ := gd_i h
  obtain ⟨r2, w3, h4, h⟩ := bd2_i h
  refine g_callV (pc := 2) X FcX9 k1 mk_X9_isSitter q_1163 q_27 q_1161 (c_X9_isSitter h4) rfl rfl (by rw [Y.2.1]; decide)  rfl (rest := []) rfl (Nat.le_of_ble_eq_true rfl) (by rw [Y.2.1]; exact ⟨Nat.le_of_ble_eq_true rfl, Nat.le_of_ble_eq_true rfl⟩) dX9_fine_2 (st' := [.int r2]) rfl ?_
  refine g_if_ne (pc := 5) X (tgt := 11) dX9_fine_5 rfl (fun c => ?_) (fun c => ?_)
  · have h := br_n c h
    refine g_aload_n (pc := 11) X 0 rfl dX9_fine_11 ?_
    refine g_iconst (pc := 12) X (v := 2) dX9_fine_12 rfl ?_
    obtain ⟨k5, h⟩ := gd_i h
    obtain ⟨r6, w7, h8, h⟩ := bd2_i h
    refine g_callV (pc := 13) X FcX9 k5 mk_X9_counts q_1238 q_40 q_1236 (c_X9_counts h8) rfl rfl (by rw [Y.2.1]; decide)  rfl (rest := []) rfl (Nat.le_of_ble_eq_true rfl) (by rw [Y.2.1]; exact ⟨Nat.le_of_ble_eq_true rfl, Nat.le_of_ble_eq_true rfl⟩) dX9_fine_13 (st' := [.int r6]) rfl ?_
    refine g_istore_n (pc := 16) X (lv' := [(2, .int r6), (0, rf V v0), (1, .int v1)]) dX9_fine_16 (by decide) rfl ?_
    refine g_aload_n (pc := 17) X 1 rfl dX9_fine_17 ?_
    obtain ⟨k9, h⟩ := gd_i h
    obtain ⟨a10, e11, h⟩ := bd1_i h
    refine g_getR (pc := 18) X FcX9 k9 24 e11 (by decide) rfl q_1044 dX9_fine_18 ?_
    refine g_iconst (pc := 21) X (v := 0) dX9_fine_21 rfl ?_
    refine g_aload_n (pc := 22) X 1 rfl dX9_fine_22 ?_
    refine g_iload_n (pc := 23) X 2 rfl dX9_fine_23 ?_
    refine g_iconst (pc := 24) X (v := 2) dX9_fine_24 rfl ?_
    obtain ⟨r12, w13, h14, h⟩ := bd2_i h
    refine g_callV (pc := 25) X FcX9 k9 mk_X9_of q_1142 q_24 q_1140 (c_X9_of h14) rfl rfl (by rw [Y.2.1]; decide)  rfl (rest := [.int 0, rf V a10]) rfl (Nat.le_of_ble_eq_true rfl) (by rw [Y.2.1]; exact ⟨Nat.le_of_ble_eq_true rfl, Nat.le_of_ble_eq_true rfl⟩) dX9_fine_25 (st' := [.int r12, .int 0, rf V a10]) rfl ?_
    obtain ⟨k15, h⟩ := gd_i h
    refine g_iast (pc := 28) X k15 dX9_fine_28 ?_
    obtain ⟨w16, e17, h⟩ := lb_i h
    refine g_w e17 ?_
    refine g_aload_n (pc := 29) X 1 rfl dX9_fine_29 ?_
    obtain ⟨k18, h⟩ := gd_i h
    obtain ⟨a19, e20, h⟩ := bd1_i h
    refine g_getR (pc := 30) X FcX9 k18 24 e20 (by decide) rfl q_1044 dX9_fine_30 ?_
    refine g_iconst (pc := 33) X (v := 1) dX9_fine_33 rfl ?_
    refine g_aload_n (pc := 34) X 1 rfl dX9_fine_34 ?_
    refine g_iload_n (pc := 35) X 2 rfl dX9_fine_35 ?_
    refine g_iconst (pc := 36) X (v := 3) dX9_fine_36 rfl ?_
    obtain ⟨r21, w22, h23, h⟩ := bd2_i h
    refine g_callV (pc := 37) X FcX9 k18 mk_X9_of q_1142 q_24 q_1140 (c_X9_of h23) rfl rfl (by rw [Y.2.1]; decide)  rfl (rest := [.int 1, rf V a19]) rfl (Nat.le_of_ble_eq_true rfl) (by rw [Y.2.1]; exact ⟨Nat.le_of_ble_eq_true rfl, Nat.le_of_ble_eq_true rfl⟩) dX9_fine_37 (st' := [.int r21, .int 1, rf V a19]) rfl ?_
    obtain ⟨k24, h⟩ := gd_i h
    refine g_iast (pc := 40) X k24 dX9_fine_40 ?_
    obtain ⟨w25, e26, h⟩ := lb_i h
    refine g_w e26 ?_
    refine g_iload_n (pc := 41) X 0 rfl dX9_fine_41 ?_
    refine g_if_ge (pc := 42) X (tgt := 54) dX9_fine_42 rfl (fun c => ?_) (fun c => ?_)
    · have h := br_y c h
      refine g_aload_n (pc := 54) X 1 rfl dX9_fine_54 ?_
      refine g_iload_n (pc := 55) X 0 rfl dX9_fine_55 ?_
      obtain ⟨k27, h⟩ := gd_i h
      obtain ⟨r28, w29, h30, h⟩ := bd2_i h
      refine g_callV (pc := 56) X FcX9 k27 mk_X9_worksOut q_1242 q_41 q_1240 (c_X9_worksOut h30) rfl rfl (by rw [Y.2.1]; decide)  rfl (rest := []) rfl (Nat.le_of_ble_eq_true rfl) (by rw [Y.2.1]; exact ⟨Nat.le_of_ble_eq_true rfl, Nat.le_of_ble_eq_true rfl⟩) dX9_fine_56 (st' := [.int r28]) rfl ?_
      obtain ⟨e1, e2⟩ := rt_i h
      exact g_iret (pc := 59) X Y.2.2.1 (Nat.le_of_ble_eq_true rfl) (Nat.le_of_ble_eq_true rfl) e1 e2 dX9_fine_59
    · have h := br_n c h
      refine g_aload_n (pc := 45) X 1 rfl dX9_fine_45 ?_
      refine g_iload_n (pc := 46) X 2 rfl dX9_fine_46 ?_
      refine g_iconst (pc := 47) X (v := 3) dX9_fine_47 rfl ?_
      obtain ⟨k31, h⟩ := gd_i h
      obtain ⟨r32, w33, h34, h⟩ := bd2_i h
      refine g_callV (pc := 48) X FcX9 k31 mk_X9_of q_1142 q_24 q_1140 (c_X9_of h34) rfl rfl (by rw [Y.2.1]; decide)  rfl (rest := []) rfl (Nat.le_of_ble_eq_true rfl) (by rw [Y.2.1]; exact ⟨Nat.le_of_ble_eq_true rfl, Nat.le_of_ble_eq_true rfl⟩) dX9_fine_48 (st' := [.int r32]) rfl ?_
      refine g_goto (pc := 51) X (tgt := 59) dX9_fine_51 rfl ?_
      obtain ⟨e1, e2⟩ := rt_i h
      exact g_iret (pc := 59) X Y.2.2.1 (Nat.le_of_ble_eq_true rfl) (Nat.le_of_ble_eq_true rfl) e1 e2 dX9_fine_59
  · have h := br_y c h
    refine g_ldc (pc := 8) X q_1135 dX9_fine_8 ?_
    obtain ⟨e1, e2⟩ := rt_i h
    exact g_iret (pc := 10) X Y.2.2.1 (Nat.le_of_ble_eq_true rfl) (Nat.le_of_ble_eq_true rfl) e1 e2 dX9_fine_10

def L_X9_feed_18  (n : Nat) (v0 : Nat) (v1 : Int32) (v2 : Int32) (v3 : Int32) (v4 : Int32) (w : Wd) : Option (Int32 × Wd) := match n with
  | 0 => none
  | n + 1 => (if 12 ≤ v4 then
 (if wK w v0 = 9 then
 (lb_ (sI w v0 8 ((wI w v0 8) + 12)) fun w3 =>
 some (wI w3 v0 8, w3))
 else none)
 else
 (lb_ (if 4 ≤ v4 then (if 8 ≤ v4 then v3 else v2 : Int32) else v1 : Int32) fun x5 =>
 (if wK w v0 = 9 then
 (bd1 (wR w v0 7) fun a8 =>
 (if aK 11 w a8 ((wI w v0 8) + v4) = true then
 (lb_ (sI w a8 (nx ((wI w v0 8) + v4)) ((x5 >>> ((24 - (8 * (irem v4 4))) &&& 31)) &&& 255)) fun w11 =>
 (lb_ (v4 + 1) fun x13 =>
 L_X9_feed_18 n v0 v1 v2 v3 x13 w11))
 else none))
 else none)))
theorem bL_X9_feed_18 {t : Ct} {V : Vt} {r : Int32} {w' : Wd} (Y : Hd_ t V cX9_feed 6 RX9 { frames := 0, cells := 0, slots := 0, locals := 0 } (some .int) "feed") : ∀ {n : Nat} {v0 : Nat} {v1 : Int32} {v2 : Int32} {v3 : Int32} {v4 : Int32} {w : Wd}, L_X9_feed_18  n v0 v1 v2 v3 v4 w = some (r, w') → Gd t V 6 0 0 (Qe t V (some (.int r)) w' 0 0) 18 [(0, rf V v0), (1, .int v1), (2, .int v2), (3, .int v3), (4, .int v4)] [] w := by
  have X := Y.1
  intro n
  induction n with
  | zero => intro v0 v1 v2 v3 v4 w h; cases h
  | succ n ih0 =>
    have ih : ∀ (v0 : Nat) (v1 : Int32) (v2 : Int32) (v3 : Int32) (v4 : Int32) (w : Wd), L_X9_feed_18  n v0 v1 v2 v3 v4 w = some (r, w') → Gd t V 6 0 0 (Qe t V (some (.int r)) w' 0 0) 18 [(0, rf V v0), (1, .int v1), (2, .int v2), (3, .int v3), (4, .int v4)] [] w := fun v0 v1 v2 v3 v4 w h => ih0 h
    clear ih0
    intro v0 v1 v2 v3 v4 w h
    unfold L_X9_feed_18 at h
    refine g_iload (pc := 18) X 4 rfl dX9_feed_18 ?_
    refine g_bipush (pc := 20) X (v := 12) dX9_feed_20 rfl ?_
    refine g_icmp_ge (pc := 22) X (tgt := 84) dX9_feed_22 rfl (fun c => ?_) (fun c => ?_)
    · have h := br_y c h
      refine g_aload_n (pc := 84) X 0 rfl dX9_feed_84 ?_
      refine g_dup (pc := 85) X rfl dX9_feed_85 ?_
      obtain ⟨k2, h⟩ := gd_i h
      refine g_getI (pc := 86) X FcX9 k2 8 (by decide) rfl q_1028 dX9_feed_86 ?_
      refine g_bipush (pc := 89) X (v := 12) dX9_feed_89 rfl ?_
      refine g_iadd (pc := 91) X dX9_feed_91 ?_
      refine g_putI (pc := 92) X FcX9 k2 8 (by decide) rfl q_1028 rfl rfl rfl dX9_feed_92 ?_
      obtain ⟨w3, e4, h⟩ := lb_i h
      refine g_w e4 ?_
      refine g_aload_n (pc := 95) X 0 rfl dX9_feed_95 ?_
      refine g_getI (pc := 96) X FcX9 (kd_I e4 k2) 8 (by decide) rfl q_1028 dX9_feed_96 ?_
      obtain ⟨e1, e2⟩ := rt_i h
      exact g_iret (pc := 99) X Y.2.2.1 (Nat.le_of_ble_eq_true rfl) (Nat.le_of_ble_eq_true rfl) e1 e2 dX9_feed_99
    · have h := br_n c h
      refine g_iload (pc := 25) X 4 rfl dX9_feed_25 ?_
      refine g_iconst (pc := 27) X (v := 4) dX9_feed_27 rfl ?_
      have kJ : Gd t V 6 0 0 (Qe t V (some (.int r)) w' 0 0) 47 [(0, rf V v0), (1, .int v1), (2, .int v2), (3, .int v3), (4, .int v4)] [.int (if 4 ≤ v4 then (if 8 ≤ v4 then v3 else v2 : Int32) else v1 : Int32)] w := by
        obtain ⟨x5, e6, h⟩ := lb_i h
        refine g_top e6 ?_
        refine g_istore (pc := 47) X (lv' := [(5, .int x5), (0, rf V v0), (1, .int v1), (2, .int v2), (3, .int v3), (4, .int v4)]) dX9_feed_47 (by decide) rfl ?_
        refine g_aload_n (pc := 49) X 1 rfl dX9_feed_49 ?_
        obtain ⟨k7, h⟩ := gd_i h
        obtain ⟨a8, e9, h⟩ := bd1_i h
        refine g_getR (pc := 50) X FcX9 k7 7 e9 (by decide) rfl q_1027 dX9_feed_50 ?_
        refine g_aload_n (pc := 53) X 1 rfl dX9_feed_53 ?_
        refine g_getI (pc := 54) X FcX9 k7 8 (by decide) rfl q_1028 dX9_feed_54 ?_
        refine g_iload (pc := 57) X 5 rfl dX9_feed_57 ?_
        refine g_iadd (pc := 59) X dX9_feed_59 ?_
        refine g_iload (pc := 60) X 0 rfl dX9_feed_60 ?_
        refine g_bipush (pc := 62) X (v := 24) dX9_feed_62 rfl ?_
        refine g_bipush (pc := 64) X (v := 8) dX9_feed_64 rfl ?_
        refine g_iload (pc := 66) X 5 rfl dX9_feed_66 ?_
        refine g_iconst (pc := 68) X (v := 4) dX9_feed_68 rfl ?_
        refine g_irem (pc := 69) X (by decide) dX9_feed_69 ?_
        refine g_imul (pc := 70) X dX9_feed_70 ?_
        refine g_isub (pc := 71) X dX9_feed_71 ?_
        refine g_ishr (pc := 72) X dX9_feed_72 ?_
        refine g_sipush (pc := 73) X (v := 255) dX9_feed_73 rfl ?_
        refine g_iand (pc := 76) X dX9_feed_76 ?_
        obtain ⟨k10, h⟩ := gd_i h
        refine g_iast (pc := 77) X k10 dX9_feed_77 ?_
        obtain ⟨w11, e12, h⟩ := lb_i h
        refine g_w e12 ?_
        obtain ⟨x13, e14, h⟩ := lb_i h
        refine g_iinc (pc := 78) X 5 rfl dX9_feed_78 (v := x13) e14.symm (by decide) (lv' := [(4, .int x13), (5, .int x5), (0, rf V v0), (1, .int v1), (2, .int v2), (3, .int v3)]) rfl ?_
        refine g_goto (pc := 81) X (tgt := 18) dX9_feed_81 rfl ?_
        refine g_sub (lv' := [(0, rf V v0), (1, .int v1), (2, .int v2), (3, .int v3), (4, .int x13)]) [2, 3, 4, 5, 0] rfl ?_
        exact ih _ _ _ _ _ _ h
      refine g_icmp_ge (pc := 28) X (tgt := 35) dX9_feed_28 rfl (fun c0 => ?_) (fun c0 => ?_)
      · refine g_iload (pc := 35) X 4 rfl dX9_feed_35 ?_
        refine g_bipush (pc := 37) X (v := 8) dX9_feed_37 rfl ?_
        refine g_icmp_ge (pc := 39) X (tgt := 46) dX9_feed_39 rfl (fun c1 => ?_) (fun c1 => ?_)
        · refine g_iload_n (pc := 46) X 3 rfl dX9_feed_46 ?_
          exact g_top (by rw [if_pos c0, if_pos c1]) kJ
        · refine g_iload_n (pc := 42) X 2 rfl dX9_feed_42 ?_
          refine g_goto (pc := 43) X (tgt := 47) dX9_feed_43 rfl ?_
          exact g_top (by rw [if_pos c0, if_neg c1]) kJ
      · refine g_iload_n (pc := 31) X 1 rfl dX9_feed_31 ?_
        refine g_goto (pc := 32) X (tgt := 47) dX9_feed_32 rfl ?_
        exact g_top (by rw [if_neg c0]) kJ

def f_X9_feed (v0 : Nat) (v1 : Int32) (v2 : Int32) (v3 : Int32) (w : Wd) : Option (Int32 × Wd) := (if wK w v0 = 9 then
 (if ((wI w v0 8) + 12) ≤ 96 then
 L_X9_feed_18 FU v0 v1 v2 v3 0 w
 else
 some ((-1000000003), w))
 else none)
theorem c_X9_feed {l : Launch} {V : Vt} {v0 : Nat} {v1 : Int32} {v2 : Int32} {v3 : Int32} {w w' : Wd} {r : Int32} (h : f_X9_feed v0 v1 v2 v3 w = some (r, w')) : MetW l V yX9_feed cX9_feed 6 (some .int) { frames := 0, cells := 0, slots := 0, locals := 0 } w [rf V v0, .int v1, .int v2, .int v3] (some (.int r)) w' 0 0 := by
  refine g_start (by decide) (Nat.le_of_ble_eq_true rfl) ?_
  intro t _ hrm X hret hnm
  have Y : Hd_ t V cX9_feed 6 RX9 { frames := 0, cells := 0, slots := 0, locals := 0 } (some .int) "feed" := ⟨X, hrm, hret, hnm⟩
  refine g_as (lv' := [(0, rf V v0), (1, .int v1), (2, .int v2), (3, .int v3)]) (st' := []) rfl rfl ?_
  unfold f_X9_feed at h
  refine g_aload_n (pc := 0) X 0 rfl dX9_feed_0 ?_
  obtain ⟨k1, h⟩ := gd_i h
  refine g_getI (pc := 1) X FcX9 k1 8 (by decide) rfl q_1028 dX9_feed_1 ?_
  refine g_bipush (pc := 4) X (v := 12) dX9_feed_4 rfl ?_
  refine g_iadd (pc := 6) X dX9_feed_6 ?_
  refine g_bipush (pc := 7) X (v := 96) dX9_feed_7 rfl ?_
  refine g_icmp_le (pc := 9) X (tgt := 15) dX9_feed_9 rfl (fun c => ?_) (fun c => ?_)
  · have h := br_y c h
    refine g_iconst (pc := 15) X (v := 0) dX9_feed_15 rfl ?_
    refine g_istore (pc := 16) X (lv' := [(4, .int 0), (0, rf V v0), (1, .int v1), (2, .int v2), (3, .int v3)]) dX9_feed_16 (by decide) rfl ?_
    refine g_sub (lv' := [(0, rf V v0), (1, .int v1), (2, .int v2), (3, .int v3), (4, .int 0)]) [1, 2, 3, 4, 0] rfl ?_
    exact bL_X9_feed_18 Y  h
  · have h := br_n c h
    refine g_ldc (pc := 12) X q_1152 dX9_feed_12 ?_
    obtain ⟨e1, e2⟩ := rt_i h
    exact g_iret (pc := 14) X Y.2.2.1 (Nat.le_of_ble_eq_true rfl) (Nat.le_of_ble_eq_true rfl) e1 e2 dX9_feed_14

def f_X9_trim (v0 : Nat) (v1 : Int32) (w : Wd) : Option (Int32 × Wd) := (if wK w v0 = 9 then
 (bd2 (f_X9_in v1 0 (wI w v0 8) w) fun r2 w3 =>
 (if r2 = 0 then
 some ((-1000000001), w3)
 else
 (if wK w3 v0 = 9 then
 (lb_ (sI w3 v0 8 v1) fun w6 =>
 some (v1, w6))
 else none)))
 else none)
theorem c_X9_trim {l : Launch} {V : Vt} {v0 : Nat} {v1 : Int32} {w w' : Wd} {r : Int32} (h : f_X9_trim v0 v1 w = some (r, w')) : MetW l V yX9_trim cX9_trim 2 (some .int) { frames := 1, cells := 0, slots := 0, locals := 22 } w [rf V v0, .int v1] (some (.int r)) w' 0 0 := by
  refine g_start (by decide) (Nat.le_of_ble_eq_true rfl) ?_
  intro t _ hrm X hret hnm
  have Y : Hd_ t V cX9_trim 2 RX9 { frames := 1, cells := 0, slots := 0, locals := 22 } (some .int) "trim" := ⟨X, hrm, hret, hnm⟩
  refine g_as (lv' := [(0, rf V v0), (1, .int v1)]) (st' := []) rfl rfl ?_
  unfold f_X9_trim at h
  refine g_iload_n (pc := 0) X 1 rfl dX9_trim_0 ?_
  refine g_iconst (pc := 1) X (v := 0) dX9_trim_1 rfl ?_
  refine g_aload_n (pc := 2) X 0 rfl dX9_trim_2 ?_
  obtain ⟨k1, h⟩ := gd_i h
  refine g_getI (pc := 3) X FcX9 k1 8 (by decide) rfl q_1028 dX9_trim_3 ?_
  obtain ⟨r2, w3, h4, h⟩ := bd2_i h
  refine g_callS (pc := 6) X mk_X9_in q_1133 q_1132 (c_X9_in h4) rfl rfl (by rw [Y.2.1]; decide)  rfl (rest := []) rfl (Nat.le_of_ble_eq_true rfl) (by rw [Y.2.1]; exact ⟨Nat.le_of_ble_eq_true rfl, Nat.le_of_ble_eq_true rfl⟩) dX9_trim_6 (st' := [.int r2]) rfl ?_
  refine g_if_ne (pc := 9) X (tgt := 15) dX9_trim_9 rfl (fun c => ?_) (fun c => ?_)
  · have h := br_n c h
    refine g_aload_n (pc := 15) X 0 rfl dX9_trim_15 ?_
    refine g_iload_n (pc := 16) X 1 rfl dX9_trim_16 ?_
    obtain ⟨k5, h⟩ := gd_i h
    refine g_putI (pc := 17) X FcX9 k5 8 (by decide) rfl q_1028 rfl rfl rfl dX9_trim_17 ?_
    obtain ⟨w6, e7, h⟩ := lb_i h
    refine g_w e7 ?_
    refine g_iload_n (pc := 20) X 1 rfl dX9_trim_20 ?_
    obtain ⟨e1, e2⟩ := rt_i h
    exact g_iret (pc := 21) X Y.2.2.1 (Nat.le_of_ble_eq_true rfl) (Nat.le_of_ble_eq_true rfl) e1 e2 dX9_trim_21
  · have h := br_y c h
    refine g_ldc (pc := 12) X q_1135 dX9_trim_12 ?_
    obtain ⟨e1, e2⟩ := rt_i h
    exact g_iret (pc := 14) X Y.2.2.1 (Nat.le_of_ble_eq_true rfl) (Nat.le_of_ble_eq_true rfl) e1 e2 dX9_trim_14

def f_X9_isLetter (v0 : Nat) (v1 : Int32) (w : Wd) : Option (Int32 × Wd) := (if wK w v0 = 9 then
 (if (wI w v0 8) ≤ v1 then
 some (0, w)
 else
 (bd1 (wR w v0 7) fun a2 =>
 (if aK 11 w a2 v1 = true then
 (if (wI w a2 (nx v1)) < 97 then
 some (0, w)
 else
 (bd1 (wR w v0 7) fun a5 =>
 (if aK 11 w a5 v1 = true then
 some ((if 122 < (wI w a5 (nx v1)) then 0 else 1 : Int32), w)
 else none)))
 else none)))
 else none)
theorem c_X9_isLetter {l : Launch} {V : Vt} {v0 : Nat} {v1 : Int32} {w w' : Wd} {r : Int32} (h : f_X9_isLetter v0 v1 w = some (r, w')) : MetW l V yX9_isLetter cX9_isLetter 2 (some .boolean) { frames := 0, cells := 0, slots := 0, locals := 0 } w [rf V v0, .int v1] (some (.int r)) w' 0 0 := by
  refine g_start (by decide) (Nat.le_of_ble_eq_true rfl) ?_
  intro t _ hrm X hret hnm
  have Y : Hd_ t V cX9_isLetter 2 RX9 { frames := 0, cells := 0, slots := 0, locals := 0 } (some .boolean) "isLetter" := ⟨X, hrm, hret, hnm⟩
  refine g_as (lv' := [(0, rf V v0), (1, .int v1)]) (st' := []) rfl rfl ?_
  unfold f_X9_isLetter at h
  refine g_iload_n (pc := 0) X 1 rfl dX9_isLetter_0 ?_
  refine g_aload_n (pc := 1) X 0 rfl dX9_isLetter_1 ?_
  obtain ⟨k1, h⟩ := gd_i h
  refine g_getI (pc := 2) X FcX9 k1 8 (by decide) rfl q_1028 dX9_isLetter_2 ?_
  refine g_icmp_ge (pc := 5) X (tgt := 34) dX9_isLetter_5 rfl (fun c => ?_) (fun c => ?_)
  · have h := br_y c h
    refine g_iconst (pc := 34) X (v := 0) dX9_isLetter_34 rfl ?_
    obtain ⟨e1, e2⟩ := rt_i h
    exact g_zret (pc := 35) X Y.2.2.1 (Or.inl rfl) (Nat.le_of_ble_eq_true rfl) (Nat.le_of_ble_eq_true rfl) e1 e2 dX9_isLetter_35
  · have h := br_n c h
    refine g_aload_n (pc := 8) X 0 rfl dX9_isLetter_8 ?_
    obtain ⟨a2, e3, h⟩ := bd1_i h
    refine g_getR (pc := 9) X FcX9 k1 7 e3 (by decide) rfl q_1027 dX9_isLetter_9 ?_
    refine g_iload_n (pc := 12) X 1 rfl dX9_isLetter_12 ?_
    obtain ⟨k4, h⟩ := gd_i h
    refine g_iald (pc := 13) X k4 dX9_isLetter_13 ?_
    refine g_bipush (pc := 14) X (v := 97) dX9_isLetter_14 rfl ?_
    refine g_icmp_lt (pc := 16) X (tgt := 34) dX9_isLetter_16 rfl (fun c => ?_) (fun c => ?_)
    · have h := br_y c h
      refine g_iconst (pc := 34) X (v := 0) dX9_isLetter_34 rfl ?_
      obtain ⟨e1, e2⟩ := rt_i h
      exact g_zret (pc := 35) X Y.2.2.1 (Or.inl rfl) (Nat.le_of_ble_eq_true rfl) (Nat.le_of_ble_eq_true rfl) e1 e2 dX9_isLetter_35
    · have h := br_n c h
      refine g_aload_n (pc := 19) X 0 rfl dX9_isLetter_19 ?_
      obtain ⟨a5, e6, h⟩ := bd1_i h
      refine g_getR (pc := 20) X FcX9 k1 7 e6 (by decide) rfl q_1027 dX9_isLetter_20 ?_
      refine g_iload_n (pc := 23) X 1 rfl dX9_isLetter_23 ?_
      obtain ⟨k7, h⟩ := gd_i h
      refine g_iald (pc := 24) X k7 dX9_isLetter_24 ?_
      refine g_bipush (pc := 25) X (v := 122) dX9_isLetter_25 rfl ?_
      have kJ : Gd t V 2 0 0 (Qe t V (some (.int r)) w' 0 0) 35 [(0, rf V v0), (1, .int v1)] [.int (if 122 < (wI w a5 (nx v1)) then 0 else 1 : Int32)] w := by
        obtain ⟨e1, e2⟩ := rt_i h
        exact g_zret (pc := 35) X Y.2.2.1 (bz_ite (Or.inl rfl) (Or.inr rfl)) (Nat.le_of_ble_eq_true rfl) (Nat.le_of_ble_eq_true rfl) e1 e2 dX9_isLetter_35
      refine g_icmp_gt (pc := 27) X (tgt := 34) dX9_isLetter_27 rfl (fun c0 => ?_) (fun c0 => ?_)
      · refine g_iconst (pc := 34) X (v := 0) dX9_isLetter_34 rfl ?_
        exact g_top (by rw [if_pos c0]) kJ
      · refine g_iconst (pc := 30) X (v := 1) dX9_isLetter_30 rfl ?_
        refine g_goto (pc := 31) X (tgt := 35) dX9_isLetter_31 rfl ?_
        exact g_top (by rw [if_neg c0]) kJ

def f_X9_isFigure (v0 : Nat) (v1 : Int32) (w : Wd) : Option (Int32 × Wd) := (if wK w v0 = 9 then
 (if (wI w v0 8) ≤ v1 then
 some (0, w)
 else
 (bd1 (wR w v0 7) fun a2 =>
 (if aK 11 w a2 v1 = true then
 (if (wI w a2 (nx v1)) < 48 then
 some (0, w)
 else
 (bd1 (wR w v0 7) fun a5 =>
 (if aK 11 w a5 v1 = true then
 some ((if 57 < (wI w a5 (nx v1)) then 0 else 1 : Int32), w)
 else none)))
 else none)))
 else none)
theorem c_X9_isFigure {l : Launch} {V : Vt} {v0 : Nat} {v1 : Int32} {w w' : Wd} {r : Int32} (h : f_X9_isFigure v0 v1 w = some (r, w')) : MetW l V yX9_isFigure cX9_isFigure 2 (some .boolean) { frames := 0, cells := 0, slots := 0, locals := 0 } w [rf V v0, .int v1] (some (.int r)) w' 0 0 := by
  refine g_start (by decide) (Nat.le_of_ble_eq_true rfl) ?_
  intro t _ hrm X hret hnm
  have Y : Hd_ t V cX9_isFigure 2 RX9 { frames := 0, cells := 0, slots := 0, locals := 0 } (some .boolean) "isFigure" := ⟨X, hrm, hret, hnm⟩
  refine g_as (lv' := [(0, rf V v0), (1, .int v1)]) (st' := []) rfl rfl ?_
  unfold f_X9_isFigure at h
  refine g_iload_n (pc := 0) X 1 rfl dX9_isFigure_0 ?_
  refine g_aload_n (pc := 1) X 0 rfl dX9_isFigure_1 ?_
  obtain ⟨k1, h⟩ := gd_i h
  refine g_getI (pc := 2) X FcX9 k1 8 (by decide) rfl q_1028 dX9_isFigure_2 ?_
  refine g_icmp_ge (pc := 5) X (tgt := 34) dX9_isFigure_5 rfl (fun c => ?_) (fun c => ?_)
  · have h := br_y c h
    refine g_iconst (pc := 34) X (v := 0) dX9_isFigure_34 rfl ?_
    obtain ⟨e1, e2⟩ := rt_i h
    exact g_zret (pc := 35) X Y.2.2.1 (Or.inl rfl) (Nat.le_of_ble_eq_true rfl) (Nat.le_of_ble_eq_true rfl) e1 e2 dX9_isFigure_35
  · have h := br_n c h
    refine g_aload_n (pc := 8) X 0 rfl dX9_isFigure_8 ?_
    obtain ⟨a2, e3, h⟩ := bd1_i h
    refine g_getR (pc := 9) X FcX9 k1 7 e3 (by decide) rfl q_1027 dX9_isFigure_9 ?_
    refine g_iload_n (pc := 12) X 1 rfl dX9_isFigure_12 ?_
    obtain ⟨k4, h⟩ := gd_i h
    refine g_iald (pc := 13) X k4 dX9_isFigure_13 ?_
    refine g_bipush (pc := 14) X (v := 48) dX9_isFigure_14 rfl ?_
    refine g_icmp_lt (pc := 16) X (tgt := 34) dX9_isFigure_16 rfl (fun c => ?_) (fun c => ?_)
    · have h := br_y c h
      refine g_iconst (pc := 34) X (v := 0) dX9_isFigure_34 rfl ?_
      obtain ⟨e1, e2⟩ := rt_i h
      exact g_zret (pc := 35) X Y.2.2.1 (Or.inl rfl) (Nat.le_of_ble_eq_true rfl) (Nat.le_of_ble_eq_true rfl) e1 e2 dX9_isFigure_35
    · have h := br_n c h
      refine g_aload_n (pc := 19) X 0 rfl dX9_isFigure_19 ?_
      obtain ⟨a5, e6, h⟩ := bd1_i h
      refine g_getR (pc := 20) X FcX9 k1 7 e6 (by decide) rfl q_1027 dX9_isFigure_20 ?_
      refine g_iload_n (pc := 23) X 1 rfl dX9_isFigure_23 ?_
      obtain ⟨k7, h⟩ := gd_i h
      refine g_iald (pc := 24) X k7 dX9_isFigure_24 ?_
      refine g_bipush (pc := 25) X (v := 57) dX9_isFigure_25 rfl ?_
      have kJ : Gd t V 2 0 0 (Qe t V (some (.int r)) w' 0 0) 35 [(0, rf V v0), (1, .int v1)] [.int (if 57 < (wI w a5 (nx v1)) then 0 else 1 : Int32)] w := by
        obtain ⟨e1, e2⟩ := rt_i h
        exact g_zret (pc := 35) X Y.2.2.1 (bz_ite (Or.inl rfl) (Or.inr rfl)) (Nat.le_of_ble_eq_true rfl) (Nat.le_of_ble_eq_true rfl) e1 e2 dX9_isFigure_35
      refine g_icmp_gt (pc := 27) X (tgt := 34) dX9_isFigure_27 rfl (fun c0 => ?_) (fun c0 => ?_)
      · refine g_iconst (pc := 34) X (v := 0) dX9_isFigure_34 rfl ?_
        exact g_top (by rw [if_pos c0]) kJ
      · refine g_iconst (pc := 30) X (v := 1) dX9_isFigure_30 rfl ?_
        refine g_goto (pc := 31) X (tgt := 35) dX9_isFigure_31 rfl ?_
        exact g_top (by rw [if_neg c0]) kJ

def j_X9_go_261  (v0 : Nat) (s0 : Int32) (s1 : Nat) (w : Wd) : Option (Unit × Wd) := (if wK w s1 = 9 then
 (lb_ (sI w s1 11 s0) fun w32 =>
 (if wK w32 v0 = 9 then
 (lb_ (sI w32 v0 13 (wI w32 v0 9)) fun w35 =>
 some ((), w35))
 else none))
 else none)
theorem bj_X9_go_261 {t : Ct} {V : Vt} {r : Unit} {w' : Wd} (Y : Hd_ t V cX9_go 2 RX9 { frames := 1, cells := 0, slots := 0, locals := 21 } (none) "go") {v0 : Nat} {s0 : Int32} {s1 : Nat} {w : Wd} (h : j_X9_go_261  v0 s0 s1 w = some (r, w')) : Gd t V 2 0 0 (Qe t V none w' 0 0) 261 [(0, rf V v0)] [.int s0, rf V s1] w := by
  have X := Y.1
  unfold j_X9_go_261 at h
  obtain ⟨k31, h⟩ := gd_i h
  refine g_putI (pc := 261) X FcX9 k31 11 (by decide) rfl q_1031 rfl rfl rfl dX9_go_261 ?_
  obtain ⟨w32, e33, h⟩ := lb_i h
  refine g_w e33 ?_
  refine g_aload_n (pc := 264) X 0 rfl dX9_go_264 ?_
  refine g_aload_n (pc := 265) X 0 rfl dX9_go_265 ?_
  obtain ⟨k34, h⟩ := gd_i h
  refine g_getI (pc := 266) X FcX9 k34 9 (by decide) rfl q_1029 dX9_go_266 ?_
  refine g_putI (pc := 269) X FcX9 k34 13 (by decide) rfl q_1033 rfl rfl rfl dX9_go_269 ?_
  obtain ⟨w35, e36, h⟩ := lb_i h
  refine g_w e36 ?_
  refine g_goto (pc := 272) X (tgt := 303) dX9_go_272 rfl ?_
  obtain ⟨e1, e2⟩ := rt_i h
  exact g_vret (pc := 303) X Y.2.2.1 (Nat.le_of_ble_eq_true rfl) (Nat.le_of_ble_eq_true rfl) e2 dX9_go_303

def j_X9_go_256  (v0 : Nat) (s0 : Nat) (w : Wd) : Option (Unit × Wd) := j_X9_go_261 v0 4 s0 w
theorem bj_X9_go_256 {t : Ct} {V : Vt} {r : Unit} {w' : Wd} (Y : Hd_ t V cX9_go 2 RX9 { frames := 1, cells := 0, slots := 0, locals := 21 } (none) "go") {v0 : Nat} {s0 : Nat} {w : Wd} (h : j_X9_go_256  v0 s0 w = some (r, w')) : Gd t V 2 0 0 (Qe t V none w' 0 0) 256 [(0, rf V v0)] [rf V s0] w := by
  have X := Y.1
  unfold j_X9_go_256 at h
  refine g_iconst (pc := 256) X (v := 4) dX9_go_256 rfl ?_
  refine g_goto (pc := 257) X (tgt := 261) dX9_go_257 rfl ?_
  refine g_sub (lv' := [(0, rf V v0)]) [0] rfl ?_
  exact bj_X9_go_261 Y  h

def j_X9_go_222 (kk170 : Nat → Int32 → Wd → Option (Unit × Wd)) (v0 : Nat) (v1 : Int32) (s0 : Int32) (s1 : Nat) (w : Wd) : Option (Unit × Wd) := (if wK w s1 = 9 then
 (lb_ (sI w s1 12 s0) fun w44 =>
 (if wK w44 v0 = 9 then
 (lb_ (sI w44 v0 9 ((wI w44 v0 9) + 1)) fun w47 =>
 kk170 v0 v1 w47)
 else none))
 else none)
theorem bj_X9_go_222 {t : Ct} {V : Vt} {r : Unit} {w' : Wd} {kk170 : Nat → Int32 → Wd → Option (Unit × Wd)} (Y : Hd_ t V cX9_go 2 RX9 { frames := 1, cells := 0, slots := 0, locals := 21 } (none) "go") (hk170 : ∀ (u0 : Nat) (u1 : Int32) (w : Wd), kk170 u0 u1 w = some (r, w') → Gd t V 2 0 0 (Qe t V none w' 0 0) 170 [(0, rf V u0), (1, .int u1)] [] w) {v0 : Nat} {v1 : Int32} {s0 : Int32} {s1 : Nat} {w : Wd} (h : j_X9_go_222 kk170 v0 v1 s0 s1 w = some (r, w')) : Gd t V 2 0 0 (Qe t V none w' 0 0) 222 [(0, rf V v0), (1, .int v1)] [.int s0, rf V s1] w := by
  have X := Y.1
  unfold j_X9_go_222 at h
  obtain ⟨k43, h⟩ := gd_i h
  refine g_putI (pc := 222) X FcX9 k43 12 (by decide) rfl q_1032 rfl rfl rfl dX9_go_222 ?_
  obtain ⟨w44, e45, h⟩ := lb_i h
  refine g_w e45 ?_
  refine g_aload_n (pc := 225) X 0 rfl dX9_go_225 ?_
  refine g_dup (pc := 226) X rfl dX9_go_226 ?_
  obtain ⟨k46, h⟩ := gd_i h
  refine g_getI (pc := 227) X FcX9 k46 9 (by decide) rfl q_1029 dX9_go_227 ?_
  refine g_iconst (pc := 230) X (v := 1) dX9_go_230 rfl ?_
  refine g_iadd (pc := 231) X dX9_go_231 ?_
  refine g_putI (pc := 232) X FcX9 k46 9 (by decide) rfl q_1029 rfl rfl rfl dX9_go_232 ?_
  obtain ⟨w47, e48, h⟩ := lb_i h
  refine g_w e48 ?_
  refine g_goto (pc := 235) X (tgt := 170) dX9_go_235 rfl ?_
  refine g_sub (lv' := [(0, rf V v0), (1, .int v1)]) [0, 1] rfl ?_
  exact hk170 _ _ _ h

def L_X9_go_170  (n : Nat) (v0 : Nat) (v1 : Int32) (w : Wd) : Option (Unit × Wd) := match n with
  | 0 => none
  | n + 1 => (if wK w v0 = 9 then
 (bd2 (f_X9_isFigure v0 (wI w v0 9) w) fun r28 w29 =>
 (if r28 = 0 then
 (if v1 = 0 then
 (if wK w29 v0 = 9 then
 (lb_ (sI w29 v0 11 (if ((wI w29 v0 9) - (wI w29 v0 10)) ≤ 4 then 2 else 4 : Int32)) fun w38 =>
 (lb_ (sI w38 v0 13 (wI w38 v0 9)) fun w40 =>
 some ((), w40)))
 else none)
 else
 j_X9_go_256 v0 v0 w29)
 else
 (if wK w29 v0 = 9 then
 (if 4 ≤ ((wI w29 v0 9) - (wI w29 v0 10)) then
 j_X9_go_222 (L_X9_go_170 n) v0 v1 (wI w29 v0 12) v0 w29
 else
 (bd1 (wR w29 v0 7) fun a49 =>
 (if aK 11 w29 a49 (wI w29 v0 9) = true then
 j_X9_go_222 (L_X9_go_170 n) v0 v1 (((10 * (wI w29 v0 12)) + (wI w29 a49 (nx (wI w29 v0 9)))) - 48) v0 w29
 else none)))
 else none)))
 else none)
theorem bL_X9_go_170 {t : Ct} {V : Vt} {r : Unit} {w' : Wd} (Y : Hd_ t V cX9_go 2 RX9 { frames := 1, cells := 0, slots := 0, locals := 21 } (none) "go") : ∀ {n : Nat} {v0 : Nat} {v1 : Int32} {w : Wd}, L_X9_go_170  n v0 v1 w = some (r, w') → Gd t V 2 0 0 (Qe t V none w' 0 0) 170 [(0, rf V v0), (1, .int v1)] [] w := by
  have X := Y.1
  intro n
  induction n with
  | zero => intro v0 v1 w h; cases h
  | succ n ih0 =>
    have ih : ∀ (v0 : Nat) (v1 : Int32) (w : Wd), L_X9_go_170  n v0 v1 w = some (r, w') → Gd t V 2 0 0 (Qe t V none w' 0 0) 170 [(0, rf V v0), (1, .int v1)] [] w := fun v0 v1 w h => ih0 h
    clear ih0
    intro v0 v1 w h
    unfold L_X9_go_170 at h
    refine g_aload_n (pc := 170) X 0 rfl dX9_go_170 ?_
    refine g_aload_n (pc := 171) X 0 rfl dX9_go_171 ?_
    obtain ⟨k27, h⟩ := gd_i h
    refine g_getI (pc := 172) X FcX9 k27 9 (by decide) rfl q_1029 dX9_go_172 ?_
    obtain ⟨r28, w29, h30, h⟩ := bd2_i h
    refine g_callV (pc := 175) X FcX9 k27 mk_X9_isFigure q_1401 q_55 q_1399 (c_X9_isFigure h30) rfl rfl (by rw [Y.2.1]; decide)  rfl (rest := []) rfl (Nat.le_of_ble_eq_true rfl) (by rw [Y.2.1]; exact ⟨Nat.le_of_ble_eq_true rfl, Nat.le_of_ble_eq_true rfl⟩) dX9_go_175 (st' := [.int r28]) rfl ?_
    refine g_if_eq (pc := 178) X (tgt := 238) dX9_go_178 rfl (fun c => ?_) (fun c => ?_)
    · have h := br_y c h
      refine g_aload_n (pc := 238) X 0 rfl dX9_go_238 ?_
      refine g_iload_n (pc := 239) X 1 rfl dX9_go_239 ?_
      refine g_if_ne (pc := 240) X (tgt := 256) dX9_go_240 rfl (fun c => ?_) (fun c => ?_)
      · have h := br_n c h
        refine g_sub (lv' := [(0, rf V v0)]) [0] rfl ?_
        exact bj_X9_go_256 Y  h
      · have h := br_y c h
        refine g_aload_n (pc := 243) X 0 rfl dX9_go_243 ?_
        obtain ⟨k37, h⟩ := gd_i h
        refine g_getI (pc := 244) X FcX9 k37 9 (by decide) rfl q_1029 dX9_go_244 ?_
        refine g_aload_n (pc := 247) X 0 rfl dX9_go_247 ?_
        refine g_getI (pc := 248) X FcX9 k37 10 (by decide) rfl q_1030 dX9_go_248 ?_
        refine g_isub (pc := 251) X dX9_go_251 ?_
        refine g_iconst (pc := 252) X (v := 4) dX9_go_252 rfl ?_
        have kJ : Gd t V 2 0 0 (Qe t V none w' 0 0) 261 [(0, rf V v0), (1, .int v1)] [.int (if ((wI w29 v0 9) - (wI w29 v0 10)) ≤ 4 then 2 else 4 : Int32), rf V v0] w29 := by
          refine g_putI (pc := 261) X FcX9 k37 11 (by decide) rfl q_1031 rfl rfl rfl dX9_go_261 ?_
          obtain ⟨w38, e39, h⟩ := lb_i h
          refine g_w e39 ?_
          refine g_aload_n (pc := 264) X 0 rfl dX9_go_264 ?_
          refine g_aload_n (pc := 265) X 0 rfl dX9_go_265 ?_
          refine g_getI (pc := 266) X FcX9 (kd_I e39 k37) 9 (by decide) rfl q_1029 dX9_go_266 ?_
          refine g_putI (pc := 269) X FcX9 (kd_I e39 k37) 13 (by decide) rfl q_1033 rfl rfl rfl dX9_go_269 ?_
          obtain ⟨w40, e41, h⟩ := lb_i h
          refine g_w e41 ?_
          refine g_goto (pc := 272) X (tgt := 303) dX9_go_272 rfl ?_
          obtain ⟨e1, e2⟩ := rt_i h
          exact g_vret (pc := 303) X Y.2.2.1 (Nat.le_of_ble_eq_true rfl) (Nat.le_of_ble_eq_true rfl) e2 dX9_go_303
        refine g_icmp_le (pc := 253) X (tgt := 260) dX9_go_253 rfl (fun c0 => ?_) (fun c0 => ?_)
        · refine g_iconst (pc := 260) X (v := 2) dX9_go_260 rfl ?_
          exact g_top (by rw [if_pos c0]) kJ
        · refine g_iconst (pc := 256) X (v := 4) dX9_go_256 rfl ?_
          refine g_goto (pc := 257) X (tgt := 261) dX9_go_257 rfl ?_
          exact g_top (by rw [if_neg c0]) kJ
    · have h := br_n c h
      refine g_aload_n (pc := 181) X 0 rfl dX9_go_181 ?_
      refine g_aload_n (pc := 182) X 0 rfl dX9_go_182 ?_
      obtain ⟨k42, h⟩ := gd_i h
      refine g_getI (pc := 183) X FcX9 k42 9 (by decide) rfl q_1029 dX9_go_183 ?_
      refine g_aload_n (pc := 186) X 0 rfl dX9_go_186 ?_
      refine g_getI (pc := 187) X FcX9 k42 10 (by decide) rfl q_1030 dX9_go_187 ?_
      refine g_isub (pc := 190) X dX9_go_190 ?_
      refine g_iconst (pc := 191) X (v := 4) dX9_go_191 rfl ?_
      refine g_icmp_ge (pc := 192) X (tgt := 218) dX9_go_192 rfl (fun c => ?_) (fun c => ?_)
      · have h := br_y c h
        refine g_aload_n (pc := 218) X 0 rfl dX9_go_218 ?_
        refine g_getI (pc := 219) X FcX9 k42 12 (by decide) rfl q_1032 dX9_go_219 ?_
        refine g_sub (lv' := [(0, rf V v0), (1, .int v1)]) [0, 1] rfl ?_
        exact bj_X9_go_222 Y (ih) h
      · have h := br_n c h
        refine g_bipush (pc := 195) X (v := 10) dX9_go_195 rfl ?_
        refine g_aload_n (pc := 197) X 0 rfl dX9_go_197 ?_
        refine g_getI (pc := 198) X FcX9 k42 12 (by decide) rfl q_1032 dX9_go_198 ?_
        refine g_imul (pc := 201) X dX9_go_201 ?_
        refine g_aload_n (pc := 202) X 0 rfl dX9_go_202 ?_
        obtain ⟨a49, e50, h⟩ := bd1_i h
        refine g_getR (pc := 203) X FcX9 k42 7 e50 (by decide) rfl q_1027 dX9_go_203 ?_
        refine g_aload_n (pc := 206) X 0 rfl dX9_go_206 ?_
        refine g_getI (pc := 207) X FcX9 k42 9 (by decide) rfl q_1029 dX9_go_207 ?_
        obtain ⟨k51, h⟩ := gd_i h
        refine g_iald (pc := 210) X k51 dX9_go_210 ?_
        refine g_iadd (pc := 211) X dX9_go_211 ?_
        refine g_bipush (pc := 212) X (v := 48) dX9_go_212 rfl ?_
        refine g_isub (pc := 214) X dX9_go_214 ?_
        refine g_goto (pc := 215) X (tgt := 222) dX9_go_215 rfl ?_
        refine g_sub (lv' := [(0, rf V v0), (1, .int v1)]) [0, 1] rfl ?_
        exact bj_X9_go_222 Y (ih) h

def L_X9_go_93  (n : Nat) (v0 : Nat) (v1 : Int32) (w : Wd) : Option (Unit × Wd) := match n with
  | 0 => none
  | n + 1 => (if wK w v0 = 9 then
 (bd2 (f_X9_isLetter v0 (wI w v0 9) w) fun r53 w54 =>
 (if r53 = 0 then
 (if wK w54 v0 = 9 then
 (lb_ (sI w54 v0 11 (if v1 = 0 then 1 else 4 : Int32)) fun w57 =>
 (bd1 (wR w57 v0 7) fun a59 =>
 (if aK 11 w57 a59 (wI w57 v0 10) = true then
 (lb_ (sI w57 v0 12 (wI w57 a59 (nx (wI w57 v0 10)))) fun w62 =>
 (lb_ (sI w62 v0 13 (wI w62 v0 9)) fun w64 =>
 some ((), w64)))
 else none)))
 else none)
 else
 (if wK w54 v0 = 9 then
 (lb_ (sI w54 v0 9 ((wI w54 v0 9) + 1)) fun w67 =>
 L_X9_go_93 n v0 v1 w67)
 else none)))
 else none)
theorem bL_X9_go_93 {t : Ct} {V : Vt} {r : Unit} {w' : Wd} (Y : Hd_ t V cX9_go 2 RX9 { frames := 1, cells := 0, slots := 0, locals := 21 } (none) "go") : ∀ {n : Nat} {v0 : Nat} {v1 : Int32} {w : Wd}, L_X9_go_93  n v0 v1 w = some (r, w') → Gd t V 2 0 0 (Qe t V none w' 0 0) 93 [(0, rf V v0), (1, .int v1)] [] w := by
  have X := Y.1
  intro n
  induction n with
  | zero => intro v0 v1 w h; cases h
  | succ n ih0 =>
    have ih : ∀ (v0 : Nat) (v1 : Int32) (w : Wd), L_X9_go_93  n v0 v1 w = some (r, w') → Gd t V 2 0 0 (Qe t V none w' 0 0) 93 [(0, rf V v0), (1, .int v1)] [] w := fun v0 v1 w h => ih0 h
    clear ih0
    intro v0 v1 w h
    unfold L_X9_go_93 at h
    refine g_aload_n (pc := 93) X 0 rfl dX9_go_93 ?_
    refine g_aload_n (pc := 94) X 0 rfl dX9_go_94 ?_
    obtain ⟨k52, h⟩ := gd_i h
    refine g_getI (pc := 95) X FcX9 k52 9 (by decide) rfl q_1029 dX9_go_95 ?_
    obtain ⟨r53, w54, h55, h⟩ := bd2_i h
    refine g_callV (pc := 98) X FcX9 k52 mk_X9_isLetter q_1397 q_54 q_1395 (c_X9_isLetter h55) rfl rfl (by rw [Y.2.1]; decide)  rfl (rest := []) rfl (Nat.le_of_ble_eq_true rfl) (by rw [Y.2.1]; exact ⟨Nat.le_of_ble_eq_true rfl, Nat.le_of_ble_eq_true rfl⟩) dX9_go_98 (st' := [.int r53]) rfl ?_
    refine g_if_eq (pc := 101) X (tgt := 117) dX9_go_101 rfl (fun c => ?_) (fun c => ?_)
    · have h := br_y c h
      refine g_aload_n (pc := 117) X 0 rfl dX9_go_117 ?_
      refine g_iload_n (pc := 118) X 1 rfl dX9_go_118 ?_
      have kJ : Gd t V 2 0 0 (Qe t V none w' 0 0) 127 [(0, rf V v0), (1, .int v1)] [.int (if v1 = 0 then 1 else 4 : Int32), rf V v0] w54 := by
        obtain ⟨k56, h⟩ := gd_i h
        refine g_putI (pc := 127) X FcX9 k56 11 (by decide) rfl q_1031 rfl rfl rfl dX9_go_127 ?_
        obtain ⟨w57, e58, h⟩ := lb_i h
        refine g_w e58 ?_
        refine g_aload_n (pc := 130) X 0 rfl dX9_go_130 ?_
        refine g_aload_n (pc := 131) X 0 rfl dX9_go_131 ?_
        obtain ⟨a59, e60, h⟩ := bd1_i h
        refine g_getR (pc := 132) X FcX9 (kd_I e58 k56) 7 e60 (by decide) rfl q_1027 dX9_go_132 ?_
        refine g_aload_n (pc := 135) X 0 rfl dX9_go_135 ?_
        refine g_getI (pc := 136) X FcX9 (kd_I e58 k56) 10 (by decide) rfl q_1030 dX9_go_136 ?_
        obtain ⟨k61, h⟩ := gd_i h
        refine g_iald (pc := 139) X k61 dX9_go_139 ?_
        refine g_putI (pc := 140) X FcX9 (kd_I e58 k56) 12 (by decide) rfl q_1032 rfl rfl rfl dX9_go_140 ?_
        obtain ⟨w62, e63, h⟩ := lb_i h
        refine g_w e63 ?_
        refine g_aload_n (pc := 143) X 0 rfl dX9_go_143 ?_
        refine g_aload_n (pc := 144) X 0 rfl dX9_go_144 ?_
        refine g_getI (pc := 145) X FcX9 (kd_I e63 (kd_I e58 k56)) 9 (by decide) rfl q_1029 dX9_go_145 ?_
        refine g_putI (pc := 148) X FcX9 (kd_I e63 (kd_I e58 k56)) 13 (by decide) rfl q_1033 rfl rfl rfl dX9_go_148 ?_
        obtain ⟨w64, e65, h⟩ := lb_i h
        refine g_w e65 ?_
        refine g_goto (pc := 151) X (tgt := 303) dX9_go_151 rfl ?_
        obtain ⟨e1, e2⟩ := rt_i h
        exact g_vret (pc := 303) X Y.2.2.1 (Nat.le_of_ble_eq_true rfl) (Nat.le_of_ble_eq_true rfl) e2 dX9_go_303
      refine g_if_eq (pc := 119) X (tgt := 126) dX9_go_119 rfl (fun c0 => ?_) (fun c0 => ?_)
      · refine g_iconst (pc := 126) X (v := 1) dX9_go_126 rfl ?_
        exact g_top (by rw [if_pos c0]) kJ
      · refine g_iconst (pc := 122) X (v := 4) dX9_go_122 rfl ?_
        refine g_goto (pc := 123) X (tgt := 127) dX9_go_123 rfl ?_
        exact g_top (by rw [if_neg c0]) kJ
    · have h := br_n c h
      refine g_aload_n (pc := 104) X 0 rfl dX9_go_104 ?_
      refine g_dup (pc := 105) X rfl dX9_go_105 ?_
      obtain ⟨k66, h⟩ := gd_i h
      refine g_getI (pc := 106) X FcX9 k66 9 (by decide) rfl q_1029 dX9_go_106 ?_
      refine g_iconst (pc := 109) X (v := 1) dX9_go_109 rfl ?_
      refine g_iadd (pc := 110) X dX9_go_110 ?_
      refine g_putI (pc := 111) X FcX9 k66 9 (by decide) rfl q_1029 rfl rfl rfl dX9_go_111 ?_
      obtain ⟨w67, e68, h⟩ := lb_i h
      refine g_w e68 ?_
      refine g_goto (pc := 114) X (tgt := 93) dX9_go_114 rfl ?_
      refine g_sub (lv' := [(0, rf V v0), (1, .int v1)]) [0, 1] rfl ?_
      exact ih _ _ _ h

def j_X9_go_38  (v0 : Nat) (w : Wd) : Option (Unit × Wd) := (if wK w v0 = 9 then
 (lb_ (sI w v0 10 (wI w v0 9)) fun w3 =>
 (lb_ (if (wI w3 v0 10) = (wI w3 v0 13) then 1 else 0 : Int32) fun x5 =>
 (if (wI w3 v0 10) = (wI w3 v0 8) then
 (lb_ (sI w3 v0 11 0) fun w69 =>
 some ((), w69))
 else
 (bd2 (f_X9_isLetter v0 (wI w3 v0 10) w3) fun r7 w8 =>
 (if r7 = 0 then
 (if wK w8 v0 = 9 then
 (bd2 (f_X9_isFigure v0 (wI w8 v0 10) w8) fun r11 w12 =>
 (if r11 = 0 then
 (if wK w12 v0 = 9 then
 (lb_ (sI w12 v0 11 3) fun w15 =>
 (bd1 (wR w15 v0 7) fun a17 =>
 (if aK 11 w15 a17 (wI w15 v0 10) = true then
 (lb_ (sI w15 v0 12 (wI w15 a17 (nx (wI w15 v0 10)))) fun w20 =>
 (lb_ (sI w20 v0 9 ((wI w20 v0 9) + 1)) fun w22 =>
 some ((), w22)))
 else none)))
 else none)
 else
 (if wK w12 v0 = 9 then
 (lb_ (sI w12 v0 12 0) fun w25 =>
 L_X9_go_170 FU v0 x5 w25)
 else none)))
 else none)
 else
 L_X9_go_93 FU v0 x5 w8)))))
 else none)
theorem bj_X9_go_38 {t : Ct} {V : Vt} {r : Unit} {w' : Wd} (Y : Hd_ t V cX9_go 2 RX9 { frames := 1, cells := 0, slots := 0, locals := 21 } (none) "go") {v0 : Nat} {w : Wd} (h : j_X9_go_38  v0 w = some (r, w')) : Gd t V 2 0 0 (Qe t V none w' 0 0) 38 [(0, rf V v0)] [] w := by
  have X := Y.1
  unfold j_X9_go_38 at h
  refine g_aload_n (pc := 38) X 0 rfl dX9_go_38 ?_
  refine g_aload_n (pc := 39) X 0 rfl dX9_go_39 ?_
  obtain ⟨k2, h⟩ := gd_i h
  refine g_getI (pc := 40) X FcX9 k2 9 (by decide) rfl q_1029 dX9_go_40 ?_
  refine g_putI (pc := 43) X FcX9 k2 10 (by decide) rfl q_1030 rfl rfl rfl dX9_go_43 ?_
  obtain ⟨w3, e4, h⟩ := lb_i h
  refine g_w e4 ?_
  refine g_aload_n (pc := 46) X 0 rfl dX9_go_46 ?_
  refine g_getI (pc := 47) X FcX9 (kd_I e4 k2) 10 (by decide) rfl q_1030 dX9_go_47 ?_
  refine g_aload_n (pc := 50) X 0 rfl dX9_go_50 ?_
  refine g_getI (pc := 51) X FcX9 (kd_I e4 k2) 13 (by decide) rfl q_1033 dX9_go_51 ?_
  have kJ : Gd t V 2 0 0 (Qe t V none w' 0 0) 62 [(0, rf V v0)] [.int (if (wI w3 v0 10) = (wI w3 v0 13) then 1 else 0 : Int32)] w3 := by
    obtain ⟨x5, e6, h⟩ := lb_i h
    refine g_top e6 ?_
    refine g_istore_n (pc := 62) X (lv' := [(1, .int x5), (0, rf V v0)]) dX9_go_62 (by decide) rfl ?_
    refine g_aload_n (pc := 63) X 1 rfl dX9_go_63 ?_
    refine g_getI (pc := 64) X FcX9 (kd_I e4 k2) 10 (by decide) rfl q_1030 dX9_go_64 ?_
    refine g_aload_n (pc := 67) X 1 rfl dX9_go_67 ?_
    refine g_getI (pc := 68) X FcX9 (kd_I e4 k2) 8 (by decide) rfl q_1028 dX9_go_68 ?_
    refine g_icmp_ne (pc := 71) X (tgt := 82) dX9_go_71 rfl (fun c => ?_) (fun c => ?_)
    · have h := br_n c h
      refine g_aload_n (pc := 82) X 1 rfl dX9_go_82 ?_
      refine g_aload_n (pc := 83) X 1 rfl dX9_go_83 ?_
      refine g_getI (pc := 84) X FcX9 (kd_I e4 k2) 10 (by decide) rfl q_1030 dX9_go_84 ?_
      obtain ⟨r7, w8, h9, h⟩ := bd2_i h
      refine g_callV (pc := 87) X FcX9 (kd_I e4 k2) mk_X9_isLetter q_1397 q_54 q_1395 (c_X9_isLetter h9) rfl rfl (by rw [Y.2.1]; decide)  rfl (rest := []) rfl (Nat.le_of_ble_eq_true rfl) (by rw [Y.2.1]; exact ⟨Nat.le_of_ble_eq_true rfl, Nat.le_of_ble_eq_true rfl⟩) dX9_go_87 (st' := [.int r7]) rfl ?_
      refine g_if_eq (pc := 90) X (tgt := 154) dX9_go_90 rfl (fun c => ?_) (fun c => ?_)
      · have h := br_y c h
        refine g_aload_n (pc := 154) X 1 rfl dX9_go_154 ?_
        refine g_aload_n (pc := 155) X 1 rfl dX9_go_155 ?_
        obtain ⟨k10, h⟩ := gd_i h
        refine g_getI (pc := 156) X FcX9 k10 10 (by decide) rfl q_1030 dX9_go_156 ?_
        obtain ⟨r11, w12, h13, h⟩ := bd2_i h
        refine g_callV (pc := 159) X FcX9 k10 mk_X9_isFigure q_1401 q_55 q_1399 (c_X9_isFigure h13) rfl rfl (by rw [Y.2.1]; decide)  rfl (rest := []) rfl (Nat.le_of_ble_eq_true rfl) (by rw [Y.2.1]; exact ⟨Nat.le_of_ble_eq_true rfl, Nat.le_of_ble_eq_true rfl⟩) dX9_go_159 (st' := [.int r11]) rfl ?_
        refine g_if_eq (pc := 162) X (tgt := 275) dX9_go_162 rfl (fun c => ?_) (fun c => ?_)
        · have h := br_y c h
          refine g_aload_n (pc := 275) X 1 rfl dX9_go_275 ?_
          refine g_iconst (pc := 276) X (v := 3) dX9_go_276 rfl ?_
          obtain ⟨k14, h⟩ := gd_i h
          refine g_putI (pc := 277) X FcX9 k14 11 (by decide) rfl q_1031 rfl rfl rfl dX9_go_277 ?_
          obtain ⟨w15, e16, h⟩ := lb_i h
          refine g_w e16 ?_
          refine g_aload_n (pc := 280) X 1 rfl dX9_go_280 ?_
          refine g_aload_n (pc := 281) X 1 rfl dX9_go_281 ?_
          obtain ⟨a17, e18, h⟩ := bd1_i h
          refine g_getR (pc := 282) X FcX9 (kd_I e16 k14) 7 e18 (by decide) rfl q_1027 dX9_go_282 ?_
          refine g_aload_n (pc := 285) X 1 rfl dX9_go_285 ?_
          refine g_getI (pc := 286) X FcX9 (kd_I e16 k14) 10 (by decide) rfl q_1030 dX9_go_286 ?_
          obtain ⟨k19, h⟩ := gd_i h
          refine g_iald (pc := 289) X k19 dX9_go_289 ?_
          refine g_putI (pc := 290) X FcX9 (kd_I e16 k14) 12 (by decide) rfl q_1032 rfl rfl rfl dX9_go_290 ?_
          obtain ⟨w20, e21, h⟩ := lb_i h
          refine g_w e21 ?_
          refine g_aload_n (pc := 293) X 1 rfl dX9_go_293 ?_
          refine g_dup (pc := 294) X rfl dX9_go_294 ?_
          refine g_getI (pc := 295) X FcX9 (kd_I e21 (kd_I e16 k14)) 9 (by decide) rfl q_1029 dX9_go_295 ?_
          refine g_iconst (pc := 298) X (v := 1) dX9_go_298 rfl ?_
          refine g_iadd (pc := 299) X dX9_go_299 ?_
          refine g_putI (pc := 300) X FcX9 (kd_I e21 (kd_I e16 k14)) 9 (by decide) rfl q_1029 rfl rfl rfl dX9_go_300 ?_
          obtain ⟨w22, e23, h⟩ := lb_i h
          refine g_w e23 ?_
          obtain ⟨e1, e2⟩ := rt_i h
          exact g_vret (pc := 303) X Y.2.2.1 (Nat.le_of_ble_eq_true rfl) (Nat.le_of_ble_eq_true rfl) e2 dX9_go_303
        · have h := br_n c h
          refine g_aload_n (pc := 165) X 1 rfl dX9_go_165 ?_
          refine g_iconst (pc := 166) X (v := 0) dX9_go_166 rfl ?_
          obtain ⟨k24, h⟩ := gd_i h
          refine g_putI (pc := 167) X FcX9 k24 12 (by decide) rfl q_1032 rfl rfl rfl dX9_go_167 ?_
          obtain ⟨w25, e26, h⟩ := lb_i h
          refine g_w e26 ?_
          refine g_sub (lv' := [(0, rf V v0), (1, .int x5)]) [1, 0] rfl ?_
          exact bL_X9_go_170 Y  h
      · have h := br_n c h
        refine g_sub (lv' := [(0, rf V v0), (1, .int x5)]) [1, 0] rfl ?_
        exact bL_X9_go_93 Y  h
    · have h := br_y c h
      refine g_aload_n (pc := 74) X 1 rfl dX9_go_74 ?_
      refine g_iconst (pc := 75) X (v := 0) dX9_go_75 rfl ?_
      refine g_putI (pc := 76) X FcX9 (kd_I e4 k2) 11 (by decide) rfl q_1031 rfl rfl rfl dX9_go_76 ?_
      obtain ⟨w69, e70, h⟩ := lb_i h
      refine g_w e70 ?_
      refine g_goto (pc := 79) X (tgt := 303) dX9_go_79 rfl ?_
      obtain ⟨e1, e2⟩ := rt_i h
      exact g_vret (pc := 303) X Y.2.2.1 (Nat.le_of_ble_eq_true rfl) (Nat.le_of_ble_eq_true rfl) e2 dX9_go_303
  refine g_icmp_ne (pc := 54) X (tgt := 61) dX9_go_54 rfl (fun c0 => ?_) (fun c0 => ?_)
  · refine g_iconst (pc := 61) X (v := 0) dX9_go_61 rfl ?_
    exact g_top (by rw [if_neg c0]) kJ
  · refine g_iconst (pc := 57) X (v := 1) dX9_go_57 rfl ?_
    refine g_goto (pc := 58) X (tgt := 62) dX9_go_58 rfl ?_
    exact g_top (by rw [if_pos c0]) kJ

def L_X9_go_0  (n : Nat) (v0 : Nat) (w : Wd) : Option (Unit × Wd) := match n with
  | 0 => none
  | n + 1 => (if wK w v0 = 9 then
 (if (wI w v0 8) ≤ (wI w v0 9) then
 j_X9_go_38 v0 w
 else
 (bd1 (wR w v0 7) fun a71 =>
 (if aK 11 w a71 (wI w v0 9) = true then
 (if (wI w a71 (nx (wI w v0 9))) = 32 then
 (lb_ (sI w v0 9 ((wI w v0 9) + 1)) fun w74 =>
 L_X9_go_0 n v0 w74)
 else
 j_X9_go_38 v0 w)
 else none)))
 else none)
theorem bL_X9_go_0 {t : Ct} {V : Vt} {r : Unit} {w' : Wd} (Y : Hd_ t V cX9_go 2 RX9 { frames := 1, cells := 0, slots := 0, locals := 21 } (none) "go") : ∀ {n : Nat} {v0 : Nat} {w : Wd}, L_X9_go_0  n v0 w = some (r, w') → Gd t V 2 0 0 (Qe t V none w' 0 0) 0 [(0, rf V v0)] [] w := by
  have X := Y.1
  intro n
  induction n with
  | zero => intro v0 w h; cases h
  | succ n ih0 =>
    have ih : ∀ (v0 : Nat) (w : Wd), L_X9_go_0  n v0 w = some (r, w') → Gd t V 2 0 0 (Qe t V none w' 0 0) 0 [(0, rf V v0)] [] w := fun v0 w h => ih0 h
    clear ih0
    intro v0 w h
    unfold L_X9_go_0 at h
    refine g_aload_n (pc := 0) X 0 rfl dX9_go_0 ?_
    obtain ⟨k1, h⟩ := gd_i h
    refine g_getI (pc := 1) X FcX9 k1 9 (by decide) rfl q_1029 dX9_go_1 ?_
    refine g_aload_n (pc := 4) X 0 rfl dX9_go_4 ?_
    refine g_getI (pc := 5) X FcX9 k1 8 (by decide) rfl q_1028 dX9_go_5 ?_
    refine g_icmp_ge (pc := 8) X (tgt := 38) dX9_go_8 rfl (fun c => ?_) (fun c => ?_)
    · have h := br_y c h
      refine g_sub (lv' := [(0, rf V v0)]) [0] rfl ?_
      exact bj_X9_go_38 Y  h
    · have h := br_n c h
      refine g_aload_n (pc := 11) X 0 rfl dX9_go_11 ?_
      obtain ⟨a71, e72, h⟩ := bd1_i h
      refine g_getR (pc := 12) X FcX9 k1 7 e72 (by decide) rfl q_1027 dX9_go_12 ?_
      refine g_aload_n (pc := 15) X 0 rfl dX9_go_15 ?_
      refine g_getI (pc := 16) X FcX9 k1 9 (by decide) rfl q_1029 dX9_go_16 ?_
      obtain ⟨k73, h⟩ := gd_i h
      refine g_iald (pc := 19) X k73 dX9_go_19 ?_
      refine g_bipush (pc := 20) X (v := 32) dX9_go_20 rfl ?_
      refine g_icmp_ne (pc := 22) X (tgt := 38) dX9_go_22 rfl (fun c => ?_) (fun c => ?_)
      · have h := br_n c h
        refine g_sub (lv' := [(0, rf V v0)]) [0] rfl ?_
        exact bj_X9_go_38 Y  h
      · have h := br_y c h
        refine g_aload_n (pc := 25) X 0 rfl dX9_go_25 ?_
        refine g_dup (pc := 26) X rfl dX9_go_26 ?_
        refine g_getI (pc := 27) X FcX9 k1 9 (by decide) rfl q_1029 dX9_go_27 ?_
        refine g_iconst (pc := 30) X (v := 1) dX9_go_30 rfl ?_
        refine g_iadd (pc := 31) X dX9_go_31 ?_
        refine g_putI (pc := 32) X FcX9 k1 9 (by decide) rfl q_1029 rfl rfl rfl dX9_go_32 ?_
        obtain ⟨w74, e75, h⟩ := lb_i h
        refine g_w e75 ?_
        refine g_goto (pc := 35) X (tgt := 0) dX9_go_35 rfl ?_
        refine g_sub (lv' := [(0, rf V v0)]) [0] rfl ?_
        exact ih _ _ h

def f_X9_go (v0 : Nat) (w : Wd) : Option (Unit × Wd) := L_X9_go_0 FU v0 w
theorem c_X9_go {l : Launch} {V : Vt} {v0 : Nat} {w w' : Wd} {r : Unit} (h : f_X9_go v0 w = some (r, w')) : MetW l V yX9_go cX9_go 2 (none) { frames := 1, cells := 0, slots := 0, locals := 21 } w [rf V v0] none w' 0 0 := by
  refine g_start (by decide) (Nat.le_of_ble_eq_true rfl) ?_
  intro t _ hrm X hret hnm
  have Y : Hd_ t V cX9_go 2 RX9 { frames := 1, cells := 0, slots := 0, locals := 21 } (none) "go" := ⟨X, hrm, hret, hnm⟩
  refine g_as (lv' := [(0, rf V v0)]) (st' := []) rfl rfl ?_
  unfold f_X9_go at h
  refine g_sub (lv' := [(0, rf V v0)]) [0] rfl ?_
  exact bL_X9_go_0 Y  h

def j_X9_takesKey_106 (kk12 : Nat → Int32 → Wd → Option (Int32 × Wd)) (v0 : Nat) (v1 : Int32) (v3 : Int32) (w : Wd) : Option (Int32 × Wd) := (if v3 = 0 then
 (lb_ (v1 + 1) fun x13 =>
 kk12 v0 x13 w)
 else
 (if wK w v0 = 9 then
 (lb_ (sI w v0 14 v1) fun w16 =>
 (bd2 (f_X9_go v0 w16) fun r18 w19 =>
 some (1, w19)))
 else none))
theorem bj_X9_takesKey_106 {t : Ct} {V : Vt} {r : Int32} {w' : Wd} {kk12 : Nat → Int32 → Wd → Option (Int32 × Wd)} (Y : Hd_ t V cX9_takesKey 5 RX9 { frames := 2, cells := 0, slots := 0, locals := 42 } (some .boolean) "takesKey") (hk12 : ∀ (u0 : Nat) (u1 : Int32) (w : Wd), kk12 u0 u1 w = some (r, w') → Gd t V 5 0 0 (Qe t V (some (.int r)) w' 0 0) 12 [(0, rf V u0), (1, .int u1)] [] w) {v0 : Nat} {v1 : Int32} {v3 : Int32} {w : Wd} (h : j_X9_takesKey_106 kk12 v0 v1 v3 w = some (r, w')) : Gd t V 5 0 0 (Qe t V (some (.int r)) w' 0 0) 106 [(0, rf V v0), (1, .int v1), (3, .int v3)] [] w := by
  have X := Y.1
  unfold j_X9_takesKey_106 at h
  refine g_iload_n (pc := 106) X 2 rfl dX9_takesKey_106 ?_
  refine g_if_eq (pc := 107) X (tgt := 121) dX9_takesKey_107 rfl (fun c => ?_) (fun c => ?_)
  · have h := br_y c h
    obtain ⟨x13, e14, h⟩ := lb_i h
    refine g_iinc (pc := 121) X 1 rfl dX9_takesKey_121 (v := x13) e14.symm (by decide) (lv' := [(1, .int x13), (0, rf V v0), (3, .int v3)]) rfl ?_
    refine g_goto (pc := 124) X (tgt := 12) dX9_takesKey_124 rfl ?_
    refine g_sub (lv' := [(0, rf V v0), (1, .int x13)]) [1, 0] rfl ?_
    exact hk12 _ _ _ h
  · have h := br_n c h
    refine g_aload_n (pc := 110) X 0 rfl dX9_takesKey_110 ?_
    refine g_iload_n (pc := 111) X 1 rfl dX9_takesKey_111 ?_
    obtain ⟨k15, h⟩ := gd_i h
    refine g_putI (pc := 112) X FcX9 k15 14 (by decide) rfl q_1034 rfl rfl rfl dX9_takesKey_112 ?_
    obtain ⟨w16, e17, h⟩ := lb_i h
    refine g_w e17 ?_
    refine g_aload_n (pc := 115) X 0 rfl dX9_takesKey_115 ?_
    obtain ⟨r18, w19, h20, h⟩ := bd2_i h
    refine g_callV (pc := 116) X FcX9 (kd_I e17 k15) mk_X9_go q_1393 q_53 q_1391 (c_X9_go h20) rfl rfl (by rw [Y.2.1]; decide)  rfl (rest := []) rfl (Nat.le_of_ble_eq_true rfl) (by rw [Y.2.1]; exact ⟨Nat.le_of_ble_eq_true rfl, Nat.le_of_ble_eq_true rfl⟩) dX9_takesKey_116 (st' := []) rfl ?_
    refine g_iconst (pc := 119) X (v := 1) dX9_takesKey_119 rfl ?_
    obtain ⟨e1, e2⟩ := rt_i h
    exact g_zret (pc := 120) X Y.2.2.1 (Or.inr rfl) (Nat.le_of_ble_eq_true rfl) (Nat.le_of_ble_eq_true rfl) e1 e2 dX9_takesKey_120

def L_X9_takesKey_55 (kk12 : Nat → Int32 → Wd → Option (Int32 × Wd)) (n : Nat) (v0 : Nat) (v1 : Int32) (v2 : Int32) (v3 : Int32) (v4 : Int32) (w : Wd) : Option (Int32 × Wd) := match n with
  | 0 => none
  | n + 1 => (if v2 ≤ v4 then
 j_X9_takesKey_106 kk12 v0 v1 v3 w
 else
 (if v3 = 0 then
 j_X9_takesKey_106 kk12 v0 v1 v3 w
 else
 (if wK w v0 = 9 then
 (bd1 (wR w v0 7) fun a22 =>
 (if aK 11 w a22 ((wI w v0 10) + v4) = true then
 (bd1 (wR w v0 15) fun a25 =>
 (bd1 (wR w v0 16) fun a27 =>
 (if aK 11 w a27 v1 = true then
 (if aK 10 w a25 ((wI w a27 (nx v1)) + v4) = true then
 (lb_ (if (wI w a22 (nx ((wI w v0 10) + v4))) = (wI w a25 (nx ((wI w a27 (nx v1)) + v4))) then 1 else 0 : Int32) fun x31 =>
 (lb_ (v4 + 1) fun x33 =>
 L_X9_takesKey_55 kk12 n v0 v1 v2 x31 x33 w))
 else none)
 else none)))
 else none))
 else none)))
theorem bL_X9_takesKey_55 {t : Ct} {V : Vt} {r : Int32} {w' : Wd} {kk12 : Nat → Int32 → Wd → Option (Int32 × Wd)} (Y : Hd_ t V cX9_takesKey 5 RX9 { frames := 2, cells := 0, slots := 0, locals := 42 } (some .boolean) "takesKey") (hk12 : ∀ (u0 : Nat) (u1 : Int32) (w : Wd), kk12 u0 u1 w = some (r, w') → Gd t V 5 0 0 (Qe t V (some (.int r)) w' 0 0) 12 [(0, rf V u0), (1, .int u1)] [] w) : ∀ {n : Nat} {v0 : Nat} {v1 : Int32} {v2 : Int32} {v3 : Int32} {v4 : Int32} {w : Wd}, L_X9_takesKey_55 kk12 n v0 v1 v2 v3 v4 w = some (r, w') → Gd t V 5 0 0 (Qe t V (some (.int r)) w' 0 0) 55 [(0, rf V v0), (1, .int v1), (2, .int v2), (3, .int v3), (4, .int v4)] [] w := by
  have X := Y.1
  intro n
  induction n with
  | zero => intro v0 v1 v2 v3 v4 w h; cases h
  | succ n ih0 =>
    have ih : ∀ (v0 : Nat) (v1 : Int32) (v2 : Int32) (v3 : Int32) (v4 : Int32) (w : Wd), L_X9_takesKey_55 kk12 n v0 v1 v2 v3 v4 w = some (r, w') → Gd t V 5 0 0 (Qe t V (some (.int r)) w' 0 0) 55 [(0, rf V v0), (1, .int v1), (2, .int v2), (3, .int v3), (4, .int v4)] [] w := fun v0 v1 v2 v3 v4 w h => ih0 h
    clear ih0
    intro v0 v1 v2 v3 v4 w h
    unfold L_X9_takesKey_55 at h
    refine g_iload (pc := 55) X 4 rfl dX9_takesKey_55 ?_
    refine g_iload_n (pc := 57) X 2 rfl dX9_takesKey_57 ?_
    refine g_icmp_ge (pc := 58) X (tgt := 106) dX9_takesKey_58 rfl (fun c => ?_) (fun c => ?_)
    · have h := br_y c h
      refine g_sub (lv' := [(0, rf V v0), (1, .int v1), (3, .int v3)]) [0, 1, 3] rfl ?_
      exact bj_X9_takesKey_106 Y hk12 h
    · have h := br_n c h
      refine g_iload_n (pc := 61) X 3 rfl dX9_takesKey_61 ?_
      refine g_if_eq (pc := 62) X (tgt := 106) dX9_takesKey_62 rfl (fun c => ?_) (fun c => ?_)
      · have h := br_y c h
        refine g_sub (lv' := [(0, rf V v0), (1, .int v1), (3, .int v3)]) [0, 1, 3] rfl ?_
        exact bj_X9_takesKey_106 Y hk12 h
      · have h := br_n c h
        refine g_aload_n (pc := 65) X 0 rfl dX9_takesKey_65 ?_
        obtain ⟨k21, h⟩ := gd_i h
        obtain ⟨a22, e23, h⟩ := bd1_i h
        refine g_getR (pc := 66) X FcX9 k21 7 e23 (by decide) rfl q_1027 dX9_takesKey_66 ?_
        refine g_aload_n (pc := 69) X 0 rfl dX9_takesKey_69 ?_
        refine g_getI (pc := 70) X FcX9 k21 10 (by decide) rfl q_1030 dX9_takesKey_70 ?_
        refine g_iload (pc := 73) X 4 rfl dX9_takesKey_73 ?_
        refine g_iadd (pc := 75) X dX9_takesKey_75 ?_
        obtain ⟨k24, h⟩ := gd_i h
        refine g_iald (pc := 76) X k24 dX9_takesKey_76 ?_
        refine g_aload_n (pc := 77) X 0 rfl dX9_takesKey_77 ?_
        obtain ⟨a25, e26, h⟩ := bd1_i h
        refine g_getR (pc := 78) X FcX9 k21 15 e26 (by decide) rfl q_1035 dX9_takesKey_78 ?_
        refine g_aload_n (pc := 81) X 0 rfl dX9_takesKey_81 ?_
        obtain ⟨a27, e28, h⟩ := bd1_i h
        refine g_getR (pc := 82) X FcX9 k21 16 e28 (by decide) rfl q_1036 dX9_takesKey_82 ?_
        refine g_iload_n (pc := 85) X 1 rfl dX9_takesKey_85 ?_
        obtain ⟨k29, h⟩ := gd_i h
        refine g_iald (pc := 86) X k29 dX9_takesKey_86 ?_
        refine g_iload (pc := 87) X 4 rfl dX9_takesKey_87 ?_
        refine g_iadd (pc := 89) X dX9_takesKey_89 ?_
        obtain ⟨k30, h⟩ := gd_i h
        refine g_cald (pc := 90) X k30 dX9_takesKey_90 ?_
        have kJ : Gd t V 5 0 0 (Qe t V (some (.int r)) w' 0 0) 99 [(0, rf V v0), (1, .int v1), (2, .int v2), (3, .int v3), (4, .int v4)] [.int (if (wI w a22 (nx ((wI w v0 10) + v4))) = (wI w a25 (nx ((wI w a27 (nx v1)) + v4))) then 1 else 0 : Int32)] w := by
          obtain ⟨x31, e32, h⟩ := lb_i h
          refine g_top e32 ?_
          refine g_istore_n (pc := 99) X (lv' := [(3, .int x31), (0, rf V v0), (1, .int v1), (2, .int v2), (4, .int v4)]) dX9_takesKey_99 (by decide) rfl ?_
          obtain ⟨x33, e34, h⟩ := lb_i h
          refine g_iinc (pc := 100) X 4 rfl dX9_takesKey_100 (v := x33) e34.symm (by decide) (lv' := [(4, .int x33), (3, .int x31), (0, rf V v0), (1, .int v1), (2, .int v2)]) rfl ?_
          refine g_goto (pc := 103) X (tgt := 55) dX9_takesKey_103 rfl ?_
          refine g_sub (lv' := [(0, rf V v0), (1, .int v1), (2, .int v2), (3, .int x31), (4, .int x33)]) [2, 3, 4, 1, 0] rfl ?_
          exact ih _ _ _ _ _ _ h
        refine g_icmp_ne (pc := 91) X (tgt := 98) dX9_takesKey_91 rfl (fun c0 => ?_) (fun c0 => ?_)
        · refine g_iconst (pc := 98) X (v := 0) dX9_takesKey_98 rfl ?_
          exact g_top (by rw [if_neg c0]) kJ
        · refine g_iconst (pc := 94) X (v := 1) dX9_takesKey_94 rfl ?_
          refine g_goto (pc := 95) X (tgt := 99) dX9_takesKey_95 rfl ?_
          exact g_top (by rw [if_pos c0]) kJ

def L_X9_takesKey_12  (n : Nat) (v0 : Nat) (v1 : Int32) (w : Wd) : Option (Int32 × Wd) := match n with
  | 0 => none
  | n + 1 => (if 3 ≤ v1 then
 some (0, w)
 else
 (if wK w v0 = 9 then
 (bd1 (wR w v0 16) fun a3 =>
 (if aK 11 w a3 (v1 + 1) = true then
 (bd1 (wR w v0 16) fun a6 =>
 (if aK 11 w a6 v1 = true then
 (lb_ ((wI w a3 (nx (v1 + 1))) - (wI w a6 (nx v1))) fun x9 =>
 (lb_ (if x9 = ((wI w v0 9) - (wI w v0 10)) then 1 else 0 : Int32) fun x11 =>
 L_X9_takesKey_55 (L_X9_takesKey_12 n) FU v0 v1 x9 x11 0 w))
 else none))
 else none))
 else none))
theorem bL_X9_takesKey_12 {t : Ct} {V : Vt} {r : Int32} {w' : Wd} (Y : Hd_ t V cX9_takesKey 5 RX9 { frames := 2, cells := 0, slots := 0, locals := 42 } (some .boolean) "takesKey") : ∀ {n : Nat} {v0 : Nat} {v1 : Int32} {w : Wd}, L_X9_takesKey_12  n v0 v1 w = some (r, w') → Gd t V 5 0 0 (Qe t V (some (.int r)) w' 0 0) 12 [(0, rf V v0), (1, .int v1)] [] w := by
  have X := Y.1
  intro n
  induction n with
  | zero => intro v0 v1 w h; cases h
  | succ n ih0 =>
    have ih : ∀ (v0 : Nat) (v1 : Int32) (w : Wd), L_X9_takesKey_12  n v0 v1 w = some (r, w') → Gd t V 5 0 0 (Qe t V (some (.int r)) w' 0 0) 12 [(0, rf V v0), (1, .int v1)] [] w := fun v0 v1 w h => ih0 h
    clear ih0
    intro v0 v1 w h
    unfold L_X9_takesKey_12 at h
    refine g_iload_n (pc := 12) X 1 rfl dX9_takesKey_12 ?_
    refine g_iconst (pc := 13) X (v := 3) dX9_takesKey_13 rfl ?_
    refine g_icmp_ge (pc := 14) X (tgt := 127) dX9_takesKey_14 rfl (fun c => ?_) (fun c => ?_)
    · have h := br_y c h
      refine g_iconst (pc := 127) X (v := 0) dX9_takesKey_127 rfl ?_
      obtain ⟨e1, e2⟩ := rt_i h
      exact g_zret (pc := 128) X Y.2.2.1 (Or.inl rfl) (Nat.le_of_ble_eq_true rfl) (Nat.le_of_ble_eq_true rfl) e1 e2 dX9_takesKey_128
    · have h := br_n c h
      refine g_aload_n (pc := 17) X 0 rfl dX9_takesKey_17 ?_
      obtain ⟨k2, h⟩ := gd_i h
      obtain ⟨a3, e4, h⟩ := bd1_i h
      refine g_getR (pc := 18) X FcX9 k2 16 e4 (by decide) rfl q_1036 dX9_takesKey_18 ?_
      refine g_iload_n (pc := 21) X 1 rfl dX9_takesKey_21 ?_
      refine g_iconst (pc := 22) X (v := 1) dX9_takesKey_22 rfl ?_
      refine g_iadd (pc := 23) X dX9_takesKey_23 ?_
      obtain ⟨k5, h⟩ := gd_i h
      refine g_iald (pc := 24) X k5 dX9_takesKey_24 ?_
      refine g_aload_n (pc := 25) X 0 rfl dX9_takesKey_25 ?_
      obtain ⟨a6, e7, h⟩ := bd1_i h
      refine g_getR (pc := 26) X FcX9 k2 16 e7 (by decide) rfl q_1036 dX9_takesKey_26 ?_
      refine g_iload_n (pc := 29) X 1 rfl dX9_takesKey_29 ?_
      obtain ⟨k8, h⟩ := gd_i h
      refine g_iald (pc := 30) X k8 dX9_takesKey_30 ?_
      refine g_isub (pc := 31) X dX9_takesKey_31 ?_
      obtain ⟨x9, e10, h⟩ := lb_i h
      refine g_top e10 ?_
      refine g_istore_n (pc := 32) X (lv' := [(2, .int x9), (0, rf V v0), (1, .int v1)]) dX9_takesKey_32 (by decide) rfl ?_
      refine g_iload_n (pc := 33) X 0 rfl dX9_takesKey_33 ?_
      refine g_aload_n (pc := 34) X 1 rfl dX9_takesKey_34 ?_
      refine g_getI (pc := 35) X FcX9 k2 9 (by decide) rfl q_1029 dX9_takesKey_35 ?_
      refine g_aload_n (pc := 38) X 1 rfl dX9_takesKey_38 ?_
      refine g_getI (pc := 39) X FcX9 k2 10 (by decide) rfl q_1030 dX9_takesKey_39 ?_
      refine g_isub (pc := 42) X dX9_takesKey_42 ?_
      have kJ : Gd t V 5 0 0 (Qe t V (some (.int r)) w' 0 0) 51 [(2, .int x9), (0, rf V v0), (1, .int v1)] [.int (if x9 = ((wI w v0 9) - (wI w v0 10)) then 1 else 0 : Int32)] w := by
        obtain ⟨x11, e12, h⟩ := lb_i h
        refine g_top e12 ?_
        refine g_istore_n (pc := 51) X (lv' := [(3, .int x11), (2, .int x9), (0, rf V v0), (1, .int v1)]) dX9_takesKey_51 (by decide) rfl ?_
        refine g_iconst (pc := 52) X (v := 0) dX9_takesKey_52 rfl ?_
        refine g_istore (pc := 53) X (lv' := [(4, .int 0), (3, .int x11), (2, .int x9), (0, rf V v0), (1, .int v1)]) dX9_takesKey_53 (by decide) rfl ?_
        refine g_sub (lv' := [(0, rf V v0), (1, .int v1), (2, .int x9), (3, .int x11), (4, .int 0)]) [3, 4, 2, 1, 0] rfl ?_
        exact bL_X9_takesKey_55 Y (ih) h
      refine g_icmp_ne (pc := 43) X (tgt := 50) dX9_takesKey_43 rfl (fun c0 => ?_) (fun c0 => ?_)
      · refine g_iconst (pc := 50) X (v := 0) dX9_takesKey_50 rfl ?_
        exact g_top (by rw [if_neg c0]) kJ
      · refine g_iconst (pc := 46) X (v := 1) dX9_takesKey_46 rfl ?_
        refine g_goto (pc := 47) X (tgt := 51) dX9_takesKey_47 rfl ?_
        exact g_top (by rw [if_pos c0]) kJ

def f_X9_takesKey (v0 : Nat) (w : Wd) : Option (Int32 × Wd) := (if wK w v0 = 9 then
 (if (wI w v0 11) = 1 then
 L_X9_takesKey_12 FU v0 0 w
 else
 some (0, w))
 else none)
theorem c_X9_takesKey {l : Launch} {V : Vt} {v0 : Nat} {w w' : Wd} {r : Int32} (h : f_X9_takesKey v0 w = some (r, w')) : MetW l V yX9_takesKey cX9_takesKey 5 (some .boolean) { frames := 2, cells := 0, slots := 0, locals := 42 } w [rf V v0] (some (.int r)) w' 0 0 := by
  refine g_start (by decide) (Nat.le_of_ble_eq_true rfl) ?_
  intro t _ hrm X hret hnm
  have Y : Hd_ t V cX9_takesKey 5 RX9 { frames := 2, cells := 0, slots := 0, locals := 42 } (some .boolean) "takesKey" := ⟨X, hrm, hret, hnm⟩
  refine g_as (lv' := [(0, rf V v0)]) (st' := []) rfl rfl ?_
  unfold f_X9_takesKey at h
  refine g_aload_n (pc := 0) X 0 rfl dX9_takesKey_0 ?_
  obtain ⟨k1, h⟩ := gd_i h
  refine g_getI (pc := 1) X FcX9 k1 11 (by decide) rfl q_1031 dX9_takesKey_1 ?_
  refine g_iconst (pc := 4) X (v := 1) dX9_takesKey_4 rfl ?_
  refine g_icmp_eq (pc := 5) X (tgt := 10) dX9_takesKey_5 rfl (fun c => ?_) (fun c => ?_)
  · have h := br_y c h
    refine g_iconst (pc := 10) X (v := 0) dX9_takesKey_10 rfl ?_
    refine g_istore_n (pc := 11) X (lv' := [(1, .int 0), (0, rf V v0)]) dX9_takesKey_11 (by decide) rfl ?_
    refine g_sub (lv' := [(0, rf V v0), (1, .int 0)]) [1, 0] rfl ?_
    exact bL_X9_takesKey_12 Y  h
  · have h := br_n c h
    refine g_iconst (pc := 8) X (v := 0) dX9_takesKey_8 rfl ?_
    obtain ⟨e1, e2⟩ := rt_i h
    exact g_zret (pc := 9) X Y.2.2.1 (Or.inl rfl) (Nat.le_of_ble_eq_true rfl) (Nat.le_of_ble_eq_true rfl) e1 e2 dX9_takesKey_9

def f_X9_nameOf (v0 : Nat) (v1 : Int32) (w : Wd) : Option (Int32 × Wd) := (if wK w v0 = 9 then
 (if (wI w v0 14) = 0 then
 some ((if v1 = 112 then 0 else (if v1 = 99 then 1 else (if v1 = 115 then 2 else (-1) : Int32) : Int32) : Int32), w)
 else
 (if (wI w v0 14) = 1 then
 some ((if v1 = 116 then 0 else (if v1 = 109 then 1 else (-1) : Int32) : Int32), w)
 else
 some ((if v1 = 112 then 0 else (if v1 = 115 then 1 else (-1) : Int32) : Int32), w)))
 else none)
theorem c_X9_nameOf {l : Launch} {V : Vt} {v0 : Nat} {v1 : Int32} {w w' : Wd} {r : Int32} (h : f_X9_nameOf v0 v1 w = some (r, w')) : MetW l V yX9_nameOf cX9_nameOf 2 (some .int) { frames := 0, cells := 0, slots := 0, locals := 0 } w [rf V v0, .int v1] (some (.int r)) w' 0 0 := by
  refine g_start (by decide) (Nat.le_of_ble_eq_true rfl) ?_
  intro t _ hrm X hret hnm
  have Y : Hd_ t V cX9_nameOf 2 RX9 { frames := 0, cells := 0, slots := 0, locals := 0 } (some .int) "nameOf" := ⟨X, hrm, hret, hnm⟩
  refine g_as (lv' := [(0, rf V v0), (1, .int v1)]) (st' := []) rfl rfl ?_
  unfold f_X9_nameOf at h
  refine g_aload_n (pc := 0) X 0 rfl dX9_nameOf_0 ?_
  obtain ⟨k1, h⟩ := gd_i h
  refine g_getI (pc := 1) X FcX9 k1 14 (by decide) rfl q_1034 dX9_nameOf_1 ?_
  by_cases c2 : (wI w v0 14) = 0
  · have h := br_y c2 h
    refine g_lsw (pc := 4) X (tgt := 32) (off := 28) dX9_nameOf_4 (by decide) (by rw [c2]; rfl) rfl ?_
    refine g_iload_n (pc := 32) X 1 rfl dX9_nameOf_32 ?_
    refine g_bipush (pc := 33) X (v := 112) dX9_nameOf_33 rfl ?_
    have kJ : Gd t V 2 0 0 (Qe t V (some (.int r)) w' 0 0) 63 [(0, rf V v0), (1, .int v1)] [.int (if v1 = 112 then 0 else (if v1 = 99 then 1 else (if v1 = 115 then 2 else (-1) : Int32) : Int32) : Int32)] w := by
      obtain ⟨e1, e2⟩ := rt_i h
      exact g_iret (pc := 63) X Y.2.2.1 (Nat.le_of_ble_eq_true rfl) (Nat.le_of_ble_eq_true rfl) e1 e2 dX9_nameOf_63
    refine g_icmp_ne (pc := 35) X (tgt := 42) dX9_nameOf_35 rfl (fun c0 => ?_) (fun c0 => ?_)
    · refine g_iload_n (pc := 42) X 1 rfl dX9_nameOf_42 ?_
      refine g_bipush (pc := 43) X (v := 99) dX9_nameOf_43 rfl ?_
      refine g_icmp_ne (pc := 45) X (tgt := 52) dX9_nameOf_45 rfl (fun c1 => ?_) (fun c1 => ?_)
      · refine g_iload_n (pc := 52) X 1 rfl dX9_nameOf_52 ?_
        refine g_bipush (pc := 53) X (v := 115) dX9_nameOf_53 rfl ?_
        refine g_icmp_ne (pc := 55) X (tgt := 62) dX9_nameOf_55 rfl (fun c2 => ?_) (fun c2 => ?_)
        · refine g_iconst (pc := 62) X (v := (-1)) dX9_nameOf_62 rfl ?_
          exact g_top (by rw [if_neg c0, if_neg c1, if_neg c2]) kJ
        · refine g_iconst (pc := 58) X (v := 2) dX9_nameOf_58 rfl ?_
          refine g_goto (pc := 59) X (tgt := 63) dX9_nameOf_59 rfl ?_
          exact g_top (by rw [if_neg c0, if_neg c1, if_pos c2]) kJ
      · refine g_iconst (pc := 48) X (v := 1) dX9_nameOf_48 rfl ?_
        refine g_goto (pc := 49) X (tgt := 63) dX9_nameOf_49 rfl ?_
        exact g_top (by rw [if_neg c0, if_pos c1]) kJ
    · refine g_iconst (pc := 38) X (v := 0) dX9_nameOf_38 rfl ?_
      refine g_goto (pc := 39) X (tgt := 63) dX9_nameOf_39 rfl ?_
      exact g_top (by rw [if_pos c0]) kJ
  · have h := br_n c2 h
    by_cases c3 : (wI w v0 14) = 1
    · have h := br_y c3 h
      refine g_lsw (pc := 4) X (tgt := 64) (off := 60) dX9_nameOf_4 (by decide) (by rw [c3]; rfl) rfl ?_
      refine g_iload_n (pc := 64) X 1 rfl dX9_nameOf_64 ?_
      refine g_bipush (pc := 65) X (v := 116) dX9_nameOf_65 rfl ?_
      have kJ : Gd t V 2 0 0 (Qe t V (some (.int r)) w' 0 0) 85 [(0, rf V v0), (1, .int v1)] [.int (if v1 = 116 then 0 else (if v1 = 109 then 1 else (-1) : Int32) : Int32)] w := by
        obtain ⟨e1, e2⟩ := rt_i h
        exact g_iret (pc := 85) X Y.2.2.1 (Nat.le_of_ble_eq_true rfl) (Nat.le_of_ble_eq_true rfl) e1 e2 dX9_nameOf_85
      refine g_icmp_ne (pc := 67) X (tgt := 74) dX9_nameOf_67 rfl (fun c0 => ?_) (fun c0 => ?_)
      · refine g_iload_n (pc := 74) X 1 rfl dX9_nameOf_74 ?_
        refine g_bipush (pc := 75) X (v := 109) dX9_nameOf_75 rfl ?_
        refine g_icmp_ne (pc := 77) X (tgt := 84) dX9_nameOf_77 rfl (fun c1 => ?_) (fun c1 => ?_)
        · refine g_iconst (pc := 84) X (v := (-1)) dX9_nameOf_84 rfl ?_
          exact g_top (by rw [if_neg c0, if_neg c1]) kJ
        · refine g_iconst (pc := 80) X (v := 1) dX9_nameOf_80 rfl ?_
          refine g_goto (pc := 81) X (tgt := 85) dX9_nameOf_81 rfl ?_
          exact g_top (by rw [if_neg c0, if_pos c1]) kJ
      · refine g_iconst (pc := 70) X (v := 0) dX9_nameOf_70 rfl ?_
        refine g_goto (pc := 71) X (tgt := 85) dX9_nameOf_71 rfl ?_
        exact g_top (by rw [if_pos c0]) kJ
    · have h := br_n c3 h
      refine g_lsw (pc := 4) X (tgt := 86) (off := 82) dX9_nameOf_4 (by decide) (by have n0 : Int32.toInt (wI w v0 14) ≠ 0 := nt_ c2; have n1 : Int32.toInt (wI w v0 14) ≠ 1 := nt_ c3; simp [Op.lookupswitch.offset, n0, Ne.symm n0, n1, Ne.symm n1]) rfl ?_
      refine g_iload_n (pc := 86) X 1 rfl dX9_nameOf_86 ?_
      refine g_bipush (pc := 87) X (v := 112) dX9_nameOf_87 rfl ?_
      have kJ : Gd t V 2 0 0 (Qe t V (some (.int r)) w' 0 0) 107 [(0, rf V v0), (1, .int v1)] [.int (if v1 = 112 then 0 else (if v1 = 115 then 1 else (-1) : Int32) : Int32)] w := by
        obtain ⟨e1, e2⟩ := rt_i h
        exact g_iret (pc := 107) X Y.2.2.1 (Nat.le_of_ble_eq_true rfl) (Nat.le_of_ble_eq_true rfl) e1 e2 dX9_nameOf_107
      refine g_icmp_ne (pc := 89) X (tgt := 96) dX9_nameOf_89 rfl (fun c0 => ?_) (fun c0 => ?_)
      · refine g_iload_n (pc := 96) X 1 rfl dX9_nameOf_96 ?_
        refine g_bipush (pc := 97) X (v := 115) dX9_nameOf_97 rfl ?_
        refine g_icmp_ne (pc := 99) X (tgt := 106) dX9_nameOf_99 rfl (fun c1 => ?_) (fun c1 => ?_)
        · refine g_iconst (pc := 106) X (v := (-1)) dX9_nameOf_106 rfl ?_
          exact g_top (by rw [if_neg c0, if_neg c1]) kJ
        · refine g_iconst (pc := 102) X (v := 1) dX9_nameOf_102 rfl ?_
          refine g_goto (pc := 103) X (tgt := 107) dX9_nameOf_103 rfl ?_
          exact g_top (by rw [if_neg c0, if_pos c1]) kJ
      · refine g_iconst (pc := 92) X (v := 0) dX9_nameOf_92 rfl ?_
        refine g_goto (pc := 93) X (tgt := 107) dX9_nameOf_93 rfl ?_
        exact g_top (by rw [if_pos c0]) kJ

def f_X9_rank (v0 : Int32) (w : Wd) : Option (Int32 × Wd) := some ((if v0 = (-1) then 1 else (if v0 = (-2) then 2 else (if v0 < (-5) then (if v0 < (-7) then (if v0 < (-9) then 6 else 5 : Int32) else 4 : Int32) else 3 : Int32) : Int32) : Int32), w)
theorem c_X9_rank {l : Launch} {V : Vt} {v0 : Int32} {w w' : Wd} {r : Int32} (h : f_X9_rank v0 w = some (r, w')) : MetW l V yX9_rank cX9_rank 1 (some .int) { frames := 0, cells := 0, slots := 0, locals := 0 } w [.int v0] (some (.int r)) w' 0 0 := by
  refine g_start (by decide) (Nat.le_of_ble_eq_true rfl) ?_
  intro t _ hrm X hret hnm
  have Y : Hd_ t V cX9_rank 1 RX9 { frames := 0, cells := 0, slots := 0, locals := 0 } (some .int) "rank" := ⟨X, hrm, hret, hnm⟩
  refine g_as (lv' := [(0, .int v0)]) (st' := []) rfl rfl ?_
  unfold f_X9_rank at h
  refine g_iload_n (pc := 0) X 0 rfl dX9_rank_0 ?_
  refine g_iconst (pc := 1) X (v := (-1)) dX9_rank_1 rfl ?_
  have kJ : Gd t V 1 0 0 (Qe t V (some (.int r)) w' 0 0) 51 [(0, .int v0)] [.int (if v0 = (-1) then 1 else (if v0 = (-2) then 2 else (if v0 < (-5) then (if v0 < (-7) then (if v0 < (-9) then 6 else 5 : Int32) else 4 : Int32) else 3 : Int32) : Int32) : Int32)] w := by
    obtain ⟨e1, e2⟩ := rt_i h
    exact g_iret (pc := 51) X Y.2.2.1 (Nat.le_of_ble_eq_true rfl) (Nat.le_of_ble_eq_true rfl) e1 e2 dX9_rank_51
  refine g_icmp_ne (pc := 2) X (tgt := 9) dX9_rank_2 rfl (fun c0 => ?_) (fun c0 => ?_)
  · refine g_iload_n (pc := 9) X 0 rfl dX9_rank_9 ?_
    refine g_bipush (pc := 10) X (v := (-2)) dX9_rank_10 rfl ?_
    refine g_icmp_ne (pc := 12) X (tgt := 19) dX9_rank_12 rfl (fun c1 => ?_) (fun c1 => ?_)
    · refine g_iload_n (pc := 19) X 0 rfl dX9_rank_19 ?_
      refine g_bipush (pc := 20) X (v := (-5)) dX9_rank_20 rfl ?_
      refine g_icmp_lt (pc := 22) X (tgt := 29) dX9_rank_22 rfl (fun c2 => ?_) (fun c2 => ?_)
      · refine g_iload_n (pc := 29) X 0 rfl dX9_rank_29 ?_
        refine g_bipush (pc := 30) X (v := (-7)) dX9_rank_30 rfl ?_
        refine g_icmp_lt (pc := 32) X (tgt := 39) dX9_rank_32 rfl (fun c3 => ?_) (fun c3 => ?_)
        · refine g_iload_n (pc := 39) X 0 rfl dX9_rank_39 ?_
          refine g_bipush (pc := 40) X (v := (-9)) dX9_rank_40 rfl ?_
          refine g_icmp_lt (pc := 42) X (tgt := 49) dX9_rank_42 rfl (fun c4 => ?_) (fun c4 => ?_)
          · refine g_bipush (pc := 49) X (v := 6) dX9_rank_49 rfl ?_
            exact g_top (by rw [if_neg c0, if_neg c1, if_pos c2, if_pos c3, if_pos c4]) kJ
          · refine g_iconst (pc := 45) X (v := 5) dX9_rank_45 rfl ?_
            refine g_goto (pc := 46) X (tgt := 51) dX9_rank_46 rfl ?_
            exact g_top (by rw [if_neg c0, if_neg c1, if_pos c2, if_pos c3, if_neg c4]) kJ
        · refine g_iconst (pc := 35) X (v := 4) dX9_rank_35 rfl ?_
          refine g_goto (pc := 36) X (tgt := 51) dX9_rank_36 rfl ?_
          exact g_top (by rw [if_neg c0, if_neg c1, if_pos c2, if_neg c3]) kJ
      · refine g_iconst (pc := 25) X (v := 3) dX9_rank_25 rfl ?_
        refine g_goto (pc := 26) X (tgt := 51) dX9_rank_26 rfl ?_
        exact g_top (by rw [if_neg c0, if_neg c1, if_neg c2]) kJ
    · refine g_iconst (pc := 15) X (v := 2) dX9_rank_15 rfl ?_
      refine g_goto (pc := 16) X (tgt := 51) dX9_rank_16 rfl ?_
      exact g_top (by rw [if_neg c0, if_pos c1]) kJ
  · refine g_iconst (pc := 5) X (v := 1) dX9_rank_5 rfl ?_
    refine g_goto (pc := 6) X (tgt := 51) dX9_rank_6 rfl ?_
    exact g_top (by rw [if_pos c0]) kJ

def L_X9_settle_0  (n : Nat) (v0 : Nat) (v1 : Int32) (w : Wd) : Option (Unit × Wd) := match n with
  | 0 => none
  | n + 1 => (if wK w v0 = 9 then
 (if (wI w v0 21) ≤ 0 then
 some ((), w)
 else
 (bd1 (wR w v0 20) fun a2 =>
 (if aK 11 w a2 ((wI w v0 21) - 1) = true then
 (if (wI w a2 (nx ((wI w v0 21) - 1))) = (-11) then
 some ((), w)
 else
 (bd1 (wR w v0 20) fun a5 =>
 (if aK 11 w a5 ((wI w v0 21) - 1) = true then
 (bd2 (f_X9_rank (wI w a5 (nx ((wI w v0 21) - 1))) w) fun r8 w9 =>
 (if r8 < v1 then
 some ((), w9)
 else
 (if wK w9 v0 = 9 then
 (lb_ (sI w9 v0 21 ((wI w9 v0 21) - 1)) fun w12 =>
 (bd1 (wR w12 v0 17) fun a14 =>
 (bd1 (wR w12 v0 20) fun a16 =>
 (if aK 11 w12 a16 (wI w12 v0 21) = true then
 (if aK 11 w12 a14 (wI w12 v0 18) = true then
 (lb_ (sI w12 a14 (nx (wI w12 v0 18)) (wI w12 a16 (nx (wI w12 v0 21)))) fun w20 =>
 (lb_ (sI w20 v0 18 ((wI w20 v0 18) + 1)) fun w22 =>
 L_X9_settle_0 n v0 v1 w22))
 else none)
 else none))))
 else none)))
 else none)))
 else none)))
 else none)
theorem bL_X9_settle_0 {t : Ct} {V : Vt} {r : Unit} {w' : Wd} (Y : Hd_ t V cX9_settle 2 RX9 { frames := 1, cells := 0, slots := 0, locals := 20 } (none) "settle") : ∀ {n : Nat} {v0 : Nat} {v1 : Int32} {w : Wd}, L_X9_settle_0  n v0 v1 w = some (r, w') → Gd t V 2 0 0 (Qe t V none w' 0 0) 0 [(0, rf V v0), (1, .int v1)] [] w := by
  have X := Y.1
  intro n
  induction n with
  | zero => intro v0 v1 w h; cases h
  | succ n ih0 =>
    have ih : ∀ (v0 : Nat) (v1 : Int32) (w : Wd), L_X9_settle_0  n v0 v1 w = some (r, w') → Gd t V 2 0 0 (Qe t V none w' 0 0) 0 [(0, rf V v0), (1, .int v1)] [] w := fun v0 v1 w h => ih0 h
    clear ih0
    intro v0 v1 w h
    unfold L_X9_settle_0 at h
    refine g_aload_n (pc := 0) X 0 rfl dX9_settle_0 ?_
    obtain ⟨k1, h⟩ := gd_i h
    refine g_getI (pc := 1) X FcX9 k1 21 (by decide) rfl q_1041 dX9_settle_1 ?_
    refine g_if_le (pc := 4) X (tgt := 82) dX9_settle_4 rfl (fun c => ?_) (fun c => ?_)
    · have h := br_y c h
      obtain ⟨e1, e2⟩ := rt_i h
      exact g_vret (pc := 82) X Y.2.2.1 (Nat.le_of_ble_eq_true rfl) (Nat.le_of_ble_eq_true rfl) e2 dX9_settle_82
    · have h := br_n c h
      refine g_aload_n (pc := 7) X 0 rfl dX9_settle_7 ?_
      obtain ⟨a2, e3, h⟩ := bd1_i h
      refine g_getR (pc := 8) X FcX9 k1 20 e3 (by decide) rfl q_1040 dX9_settle_8 ?_
      refine g_aload_n (pc := 11) X 0 rfl dX9_settle_11 ?_
      refine g_getI (pc := 12) X FcX9 k1 21 (by decide) rfl q_1041 dX9_settle_12 ?_
      refine g_iconst (pc := 15) X (v := 1) dX9_settle_15 rfl ?_
      refine g_isub (pc := 16) X dX9_settle_16 ?_
      obtain ⟨k4, h⟩ := gd_i h
      refine g_iald (pc := 17) X k4 dX9_settle_17 ?_
      refine g_bipush (pc := 18) X (v := (-11)) dX9_settle_18 rfl ?_
      refine g_icmp_eq (pc := 20) X (tgt := 82) dX9_settle_20 rfl (fun c => ?_) (fun c => ?_)
      · have h := br_y c h
        obtain ⟨e1, e2⟩ := rt_i h
        exact g_vret (pc := 82) X Y.2.2.1 (Nat.le_of_ble_eq_true rfl) (Nat.le_of_ble_eq_true rfl) e2 dX9_settle_82
      · have h := br_n c h
        refine g_aload_n (pc := 23) X 0 rfl dX9_settle_23 ?_
        obtain ⟨a5, e6, h⟩ := bd1_i h
        refine g_getR (pc := 24) X FcX9 k1 20 e6 (by decide) rfl q_1040 dX9_settle_24 ?_
        refine g_aload_n (pc := 27) X 0 rfl dX9_settle_27 ?_
        refine g_getI (pc := 28) X FcX9 k1 21 (by decide) rfl q_1041 dX9_settle_28 ?_
        refine g_iconst (pc := 31) X (v := 1) dX9_settle_31 rfl ?_
        refine g_isub (pc := 32) X dX9_settle_32 ?_
        obtain ⟨k7, h⟩ := gd_i h
        refine g_iald (pc := 33) X k7 dX9_settle_33 ?_
        obtain ⟨r8, w9, h10, h⟩ := bd2_i h
        refine g_callS (pc := 34) X mk_X9_rank q_1424 q_1423 (c_X9_rank h10) rfl rfl (by rw [Y.2.1]; decide)  rfl (rest := []) rfl (Nat.le_of_ble_eq_true rfl) (by rw [Y.2.1]; exact ⟨Nat.le_of_ble_eq_true rfl, Nat.le_of_ble_eq_true rfl⟩) dX9_settle_34 (st' := [.int r8]) rfl ?_
        refine g_iload_n (pc := 37) X 1 rfl dX9_settle_37 ?_
        refine g_icmp_lt (pc := 38) X (tgt := 82) dX9_settle_38 rfl (fun c => ?_) (fun c => ?_)
        · have h := br_y c h
          obtain ⟨e1, e2⟩ := rt_i h
          exact g_vret (pc := 82) X Y.2.2.1 (Nat.le_of_ble_eq_true rfl) (Nat.le_of_ble_eq_true rfl) e2 dX9_settle_82
        · have h := br_n c h
          refine g_aload_n (pc := 41) X 0 rfl dX9_settle_41 ?_
          refine g_dup (pc := 42) X rfl dX9_settle_42 ?_
          obtain ⟨k11, h⟩ := gd_i h
          refine g_getI (pc := 43) X FcX9 k11 21 (by decide) rfl q_1041 dX9_settle_43 ?_
          refine g_iconst (pc := 46) X (v := 1) dX9_settle_46 rfl ?_
          refine g_isub (pc := 47) X dX9_settle_47 ?_
          refine g_putI (pc := 48) X FcX9 k11 21 (by decide) rfl q_1041 rfl rfl rfl dX9_settle_48 ?_
          obtain ⟨w12, e13, h⟩ := lb_i h
          refine g_w e13 ?_
          refine g_aload_n (pc := 51) X 0 rfl dX9_settle_51 ?_
          obtain ⟨a14, e15, h⟩ := bd1_i h
          refine g_getR (pc := 52) X FcX9 (kd_I e13 k11) 17 e15 (by decide) rfl q_1037 dX9_settle_52 ?_
          refine g_aload_n (pc := 55) X 0 rfl dX9_settle_55 ?_
          refine g_getI (pc := 56) X FcX9 (kd_I e13 k11) 18 (by decide) rfl q_1038 dX9_settle_56 ?_
          refine g_aload_n (pc := 59) X 0 rfl dX9_settle_59 ?_
          obtain ⟨a16, e17, h⟩ := bd1_i h
          refine g_getR (pc := 60) X FcX9 (kd_I e13 k11) 20 e17 (by decide) rfl q_1040 dX9_settle_60 ?_
          refine g_aload_n (pc := 63) X 0 rfl dX9_settle_63 ?_
          refine g_getI (pc := 64) X FcX9 (kd_I e13 k11) 21 (by decide) rfl q_1041 dX9_settle_64 ?_
          obtain ⟨k18, h⟩ := gd_i h
          refine g_iald (pc := 67) X k18 dX9_settle_67 ?_
          obtain ⟨k19, h⟩ := gd_i h
          refine g_iast (pc := 68) X k19 dX9_settle_68 ?_
          obtain ⟨w20, e21, h⟩ := lb_i h
          refine g_w e21 ?_
          refine g_aload_n (pc := 69) X 0 rfl dX9_settle_69 ?_
          refine g_dup (pc := 70) X rfl dX9_settle_70 ?_
          refine g_getI (pc := 71) X FcX9 (kd_I e21 (kd_I e13 k11)) 18 (by decide) rfl q_1038 dX9_settle_71 ?_
          refine g_iconst (pc := 74) X (v := 1) dX9_settle_74 rfl ?_
          refine g_iadd (pc := 75) X dX9_settle_75 ?_
          refine g_putI (pc := 76) X FcX9 (kd_I e21 (kd_I e13 k11)) 18 (by decide) rfl q_1038 rfl rfl rfl dX9_settle_76 ?_
          obtain ⟨w22, e23, h⟩ := lb_i h
          refine g_w e23 ?_
          refine g_goto (pc := 79) X (tgt := 0) dX9_settle_79 rfl ?_
          refine g_sub (lv' := [(0, rf V v0), (1, .int v1)]) [0, 1] rfl ?_
          exact ih _ _ _ h

def f_X9_settle (v0 : Nat) (v1 : Int32) (w : Wd) : Option (Unit × Wd) := L_X9_settle_0 FU v0 v1 w
theorem c_X9_settle {l : Launch} {V : Vt} {v0 : Nat} {v1 : Int32} {w w' : Wd} {r : Unit} (h : f_X9_settle v0 v1 w = some (r, w')) : MetW l V yX9_settle cX9_settle 2 (none) { frames := 1, cells := 0, slots := 0, locals := 20 } w [rf V v0, .int v1] none w' 0 0 := by
  refine g_start (by decide) (Nat.le_of_ble_eq_true rfl) ?_
  intro t _ hrm X hret hnm
  have Y : Hd_ t V cX9_settle 2 RX9 { frames := 1, cells := 0, slots := 0, locals := 20 } (none) "settle" := ⟨X, hrm, hret, hnm⟩
  refine g_as (lv' := [(0, rf V v0), (1, .int v1)]) (st' := []) rfl rfl ?_
  unfold f_X9_settle at h
  refine g_sub (lv' := [(0, rf V v0), (1, .int v1)]) [0, 1] rfl ?_
  exact bL_X9_settle_0 Y  h

def f_X9_signHere (v0 : Nat) (w : Wd) : Option (Int32 × Wd) := (if wK w v0 = 9 then
 (if (wI w v0 11) = 3 then
 (if (wI w v0 12) = 38 then
 some ((-2), w)
 else
 (if (wI w v0 12) = 42 then
 some ((-8), w)
 else
 (if (wI w v0 12) = 43 then
 some ((-6), w)
 else
 (if (wI w v0 12) = 45 then
 some ((-7), w)
 else
 (if (wI w v0 12) = 47 then
 some ((-9), w)
 else
 (if (wI w v0 12) = 60 then
 some ((-3), w)
 else
 (if (wI w v0 12) = 61 then
 some ((-4), w)
 else
 (if (wI w v0 12) = 62 then
 some ((-5), w)
 else
 (if (wI w v0 12) = 124 then
 some ((-1), w)
 else
 some (0, w))))))))))
 else
 some (0, w))
 else none)
theorem c_X9_signHere {l : Launch} {V : Vt} {v0 : Nat} {w w' : Wd} {r : Int32} (h : f_X9_signHere v0 w = some (r, w')) : MetW l V yX9_signHere cX9_signHere 1 (some .int) { frames := 0, cells := 0, slots := 0, locals := 0 } w [rf V v0] (some (.int r)) w' 0 0 := by
  refine g_start (by decide) (Nat.le_of_ble_eq_true rfl) ?_
  intro t _ hrm X hret hnm
  have Y : Hd_ t V cX9_signHere 1 RX9 { frames := 0, cells := 0, slots := 0, locals := 0 } (some .int) "signHere" := ⟨X, hrm, hret, hnm⟩
  refine g_as (lv' := [(0, rf V v0)]) (st' := []) rfl rfl ?_
  unfold f_X9_signHere at h
  refine g_aload_n (pc := 0) X 0 rfl dX9_signHere_0 ?_
  obtain ⟨k1, h⟩ := gd_i h
  refine g_getI (pc := 1) X FcX9 k1 11 (by decide) rfl q_1031 dX9_signHere_1 ?_
  refine g_iconst (pc := 4) X (v := 3) dX9_signHere_4 rfl ?_
  refine g_icmp_eq (pc := 5) X (tgt := 10) dX9_signHere_5 rfl (fun c => ?_) (fun c => ?_)
  · have h := br_y c h
    refine g_aload_n (pc := 10) X 0 rfl dX9_signHere_10 ?_
    refine g_getI (pc := 11) X FcX9 k1 12 (by decide) rfl q_1032 dX9_signHere_11 ?_
    by_cases c2 : (wI w v0 12) = 38
    · have h := br_y c2 h
      refine g_lsw (pc := 14) X (tgt := 98) (off := 84) dX9_signHere_14 (by decide) (by rw [c2]; rfl) rfl ?_
      refine g_bipush (pc := 98) X (v := (-2)) dX9_signHere_98 rfl ?_
      obtain ⟨e1, e2⟩ := rt_i h
      exact g_iret (pc := 100) X Y.2.2.1 (Nat.le_of_ble_eq_true rfl) (Nat.le_of_ble_eq_true rfl) e1 e2 dX9_signHere_100
    · have h := br_n c2 h
      by_cases c3 : (wI w v0 12) = 42
      · have h := br_y c3 h
        refine g_lsw (pc := 14) X (tgt := 116) (off := 102) dX9_signHere_14 (by decide) (by rw [c3]; rfl) rfl ?_
        refine g_bipush (pc := 116) X (v := (-8)) dX9_signHere_116 rfl ?_
        obtain ⟨e1, e2⟩ := rt_i h
        exact g_iret (pc := 118) X Y.2.2.1 (Nat.le_of_ble_eq_true rfl) (Nat.le_of_ble_eq_true rfl) e1 e2 dX9_signHere_118
      · have h := br_n c3 h
        by_cases c4 : (wI w v0 12) = 43
        · have h := br_y c4 h
          refine g_lsw (pc := 14) X (tgt := 110) (off := 96) dX9_signHere_14 (by decide) (by rw [c4]; rfl) rfl ?_
          refine g_bipush (pc := 110) X (v := (-6)) dX9_signHere_110 rfl ?_
          obtain ⟨e1, e2⟩ := rt_i h
          exact g_iret (pc := 112) X Y.2.2.1 (Nat.le_of_ble_eq_true rfl) (Nat.le_of_ble_eq_true rfl) e1 e2 dX9_signHere_112
        · have h := br_n c4 h
          by_cases c5 : (wI w v0 12) = 45
          · have h := br_y c5 h
            refine g_lsw (pc := 14) X (tgt := 113) (off := 99) dX9_signHere_14 (by decide) (by rw [c5]; rfl) rfl ?_
            refine g_bipush (pc := 113) X (v := (-7)) dX9_signHere_113 rfl ?_
            obtain ⟨e1, e2⟩ := rt_i h
            exact g_iret (pc := 115) X Y.2.2.1 (Nat.le_of_ble_eq_true rfl) (Nat.le_of_ble_eq_true rfl) e1 e2 dX9_signHere_115
          · have h := br_n c5 h
            by_cases c6 : (wI w v0 12) = 47
            · have h := br_y c6 h
              refine g_lsw (pc := 14) X (tgt := 119) (off := 105) dX9_signHere_14 (by decide) (by rw [c6]; rfl) rfl ?_
              refine g_bipush (pc := 119) X (v := (-9)) dX9_signHere_119 rfl ?_
              obtain ⟨e1, e2⟩ := rt_i h
              exact g_iret (pc := 121) X Y.2.2.1 (Nat.le_of_ble_eq_true rfl) (Nat.le_of_ble_eq_true rfl) e1 e2 dX9_signHere_121
            · have h := br_n c6 h
              by_cases c7 : (wI w v0 12) = 60
              · have h := br_y c7 h
                refine g_lsw (pc := 14) X (tgt := 101) (off := 87) dX9_signHere_14 (by decide) (by rw [c7]; rfl) rfl ?_
                refine g_bipush (pc := 101) X (v := (-3)) dX9_signHere_101 rfl ?_
                obtain ⟨e1, e2⟩ := rt_i h
                exact g_iret (pc := 103) X Y.2.2.1 (Nat.le_of_ble_eq_true rfl) (Nat.le_of_ble_eq_true rfl) e1 e2 dX9_signHere_103
              · have h := br_n c7 h
                by_cases c8 : (wI w v0 12) = 61
                · have h := br_y c8 h
                  refine g_lsw (pc := 14) X (tgt := 104) (off := 90) dX9_signHere_14 (by decide) (by rw [c8]; rfl) rfl ?_
                  refine g_bipush (pc := 104) X (v := (-4)) dX9_signHere_104 rfl ?_
                  obtain ⟨e1, e2⟩ := rt_i h
                  exact g_iret (pc := 106) X Y.2.2.1 (Nat.le_of_ble_eq_true rfl) (Nat.le_of_ble_eq_true rfl) e1 e2 dX9_signHere_106
                · have h := br_n c8 h
                  by_cases c9 : (wI w v0 12) = 62
                  · have h := br_y c9 h
                    refine g_lsw (pc := 14) X (tgt := 107) (off := 93) dX9_signHere_14 (by decide) (by rw [c9]; rfl) rfl ?_
                    refine g_bipush (pc := 107) X (v := (-5)) dX9_signHere_107 rfl ?_
                    obtain ⟨e1, e2⟩ := rt_i h
                    exact g_iret (pc := 109) X Y.2.2.1 (Nat.le_of_ble_eq_true rfl) (Nat.le_of_ble_eq_true rfl) e1 e2 dX9_signHere_109
                  · have h := br_n c9 h
                    by_cases c10 : (wI w v0 12) = 124
                    · have h := br_y c10 h
                      refine g_lsw (pc := 14) X (tgt := 96) (off := 82) dX9_signHere_14 (by decide) (by rw [c10]; rfl) rfl ?_
                      refine g_iconst (pc := 96) X (v := (-1)) dX9_signHere_96 rfl ?_
                      obtain ⟨e1, e2⟩ := rt_i h
                      exact g_iret (pc := 97) X Y.2.2.1 (Nat.le_of_ble_eq_true rfl) (Nat.le_of_ble_eq_true rfl) e1 e2 dX9_signHere_97
                    · have h := br_n c10 h
                      refine g_lsw (pc := 14) X (tgt := 122) (off := 108) dX9_signHere_14 (by decide) (by have n0 : Int32.toInt (wI w v0 12) ≠ 38 := nt_ c2; have n1 : Int32.toInt (wI w v0 12) ≠ 42 := nt_ c3; have n2 : Int32.toInt (wI w v0 12) ≠ 43 := nt_ c4; have n3 : Int32.toInt (wI w v0 12) ≠ 45 := nt_ c5; have n4 : Int32.toInt (wI w v0 12) ≠ 47 := nt_ c6; have n5 : Int32.toInt (wI w v0 12) ≠ 60 := nt_ c7; have n6 : Int32.toInt (wI w v0 12) ≠ 61 := nt_ c8; have n7 : Int32.toInt (wI w v0 12) ≠ 62 := nt_ c9; have n8 : Int32.toInt (wI w v0 12) ≠ 124 := nt_ c10; simp [Op.lookupswitch.offset, n0, Ne.symm n0, n1, Ne.symm n1, n2, Ne.symm n2, n3, Ne.symm n3, n4, Ne.symm n4, n5, Ne.symm n5, n6, Ne.symm n6, n7, Ne.symm n7, n8, Ne.symm n8]) rfl ?_
                      refine g_iconst (pc := 122) X (v := 0) dX9_signHere_122 rfl ?_
                      obtain ⟨e1, e2⟩ := rt_i h
                      exact g_iret (pc := 123) X Y.2.2.1 (Nat.le_of_ble_eq_true rfl) (Nat.le_of_ble_eq_true rfl) e1 e2 dX9_signHere_123
  · have h := br_n c h
    refine g_iconst (pc := 8) X (v := 0) dX9_signHere_8 rfl ?_
    obtain ⟨e1, e2⟩ := rt_i h
    exact g_iret (pc := 9) X Y.2.2.1 (Nat.le_of_ble_eq_true rfl) (Nat.le_of_ble_eq_true rfl) e1 e2 dX9_signHere_9

def j_X9_takesPart_87  (v0 : Nat) (s0 : Int32) (s1 : Int32) (s2 : Nat) (w : Wd) : Option (Int32 × Wd) := (if aK 11 w s2 s1 = true then
 (lb_ (sI w s2 (nx s1) s0) fun w10 =>
 (if wK w10 v0 = 9 then
 (lb_ (sI w10 v0 18 ((wI w10 v0 18) + 1)) fun w13 =>
 (lb_ (sI w13 v0 19 ((wI w13 v0 19) + 1)) fun w15 =>
 (bd2 (f_X9_settle v0 6 w15) fun r17 w18 =>
 (if wK w18 v0 = 9 then
 (bd2 (f_X9_go v0 w18) fun r21 w22 =>
 some (1, w22))
 else none))))
 else none))
 else none)
theorem bj_X9_takesPart_87 {t : Ct} {V : Vt} {r : Int32} {w' : Wd} (Y : Hd_ t V cX9_takesPart 2 RX9 { frames := 2, cells := 0, slots := 0, locals := 42 } (some .boolean) "takesPart") {v0 : Nat} {s0 : Int32} {s1 : Int32} {s2 : Nat} {w : Wd} (h : j_X9_takesPart_87  v0 s0 s1 s2 w = some (r, w')) : Gd t V 2 0 0 (Qe t V (some (.int r)) w' 0 0) 87 [(0, rf V v0)] [.int s0, .int s1, rf V s2] w := by
  have X := Y.1
  unfold j_X9_takesPart_87 at h
  obtain ⟨k9, h⟩ := gd_i h
  refine g_iast (pc := 87) X k9 dX9_takesPart_87 ?_
  obtain ⟨w10, e11, h⟩ := lb_i h
  refine g_w e11 ?_
  refine g_aload_n (pc := 88) X 0 rfl dX9_takesPart_88 ?_
  refine g_dup (pc := 89) X rfl dX9_takesPart_89 ?_
  obtain ⟨k12, h⟩ := gd_i h
  refine g_getI (pc := 90) X FcX9 k12 18 (by decide) rfl q_1038 dX9_takesPart_90 ?_
  refine g_iconst (pc := 93) X (v := 1) dX9_takesPart_93 rfl ?_
  refine g_iadd (pc := 94) X dX9_takesPart_94 ?_
  refine g_putI (pc := 95) X FcX9 k12 18 (by decide) rfl q_1038 rfl rfl rfl dX9_takesPart_95 ?_
  obtain ⟨w13, e14, h⟩ := lb_i h
  refine g_w e14 ?_
  refine g_aload_n (pc := 98) X 0 rfl dX9_takesPart_98 ?_
  refine g_dup (pc := 99) X rfl dX9_takesPart_99 ?_
  refine g_getI (pc := 100) X FcX9 (kd_I e14 k12) 19 (by decide) rfl q_1039 dX9_takesPart_100 ?_
  refine g_iconst (pc := 103) X (v := 1) dX9_takesPart_103 rfl ?_
  refine g_iadd (pc := 104) X dX9_takesPart_104 ?_
  refine g_putI (pc := 105) X FcX9 (kd_I e14 k12) 19 (by decide) rfl q_1039 rfl rfl rfl dX9_takesPart_105 ?_
  obtain ⟨w15, e16, h⟩ := lb_i h
  refine g_w e16 ?_
  refine g_aload_n (pc := 108) X 0 rfl dX9_takesPart_108 ?_
  refine g_bipush (pc := 109) X (v := 6) dX9_takesPart_109 rfl ?_
  obtain ⟨r17, w18, h19, h⟩ := bd2_i h
  refine g_callV (pc := 111) X FcX9 (kd_I e16 (kd_I e14 k12)) mk_X9_settle q_1421 q_60 q_1419 (c_X9_settle h19) rfl rfl (by rw [Y.2.1]; decide)  rfl (rest := []) rfl (Nat.le_of_ble_eq_true rfl) (by rw [Y.2.1]; exact ⟨Nat.le_of_ble_eq_true rfl, Nat.le_of_ble_eq_true rfl⟩) dX9_takesPart_111 (st' := []) rfl ?_
  refine g_aload_n (pc := 114) X 0 rfl dX9_takesPart_114 ?_
  obtain ⟨k20, h⟩ := gd_i h
  obtain ⟨r21, w22, h23, h⟩ := bd2_i h
  refine g_callV (pc := 115) X FcX9 k20 mk_X9_go q_1393 q_53 q_1391 (c_X9_go h23) rfl rfl (by rw [Y.2.1]; decide)  rfl (rest := []) rfl (Nat.le_of_ble_eq_true rfl) (by rw [Y.2.1]; exact ⟨Nat.le_of_ble_eq_true rfl, Nat.le_of_ble_eq_true rfl⟩) dX9_takesPart_115 (st' := []) rfl ?_
  refine g_iconst (pc := 118) X (v := 1) dX9_takesPart_118 rfl ?_
  obtain ⟨e1, e2⟩ := rt_i h
  exact g_zret (pc := 119) X Y.2.2.1 (Or.inr rfl) (Nat.le_of_ble_eq_true rfl) (Nat.le_of_ble_eq_true rfl) e1 e2 dX9_takesPart_119

def j_X9_takesPart_52  (v0 : Nat) (w : Wd) : Option (Int32 × Wd) := (if wK w v0 = 9 then
 (bd1 (wR w v0 17) fun a4 =>
 (if (wI w v0 11) = 2 then
 j_X9_takesPart_87 v0 (wI w v0 12) (wI w v0 18) a4 w
 else
 (bd2 (f_X9_nameOf v0 (wI w v0 12) w) fun r6 w7 =>
 j_X9_takesPart_87 v0 (10000 + r6) (wI w v0 18) a4 w7)))
 else none)
theorem bj_X9_takesPart_52 {t : Ct} {V : Vt} {r : Int32} {w' : Wd} (Y : Hd_ t V cX9_takesPart 2 RX9 { frames := 2, cells := 0, slots := 0, locals := 42 } (some .boolean) "takesPart") {v0 : Nat} {w : Wd} (h : j_X9_takesPart_52  v0 w = some (r, w')) : Gd t V 2 0 0 (Qe t V (some (.int r)) w' 0 0) 52 [(0, rf V v0)] [] w := by
  have X := Y.1
  unfold j_X9_takesPart_52 at h
  refine g_aload_n (pc := 52) X 0 rfl dX9_takesPart_52 ?_
  obtain ⟨k3, h⟩ := gd_i h
  obtain ⟨a4, e5, h⟩ := bd1_i h
  refine g_getR (pc := 53) X FcX9 k3 17 e5 (by decide) rfl q_1037 dX9_takesPart_53 ?_
  refine g_aload_n (pc := 56) X 0 rfl dX9_takesPart_56 ?_
  refine g_getI (pc := 57) X FcX9 k3 18 (by decide) rfl q_1038 dX9_takesPart_57 ?_
  refine g_aload_n (pc := 60) X 0 rfl dX9_takesPart_60 ?_
  refine g_getI (pc := 61) X FcX9 k3 11 (by decide) rfl q_1031 dX9_takesPart_61 ?_
  refine g_iconst (pc := 64) X (v := 2) dX9_takesPart_64 rfl ?_
  refine g_icmp_ne (pc := 65) X (tgt := 75) dX9_takesPart_65 rfl (fun c => ?_) (fun c => ?_)
  · have h := br_n c h
    refine g_sipush (pc := 75) X (v := 10000) dX9_takesPart_75 rfl ?_
    refine g_aload_n (pc := 78) X 0 rfl dX9_takesPart_78 ?_
    refine g_aload_n (pc := 79) X 0 rfl dX9_takesPart_79 ?_
    refine g_getI (pc := 80) X FcX9 k3 12 (by decide) rfl q_1032 dX9_takesPart_80 ?_
    obtain ⟨r6, w7, h8, h⟩ := bd2_i h
    refine g_callV (pc := 83) X FcX9 k3 mk_X9_nameOf q_1417 q_59 q_1415 (c_X9_nameOf h8) rfl rfl (by rw [Y.2.1]; decide)  rfl (rest := [.int 10000, .int (wI w v0 18), rf V a4]) rfl (Nat.le_of_ble_eq_true rfl) (by rw [Y.2.1]; exact ⟨Nat.le_of_ble_eq_true rfl, Nat.le_of_ble_eq_true rfl⟩) dX9_takesPart_83 (st' := [.int r6, .int 10000, .int (wI w v0 18), rf V a4]) rfl ?_
    refine g_iadd (pc := 86) X dX9_takesPart_86 ?_
    refine g_sub (lv' := [(0, rf V v0)]) [0] rfl ?_
    exact bj_X9_takesPart_87 Y  h
  · have h := br_y c h
    refine g_aload_n (pc := 68) X 0 rfl dX9_takesPart_68 ?_
    refine g_getI (pc := 69) X FcX9 k3 12 (by decide) rfl q_1032 dX9_takesPart_69 ?_
    refine g_goto (pc := 72) X (tgt := 87) dX9_takesPart_72 rfl ?_
    refine g_sub (lv' := [(0, rf V v0)]) [0] rfl ?_
    exact bj_X9_takesPart_87 Y  h

def j_X9_takesPart_37  (v0 : Nat) (s0 : Int32) (w : Wd) : Option (Int32 × Wd) := (if wK w v0 = 9 then
 (if (wI w v0 11) = 2 then
 j_X9_takesPart_52 v0 w
 else
 (if s0 = 0 then
 some (0, w)
 else
 j_X9_takesPart_52 v0 w))
 else none)
theorem bj_X9_takesPart_37 {t : Ct} {V : Vt} {r : Int32} {w' : Wd} (Y : Hd_ t V cX9_takesPart 2 RX9 { frames := 2, cells := 0, slots := 0, locals := 42 } (some .boolean) "takesPart") {v0 : Nat} {s0 : Int32} {w : Wd} (h : j_X9_takesPart_37  v0 s0 w = some (r, w')) : Gd t V 2 0 0 (Qe t V (some (.int r)) w' 0 0) 37 [(0, rf V v0)] [.int s0] w := by
  have X := Y.1
  unfold j_X9_takesPart_37 at h
  refine g_istore_n (pc := 37) X (lv' := [(1, .int s0), (0, rf V v0)]) dX9_takesPart_37 (by decide) rfl ?_
  refine g_aload_n (pc := 38) X 1 rfl dX9_takesPart_38 ?_
  obtain ⟨k2, h⟩ := gd_i h
  refine g_getI (pc := 39) X FcX9 k2 11 (by decide) rfl q_1031 dX9_takesPart_39 ?_
  refine g_iconst (pc := 42) X (v := 2) dX9_takesPart_42 rfl ?_
  refine g_icmp_eq (pc := 43) X (tgt := 52) dX9_takesPart_43 rfl (fun c => ?_) (fun c => ?_)
  · have h := br_y c h
    refine g_sub (lv' := [(0, rf V v0)]) [1] rfl ?_
    exact bj_X9_takesPart_52 Y  h
  · have h := br_n c h
    refine g_iload_n (pc := 46) X 0 rfl dX9_takesPart_46 ?_
    refine g_if_ne (pc := 47) X (tgt := 52) dX9_takesPart_47 rfl (fun c => ?_) (fun c => ?_)
    · have h := br_n c h
      refine g_sub (lv' := [(0, rf V v0)]) [1] rfl ?_
      exact bj_X9_takesPart_52 Y  h
    · have h := br_y c h
      refine g_iconst (pc := 50) X (v := 0) dX9_takesPart_50 rfl ?_
      obtain ⟨e1, e2⟩ := rt_i h
      exact g_zret (pc := 51) X Y.2.2.1 (Or.inl rfl) (Nat.le_of_ble_eq_true rfl) (Nat.le_of_ble_eq_true rfl) e1 e2 dX9_takesPart_51

def j_X9_takesPart_36  (v0 : Nat) (w : Wd) : Option (Int32 × Wd) := j_X9_takesPart_37 v0 0 w
theorem bj_X9_takesPart_36 {t : Ct} {V : Vt} {r : Int32} {w' : Wd} (Y : Hd_ t V cX9_takesPart 2 RX9 { frames := 2, cells := 0, slots := 0, locals := 42 } (some .boolean) "takesPart") {v0 : Nat} {w : Wd} (h : j_X9_takesPart_36  v0 w = some (r, w')) : Gd t V 2 0 0 (Qe t V (some (.int r)) w' 0 0) 36 [(0, rf V v0)] [] w := by
  have X := Y.1
  unfold j_X9_takesPart_36 at h
  refine g_iconst (pc := 36) X (v := 0) dX9_takesPart_36 rfl ?_
  refine g_sub (lv' := [(0, rf V v0)]) [0] rfl ?_
  exact bj_X9_takesPart_37 Y  h

def f_X9_takesPart (v0 : Nat) (w : Wd) : Option (Int32 × Wd) := (if wK w v0 = 9 then
 (if (wI w v0 11) = 1 then
 (if ((wI w v0 9) - (wI w v0 10)) = 1 then
 (bd2 (f_X9_nameOf v0 (wI w v0 12) w) fun r24 w25 =>
 (lb_ (if r24 < 0 then 0 else 1 : Int32) fun x27 =>
 (if wK w25 v0 = 9 then
 (if (wI w25 v0 11) = 2 then
 j_X9_takesPart_52 v0 w25
 else
 (if x27 = 0 then
 some (0, w25)
 else
 j_X9_takesPart_52 v0 w25))
 else none)))
 else
 j_X9_takesPart_36 v0 w)
 else
 j_X9_takesPart_36 v0 w)
 else none)
theorem c_X9_takesPart {l : Launch} {V : Vt} {v0 : Nat} {w w' : Wd} {r : Int32} (h : f_X9_takesPart v0 w = some (r, w')) : MetW l V yX9_takesPart cX9_takesPart 2 (some .boolean) { frames := 2, cells := 0, slots := 0, locals := 42 } w [rf V v0] (some (.int r)) w' 0 0 := by
  refine g_start (by decide) (Nat.le_of_ble_eq_true rfl) ?_
  intro t _ hrm X hret hnm
  have Y : Hd_ t V cX9_takesPart 2 RX9 { frames := 2, cells := 0, slots := 0, locals := 42 } (some .boolean) "takesPart" := ⟨X, hrm, hret, hnm⟩
  refine g_as (lv' := [(0, rf V v0)]) (st' := []) rfl rfl ?_
  unfold f_X9_takesPart at h
  refine g_aload_n (pc := 0) X 0 rfl dX9_takesPart_0 ?_
  obtain ⟨k1, h⟩ := gd_i h
  refine g_getI (pc := 1) X FcX9 k1 11 (by decide) rfl q_1031 dX9_takesPart_1 ?_
  refine g_iconst (pc := 4) X (v := 1) dX9_takesPart_4 rfl ?_
  refine g_icmp_ne (pc := 5) X (tgt := 36) dX9_takesPart_5 rfl (fun c => ?_) (fun c => ?_)
  · have h := br_n c h
    refine g_sub (lv' := [(0, rf V v0)]) [0] rfl ?_
    exact bj_X9_takesPart_36 Y  h
  · have h := br_y c h
    refine g_aload_n (pc := 8) X 0 rfl dX9_takesPart_8 ?_
    refine g_getI (pc := 9) X FcX9 k1 9 (by decide) rfl q_1029 dX9_takesPart_9 ?_
    refine g_aload_n (pc := 12) X 0 rfl dX9_takesPart_12 ?_
    refine g_getI (pc := 13) X FcX9 k1 10 (by decide) rfl q_1030 dX9_takesPart_13 ?_
    refine g_isub (pc := 16) X dX9_takesPart_16 ?_
    refine g_iconst (pc := 17) X (v := 1) dX9_takesPart_17 rfl ?_
    refine g_icmp_ne (pc := 18) X (tgt := 36) dX9_takesPart_18 rfl (fun c => ?_) (fun c => ?_)
    · have h := br_n c h
      refine g_sub (lv' := [(0, rf V v0)]) [0] rfl ?_
      exact bj_X9_takesPart_36 Y  h
    · have h := br_y c h
      refine g_aload_n (pc := 21) X 0 rfl dX9_takesPart_21 ?_
      refine g_aload_n (pc := 22) X 0 rfl dX9_takesPart_22 ?_
      refine g_getI (pc := 23) X FcX9 k1 12 (by decide) rfl q_1032 dX9_takesPart_23 ?_
      obtain ⟨r24, w25, h26, h⟩ := bd2_i h
      refine g_callV (pc := 26) X FcX9 k1 mk_X9_nameOf q_1417 q_59 q_1415 (c_X9_nameOf h26) rfl rfl (by rw [Y.2.1]; decide)  rfl (rest := []) rfl (Nat.le_of_ble_eq_true rfl) (by rw [Y.2.1]; exact ⟨Nat.le_of_ble_eq_true rfl, Nat.le_of_ble_eq_true rfl⟩) dX9_takesPart_26 (st' := [.int r24]) rfl ?_
      have kJ : Gd t V 2 0 0 (Qe t V (some (.int r)) w' 0 0) 37 [(0, rf V v0)] [.int (if r24 < 0 then 0 else 1 : Int32)] w25 := by
        obtain ⟨x27, e28, h⟩ := lb_i h
        refine g_top e28 ?_
        refine g_istore_n (pc := 37) X (lv' := [(1, .int x27), (0, rf V v0)]) dX9_takesPart_37 (by decide) rfl ?_
        refine g_aload_n (pc := 38) X 1 rfl dX9_takesPart_38 ?_
        obtain ⟨k29, h⟩ := gd_i h
        refine g_getI (pc := 39) X FcX9 k29 11 (by decide) rfl q_1031 dX9_takesPart_39 ?_
        refine g_iconst (pc := 42) X (v := 2) dX9_takesPart_42 rfl ?_
        refine g_icmp_eq (pc := 43) X (tgt := 52) dX9_takesPart_43 rfl (fun c => ?_) (fun c => ?_)
        · have h := br_y c h
          refine g_sub (lv' := [(0, rf V v0)]) [1] rfl ?_
          exact bj_X9_takesPart_52 Y  h
        · have h := br_n c h
          refine g_iload_n (pc := 46) X 0 rfl dX9_takesPart_46 ?_
          refine g_if_ne (pc := 47) X (tgt := 52) dX9_takesPart_47 rfl (fun c => ?_) (fun c => ?_)
          · have h := br_n c h
            refine g_sub (lv' := [(0, rf V v0)]) [1] rfl ?_
            exact bj_X9_takesPart_52 Y  h
          · have h := br_y c h
            refine g_iconst (pc := 50) X (v := 0) dX9_takesPart_50 rfl ?_
            obtain ⟨e1, e2⟩ := rt_i h
            exact g_zret (pc := 51) X Y.2.2.1 (Or.inl rfl) (Nat.le_of_ble_eq_true rfl) (Nat.le_of_ble_eq_true rfl) e1 e2 dX9_takesPart_51
      refine g_if_lt (pc := 29) X (tgt := 36) dX9_takesPart_29 rfl (fun c0 => ?_) (fun c0 => ?_)
      · refine g_iconst (pc := 36) X (v := 0) dX9_takesPart_36 rfl ?_
        exact g_top (by rw [if_pos c0]) kJ
      · refine g_iconst (pc := 32) X (v := 1) dX9_takesPart_32 rfl ?_
        refine g_goto (pc := 33) X (tgt := 37) dX9_takesPart_33 rfl ?_
        exact g_top (by rw [if_neg c0]) kJ

def L_X9_notsOpen_4  (n : Nat) (v0 : Nat) (v1 : Int32) (v2 : Int32) (w : Wd) : Option (Int32 × Wd) := match n with
  | 0 => none
  | n + 1 => (if wK w v0 = 9 then
 (if (wI w v0 21) ≤ v2 then
 some (v1, w)
 else
 (bd1 (wR w v0 20) fun a2 =>
 (if aK 11 w a2 v2 = true then
 (lb_ (v1 + (if (wI w a2 (nx v2)) = (-10) then 1 else 0 : Int32)) fun x5 =>
 (lb_ (v2 + 1) fun x7 =>
 L_X9_notsOpen_4 n v0 x5 x7 w))
 else none)))
 else none)
theorem bL_X9_notsOpen_4 {t : Ct} {V : Vt} {r : Int32} {w' : Wd} (Y : Hd_ t V cX9_notsOpen 3 RX9 { frames := 0, cells := 0, slots := 0, locals := 0 } (some .int) "notsOpen") : ∀ {n : Nat} {v0 : Nat} {v1 : Int32} {v2 : Int32} {w : Wd}, L_X9_notsOpen_4  n v0 v1 v2 w = some (r, w') → Gd t V 3 0 0 (Qe t V (some (.int r)) w' 0 0) 4 [(0, rf V v0), (1, .int v1), (2, .int v2)] [] w := by
  have X := Y.1
  intro n
  induction n with
  | zero => intro v0 v1 v2 w h; cases h
  | succ n ih0 =>
    have ih : ∀ (v0 : Nat) (v1 : Int32) (v2 : Int32) (w : Wd), L_X9_notsOpen_4  n v0 v1 v2 w = some (r, w') → Gd t V 3 0 0 (Qe t V (some (.int r)) w' 0 0) 4 [(0, rf V v0), (1, .int v1), (2, .int v2)] [] w := fun v0 v1 v2 w h => ih0 h
    clear ih0
    intro v0 v1 v2 w h
    unfold L_X9_notsOpen_4 at h
    refine g_iload_n (pc := 4) X 2 rfl dX9_notsOpen_4 ?_
    refine g_aload_n (pc := 5) X 0 rfl dX9_notsOpen_5 ?_
    obtain ⟨k1, h⟩ := gd_i h
    refine g_getI (pc := 6) X FcX9 k1 21 (by decide) rfl q_1041 dX9_notsOpen_6 ?_
    refine g_icmp_ge (pc := 9) X (tgt := 37) dX9_notsOpen_9 rfl (fun c => ?_) (fun c => ?_)
    · have h := br_y c h
      refine g_iload_n (pc := 37) X 1 rfl dX9_notsOpen_37 ?_
      obtain ⟨e1, e2⟩ := rt_i h
      exact g_iret (pc := 38) X Y.2.2.1 (Nat.le_of_ble_eq_true rfl) (Nat.le_of_ble_eq_true rfl) e1 e2 dX9_notsOpen_38
    · have h := br_n c h
      refine g_iload_n (pc := 12) X 1 rfl dX9_notsOpen_12 ?_
      refine g_aload_n (pc := 13) X 0 rfl dX9_notsOpen_13 ?_
      obtain ⟨a2, e3, h⟩ := bd1_i h
      refine g_getR (pc := 14) X FcX9 k1 20 e3 (by decide) rfl q_1040 dX9_notsOpen_14 ?_
      refine g_iload_n (pc := 17) X 2 rfl dX9_notsOpen_17 ?_
      obtain ⟨k4, h⟩ := gd_i h
      refine g_iald (pc := 18) X k4 dX9_notsOpen_18 ?_
      refine g_bipush (pc := 19) X (v := (-10)) dX9_notsOpen_19 rfl ?_
      have kJ : Gd t V 3 0 0 (Qe t V (some (.int r)) w' 0 0) 29 [(0, rf V v0), (1, .int v1), (2, .int v2)] [.int (if (wI w a2 (nx v2)) = (-10) then 1 else 0 : Int32), .int v1] w := by
        refine g_iadd (pc := 29) X dX9_notsOpen_29 ?_
        obtain ⟨x5, e6, h⟩ := lb_i h
        refine g_top e6 ?_
        refine g_istore_n (pc := 30) X (lv' := [(1, .int x5), (0, rf V v0), (2, .int v2)]) dX9_notsOpen_30 (by decide) rfl ?_
        obtain ⟨x7, e8, h⟩ := lb_i h
        refine g_iinc (pc := 31) X 2 rfl dX9_notsOpen_31 (v := x7) e8.symm (by decide) (lv' := [(2, .int x7), (1, .int x5), (0, rf V v0)]) rfl ?_
        refine g_goto (pc := 34) X (tgt := 4) dX9_notsOpen_34 rfl ?_
        refine g_sub (lv' := [(0, rf V v0), (1, .int x5), (2, .int x7)]) [2, 1, 0] rfl ?_
        exact ih _ _ _ _ h
      refine g_icmp_ne (pc := 21) X (tgt := 28) dX9_notsOpen_21 rfl (fun c0 => ?_) (fun c0 => ?_)
      · refine g_iconst (pc := 28) X (v := 0) dX9_notsOpen_28 rfl ?_
        exact g_top (by rw [if_neg c0]) kJ
      · refine g_iconst (pc := 24) X (v := 1) dX9_notsOpen_24 rfl ?_
        refine g_goto (pc := 25) X (tgt := 29) dX9_notsOpen_25 rfl ?_
        exact g_top (by rw [if_pos c0]) kJ

def f_X9_notsOpen (v0 : Nat) (w : Wd) : Option (Int32 × Wd) := L_X9_notsOpen_4 FU v0 0 0 w
theorem c_X9_notsOpen {l : Launch} {V : Vt} {v0 : Nat} {w w' : Wd} {r : Int32} (h : f_X9_notsOpen v0 w = some (r, w')) : MetW l V yX9_notsOpen cX9_notsOpen 3 (some .int) { frames := 0, cells := 0, slots := 0, locals := 0 } w [rf V v0] (some (.int r)) w' 0 0 := by
  refine g_start (by decide) (Nat.le_of_ble_eq_true rfl) ?_
  intro t _ hrm X hret hnm
  have Y : Hd_ t V cX9_notsOpen 3 RX9 { frames := 0, cells := 0, slots := 0, locals := 0 } (some .int) "notsOpen" := ⟨X, hrm, hret, hnm⟩
  refine g_as (lv' := [(0, rf V v0)]) (st' := []) rfl rfl ?_
  unfold f_X9_notsOpen at h
  refine g_iconst (pc := 0) X (v := 0) dX9_notsOpen_0 rfl ?_
  refine g_istore_n (pc := 1) X (lv' := [(1, .int 0), (0, rf V v0)]) dX9_notsOpen_1 (by decide) rfl ?_
  refine g_iconst (pc := 2) X (v := 0) dX9_notsOpen_2 rfl ?_
  refine g_istore_n (pc := 3) X (lv' := [(2, .int 0), (1, .int 0), (0, rf V v0)]) dX9_notsOpen_3 (by decide) rfl ?_
  refine g_sub (lv' := [(0, rf V v0), (1, .int 0), (2, .int 0)]) [2, 1, 0] rfl ?_
  exact bL_X9_notsOpen_4 Y  h

