/-! ROWS OF THE FLAT WORLD: arrays, new cells, calls, ends -/
def ib (i : Int32) (n : Nat) : Bool := decide (0 ≤ i.toInt) && decide (i.toInt < (n : Int))
abbrev nx (i : Int32) : Nat := i.toNatClampNeg
theorem ib_in {i : Int32} {n : Nat} (h : ib i n = true) : vp_in i n := by
  simp only [ib, Bool.and_eq_true, decide_eq_true_eq] at h
  exact vp_in_iff.mpr h
theorem ib_of {i : Int32} {n : Nat} (h : vp_in i n) : ib i n = true := by
  simp only [ib, Bool.and_eq_true, decide_eq_true_eq]
  exact vp_in_iff.mp h
theorem ib_nI {k n : Nat} (h : k < n) (hn : n < 2 ^ 31) : ib (nI k) n = true := ib_of (vp_in_nI h hn)
theorem enc_sIa {V : Vt} {w : Wd} {a k : Nat} {f : Nat → Int32} (hk : wK w a = k) (h : ¬ k < 10) (h2 : k < 13) : enc V (sF w a f) a = .inl (V.2.2.1 k, wL w a, .inl f) := by
  have := enc_int (V := V) (w := sF w a f) (a := a) (k := k) hk h h2
  rw [this]
  have : wI (sF w a f) a = f := va_up_self _ _ _
  rw [this]; rfl
theorem enc_sRa {V : Vt} {w : Wd} {a k j : Nat} {v : Option Nat} (hk : wK w a = k) (h2 : ¬ k < 13) : enc V (sR w a j v) a = .inl (V.2.2.1 k, wL w a, .inr (.inr (.inr (.inr (fun i => (va_up (wR w a) j v i).map (fun k => V.1 + k)))))) := by
  have := enc_ref (V := V) (w := sR w a j v) (a := a) (k := k) hk h2
  rw [this]
  have : wR (sR w a j v) a = va_up (wR w a) j v := va_up_self _ _ _
  rw [this]; rfl
section GR2
variable {t : Ct} {V : Vt} {cc : ByteArray} {nL ce sl : Nat} {own : String} {Q : State → Prop} {pc : Nat} {lv : List (Nat × Value)} {st : List Value} {w : Wd}
theorem g_iaload (X : Cx t V cc nL own) {a : Nat} {i : Int32} (hk : wK w a = 11) (hi : ib i (wL w a) = true) (d : decode cc pc = .ok (.iaload, 1)) (kk : Gd t V nL ce sl Q (pc + 1) lv (.int (wI w a (nx i)) :: st) w) : Gd t V nL ce sl Q pc lv (.int i :: rf V a :: st) w :=
  fun H locs ls h1 h2 h3 => va_iald X.1 X.2.1 X.2.2.2.2.2.2.1 (h1.int hk (by decide) (by decide)) 0 1 rfl rfl (ib_in hi) d (kk H locs ls h1 h2 h3)
theorem g_caload (X : Cx t V cc nL own) {a : Nat} {i : Int32} (hk : wK w a = 10) (hi : ib i (wL w a) = true) (d : decode cc pc = .ok (.caload, 1)) (kk : Gd t V nL ce sl Q (pc + 1) lv (.int (wI w a (nx i)) :: st) w) : Gd t V nL ce sl Q pc lv (.int i :: rf V a :: st) w :=
  fun H locs ls h1 h2 h3 => va_cald X.1 X.2.1 X.2.2.2.2.2.2.1 (h1.int hk (by decide) (by decide)) 0 0 rfl rfl (ib_in hi) d (kk H locs ls h1 h2 h3)
theorem g_baload (X : Cx t V cc nL own) {a : Nat} {i : Int32} (hk : wK w a = 12) (hi : ib i (wL w a) = true) (d : decode cc pc = .ok (.baload, 1)) (kk : Gd t V nL ce sl Q (pc + 1) lv (.int (wI w a (nx i)) :: st) w) : Gd t V nL ce sl Q pc lv (.int i :: rf V a :: st) w :=
  fun H locs ls h1 h2 h3 => va_zald X.1 X.2.1 X.2.2.2.2.2.2.1 (h1.int hk (by decide) (by decide)) 0 2 rfl rfl (ib_in hi) d (kk H locs ls h1 h2 h3)
theorem g_alen (X : Cx t V cc nL own) {a : Nat} (hk : wK w a = 11) (d : decode cc pc = .ok (.arraylength, 1)) (kk : Gd t V nL ce sl Q (pc + 1) lv (.int (nI (wL w a)) :: st) w) : Gd t V nL ce sl Q pc lv (rf V a :: st) w :=
  fun H locs ls h1 h2 h3 => va_alen X.1 X.2.1 X.2.2.2.2.2.2.1 (h1.int hk (by decide) (by decide)) 0 1 rfl rfl rfl d (kk H locs ls h1 h2 h3)
theorem g_aaload (X : Cx t V cc nL own) {a b k : Nat} {C : String} {i : Int32} (hk : wK w a = k) (hk1 : ¬ k < 13) (hk2 : k < 17) (ht : (tyl V)[k - 10]? = some (V.2.2.1 k, .object C)) (hi : ib i (wL w a) = true) (hr : wR w a (nx i) = some b) (d : decode cc pc = .ok (.aaload, 1)) (kk : Gd t V nL ce sl Q (pc + 1) lv (rf V b :: st) w) : Gd t V nL ce sl Q pc lv (.int i :: rf V a :: st) w := by
  intro H locs ls h1 h2 h3
  refine va_aldq X.1 X.2.1 X.2.2.2.2.2.2.1 (h1.refs hk hk1 (by omega)) 0 (k - 10) rfl ht (ib_in hi) d ?_
  have e : va_rf ((wR w a i.toNatClampNeg).map (fun k => V.1 + k)) = rf V b := by
    have hr' : wR w a i.toNatClampNeg = some b := hr
    rw [hr']; rfl
  rw [e]
  exact kk H locs ls h1 h2 h3
theorem g_iastore (X : Cx t V cc nL own) {a : Nat} {i x : Int32} (hk : wK w a = 11) (hi : ib i (wL w a) = true) (d : decode cc pc = .ok (.iastore, 1)) (kk : Gd t V nL ce sl Q (pc + 1) lv st (sI w a (nx i) x)) : Gd t V nL ce sl Q pc lv (.int x :: .int i :: rf V a :: st) w := by
  intro H locs ls h1 h2 h3
  have hP := h1.int hk (by decide) (by decide)
  have hl := h1.lt hk (by decide)
  refine W.iast X.1 X.2.1 (hP 0 _ rfl) ((X.2.2.2.2.2.2.1.2 1 _ rfl).1 (wL w a) (fun j => .int (wI w a j))) (fun q => by cases q) (by show ¬ (i < 0 ∨ (arrV _ _ _).slots.size ≤ _); rw [arrV_size]; exact ib_in hi) rfl rfl d fun H1 e z oq => ?_
  refine kk H1 _ ls (h1.set hl rfl (fun _ => rfl) (fun b hb => enc_sF hb) z oq ?_) (h2.put z oq (Nat.le_add_right _ _)) h3
  rw [show sI w a (nx i) x = sF w a (upd (wI w a) (nx i) x) from rfl, enc_sIa hk (by decide) (by decide)]
  show H1[V.1 + a]? = some (vp_cell _ _)
  rw [e, vp_cell_i, vp_cell_i, arrV_store]
  congr 2
  funext q
  by_cases hq : q = i.toNatClampNeg
  · subst hq
    simp [updV, upd]
  · simp [updV, upd, hq]
theorem g_bastore (X : Cx t V cc nL own) {a : Nat} {i x : Int32} (hk : wK w a = 12) (hi : ib i (wL w a) = true) (hx : narrow .boolean (.int x) = .int x) (d : decode cc pc = .ok (.bastore, 1)) (kk : Gd t V nL ce sl Q (pc + 1) lv st (sI w a (nx i) x)) : Gd t V nL ce sl Q pc lv (.int x :: .int i :: rf V a :: st) w := by
  intro H locs ls h1 h2 h3
  have hP := h1.int hk (by decide) (by decide)
  have hl := h1.lt hk (by decide)
  refine W.zast X.1 X.2.1 (hP 0 _ rfl) ((X.2.2.2.2.2.2.1.2 2 _ rfl).1 (wL w a) (fun j => .int (wI w a j))) (fun q => by cases q) (by show ¬ (i < 0 ∨ (arrV _ _ _).slots.size ≤ _); rw [arrV_size]; exact ib_in hi) rfl rfl d fun H1 e z oq => ?_
  refine kk H1 _ ls (h1.set hl rfl (fun _ => rfl) (fun b hb => enc_sF hb) z oq ?_) (h2.put z oq (Nat.le_add_right _ _)) h3
  rw [show sI w a (nx i) x = sF w a (upd (wI w a) (nx i) x) from rfl, enc_sIa hk (by decide) (by decide)]
  show H1[V.1 + a]? = some (vp_cell _ _)
  rw [e, hx, vp_cell_i, vp_cell_i, arrV_store]
  congr 2
  funext q
  by_cases hq : q = i.toNatClampNeg
  · subst hq
    simp [updV, upd]
  · simp [updV, upd, hq]
theorem g_castore (X : Cx t V cc nL own) {a : Nat} {i x : Int32} (hk : wK w a = 10) (hi : ib i (wL w a) = true) (hx : narrow .char (.int x) = .int x) (d : decode cc pc = .ok (.castore, 1)) (kk : Gd t V nL ce sl Q (pc + 1) lv st (sI w a (nx i) x)) : Gd t V nL ce sl Q pc lv (.int x :: .int i :: rf V a :: st) w := by
  intro H locs ls h1 h2 h3
  have hP := h1.int hk (by decide) (by decide)
  have hl := h1.lt hk (by decide)
  refine W.cast X.1 X.2.1 (hP 0 _ rfl) ((X.2.2.2.2.2.2.1.2 0 _ rfl).1 (wL w a) (fun j => .int (wI w a j))) (fun q => by cases q) (by show ¬ (i < 0 ∨ (arrV _ _ _).slots.size ≤ _); rw [arrV_size]; exact ib_in hi) rfl rfl d fun H1 e z oq => ?_
  refine kk H1 _ ls (h1.set hl rfl (fun _ => rfl) (fun b hb => enc_sF hb) z oq ?_) (h2.put z oq (Nat.le_add_right _ _)) h3
  rw [show sI w a (nx i) x = sF w a (upd (wI w a) (nx i) x) from rfl, enc_sIa hk (by decide) (by decide)]
  show H1[V.1 + a]? = some (vp_cell _ _)
  rw [e, hx, vp_cell_i, vp_cell_i, arrV_store]
  congr 2
  funext q
  by_cases hq : q = i.toNatClampNeg
  · subst hq
    simp [updV, upd]
  · simp [updV, upd, hq]
theorem g_aastore (X : Cx t V cc nL own) {a b k ci : Nat} {C : String} {T : u_T} {N : Nat} {ty : Nat → FieldType} {i : Int32} (F : Fc ci C T N ty) (hb : wK w b = ci) (hk : wK w a = k) (hk1 : ¬ k < 13) (hk2 : k < 17) (ht : (tyl V)[k - 10]? = some (V.2.2.1 k, .object C)) (hi : ib i (wL w a) = true) (d : decode cc pc = .ok (.aastore, 1)) (kk : Gd t V nL ce sl Q (pc + 1) lv st (sR w a (nx i) (some b))) : Gd t V nL ce sl Q pc lv (rf V b :: .int i :: rf V a :: st) w := by
  intro H locs ls h1 h2 h3
  have hP := h1.refs hk hk1 (by omega)
  have hO := h1.obj hb F.2.1
  have hl := h1.lt hk (by omega)
  have hin := ib_in hi
  have hlt : i.toNatClampNeg < wL w a := Nat.not_le.mp fun q => hin (Or.inr q)
  have h0 : ¬ i < 0 := fun q => hin (Or.inl q)
  have hK := X.2.2.2.2.2.2.1
  obtain ⟨r', hr', cellV, g1, g2, g3, -⟩ := hO 0 _ rfl
  have hcls := (hK.1 ci _ F.1).2
  obtain ⟨kA, comp, k1, k2, k3, -⟩ := (hK.2 (k - 10) _ ht).2
  have hcomp : comp = V.2.1.1 ci := Option.some.inj (k3.symm.trans hcls.1)
  subst hcomp
  obtain ⟨kC, hkC, -⟩ := hcls.2
  refine W.aast X.1 X.2.1 (hP 0 _ rfl) (fun q h => by cases h) (fun h => by cases h) k1 k2 rfl hkC ⟨h0, by show _ < (arrV _ _ _).slots.size; rw [arrV_size]; exact hlt⟩ g1 (fun q h => by rw [g3] at h; cases h) (by rw [g2]; exact hkC) (by rw [g2]; exact va_assign hcls) rfl rfl d fun H1 e z oq => ?_
  refine kk H1 _ ls (h1.set hl rfl (fun _ => rfl) (fun b hb => enc_sR hb) z oq ?_) (h2.put z oq (Nat.le_add_right _ _)) h3
  rw [enc_sRa hk hk1]
  show H1[V.1 + a]? = some (vp_cell _ _)
  rw [e, vp_cell_q, vp_cell_q, arrV_store]
  congr 2
  funext q
  by_cases hq : q = i.toNatClampNeg
  · subst hq
    simp [updV, va_up, va_rf]
  · simp [updV, va_up, hq]
/-! new cells -/
theorem g_new (X : Cx t V cc nL own) {ci index : Nat} {C : String} {T : u_T} {N : Nat} {ty : Nat → FieldType} (F : Fc ci C T N ty) (hdf : ∀ j, j < N → defaultValue (ty j) = if frf ci j = true then Value.null else .int 0) (q1 : Cond.classLink own index C ∈ gw) (q2 : Cond.instantiable C N ∈ gw) (q3 : Cond.initialized C ∈ gw) (hc : ce + 1 ≤ (tR t).cells) (hs : sl + N ≤ (tR t).slots) (d : decode cc pc = .ok (.new index, 3)) (kk : Gd t V nL (ce + 1) (sl + N) Q (pc + 3) lv (rf V (wN w) :: st) (nC w ci N)) : Gd t V nL ce sl Q pc lv st w := by
  intro H locs ls h1 h2 h3
  have hts := X.2.2.2.2.1
  have hKn := X.2.2.2.2.2.2.1.1 ci _ F.1
  refine W.newcK X.1 X.2.1 X.2.2.2.1 (hts _ q1) (hts _ q2) (hts _ q3) rfl d hc hs hKn.2.1 h1.1 fun H1 kC hkC e1 z1 o1 => ?_
  refine kk H1 locs ls (h1.new ci N (by rw [h1.1]; exact z1) (fun q hq => o1 q (by rw [← h1.1]; exact hq)) ?_) ⟨by have := h2.1; rw [h1.1] at this; omega, fun q g1 g2 => (o1 q (by have := h2.1; rw [h1.1] at this; omega)).trans (h2.2.1 q g1 g2), h2.2.2⟩ h3
  have ek : wK (nC w ci N) (wN w) = ci := va_up_self _ _ _
  rw [enc_obj ek F.2.1]
  refine ⟨_, F.1, (u_born ty hts F.2.2.2.1 hKn hkC e1 F.2.2.2.2.1).to (fun j hj => ?_)⟩
  have e3 : wI (nC w ci N) (wN w) = fun _ => 0 := va_up_self _ _ _
  have e4 : wR (nC w ci N) (wN w) = fun _ => none := va_up_self _ _ _
  have hj' : j < fN ci := by rw [F.2.2.1]; exact hj
  rw [hdf j hj, vp_V, List.getD_eq_getElem?_getD, fvs_at hj', fv, e3, e4]
  rfl
theorem g_newarr (X : Cx t V cc nL own) {atype : ArrayType} {k : Nat} {fty : FieldType} (hty : newarray.typeOf atype = fty) (hk1 : ¬ k < 10) (hk2 : k < 13) (ht : (tyl V)[k - 10]? = some (V.2.2.1 k, fty)) (hra : ∀ (U : State) (c : ClassId), va_RA U c fty → U.vm.findClass ("[" ++ fty.toString) = some c) (hdv : defaultValue fty = .int 0) (q : Cond.arrayClass fty ∈ gw) {n : Int32} {N : Nat} (hn : ¬ n < 0) (hN : n.toNatClampNeg = N) (hb : N * componentBytes fty ≤ 536870912) (hc : ce + 1 ≤ (tR t).cells) (hs : sl + N ≤ (tR t).slots) (d : decode cc pc = .ok (.newarray atype, 2)) (kk : Gd t V nL (ce + 1) (sl + N) Q (pc + 2) lv (rf V (wN w) :: st) (nC w k N)) : Gd t V nL ce sl Q pc lv (.int n :: st) w := by
  subst hty
  intro H locs ls h1 h2 h3
  refine va_newaK X.1 X.2.1 (X.2.2.2.2.1 _ q) rfl d rfl hn hN hb hc hs h1.1 fun H1 cA e1 z1 o1 hAr hNm => ?_
  have hcA : cA = V.2.2.1 k := Option.some.inj (hNm.symm.trans (hra _ _ (X.2.2.2.2.2.2.1.2 (k - 10) _ ht).2))
  subst hcA
  refine kk H1 locs ls (h1.new k N (by rw [h1.1]; exact z1) (fun q hq => o1 q (by rw [← h1.1]; exact hq)) ?_) ⟨by have := h2.1; rw [h1.1] at this; omega, fun q g1 g2 => (o1 q (by have := h2.1; rw [h1.1] at this; omega)).trans (h2.2.1 q g1 g2), h2.2.2⟩ h3
  have ek : wK (nC w k N) (wN w) = k := va_up_self _ _ _
  have e2 : wL (nC w k N) (wN w) = N := va_up_self _ _ _
  have e3 : wI (nC w k N) (wN w) = fun _ => 0 := va_up_self _ _ _
  rw [enc_int ek hk1 hk2, e2, e3]
  show H1[V.1 + wN w]? = some (vp_cell _ _)
  rw [vp_cell_i, e1, hdv]
theorem g_anew (X : Cx t V cc nL own) {C : String} {k index : Nat} (hk1 : ¬ k < 13) (hk2 : k < 17) (ht : (tyl V)[k - 10]? = some (V.2.2.1 k, .object C)) (q : Cond.classLink own index C ∈ gw) (ha : C ∈ aoL) {n : Int32} {N : Nat} (hn : ¬ n < 0) (hN : n.toNatClampNeg = N) (hb : N * 4 ≤ 536870912) (hc : ce + 1 ≤ (tR t).cells) (hs : sl + N ≤ (tR t).slots) (d : decode cc pc = .ok (.anewarray index, 3)) (kk : Gd t V nL (ce + 1) (sl + N) Q (pc + 3) lv (rf V (wN w) :: st) (nC w k N)) : Gd t V nL ce sl Q pc lv (.int n :: st) w := by
  subst hN
  intro H locs ls h1 h2 h3
  refine W.anew X.1 X.2.1 X.2.2.2.1 (X.2.2.2.2.1 _ q) (va_AO.use (X.2.2.2.2.2.2.2.2.1 C ha)) rfl d rfl hn hb hc hs fun cA kA comp f1 f2 f3 f4 => ?_
  obtain ⟨kA', comp', k1, k2, k3, k4⟩ := (X.2.2.2.2.2.2.1.2 (k - 10) _ ht).2
  have hcA : cA = V.2.2.1 k := Option.some.inj (f1.symm.trans k4)
  subst hcA
  generalize hH1 : H.push ({ cls := V.2.2.1 k, slots := Array.replicate n.toNatClampNeg .null, vm := .none } : Cell) = H1
  have z1 : H1.size = H.size + 1 := by rw [← hH1, Array.size_push]
  have e1 : H1[H.size]? = some (arrV (V.2.2.1 k) n.toNatClampNeg (fun _ => .null)) := by rw [← hH1, Array.getElem?_push_size, ← arrV_new]
  have o1 : ∀ q : Nat, q < H.size → H1[q]? = H[q]? := fun q hq => by rw [← hH1, Array.getElem?_push, if_neg (Nat.ne_of_lt hq)]
  rw [h1.1] at e1
  have hz : F0 (tM t) (pc + 3) ls (.ref H.size :: st) = F0 (tM t) (pc + 3) ls (rf V (wN w) :: st) := by rw [h1.1]
  refine W.eq hz ?_
  refine kk H1 locs ls (h1.new k _ z1 o1 ?_) ⟨by have := h2.1; omega, fun q g1 g2 => (o1 q (by have := h2.1; omega)).trans (h2.2.1 q g1 g2), h2.2.2⟩ h3
  have ek : wK (nC w k n.toNatClampNeg) (wN w) = k := va_up_self _ _ _
  have e2 : wL (nC w k n.toNatClampNeg) (wN w) = n.toNatClampNeg := va_up_self _ _ _
  have e4 : wR (nC w k n.toNatClampNeg) (wN w) = fun _ => none := va_up_self _ _ _
  rw [enc_ref ek hk1, e2, e4]
  show H1[V.1 + wN w]? = some (vp_cell _ _)
  rw [vp_cell_q, e1]
  rfl
theorem g_objInit (X : Cx t V cc nL own) {idx a : Nat} (q1 : Cond.methodLink own idx Lib.objectInit ∈ gw) (q2 : Cond.instanceMethod Lib.objectInit ∈ gw) (q3 : Cond.code Lib.objectInit ⟨#[0xb1]⟩ 1 none ∈ gw) (hf : 1 ≤ (tR t).frames) (hlo : 0 + (st.map fun v => v.category).sum + 12 ≤ (tR t).locals) (d : decode cc pc = .ok (.invokespecial idx, 3)) (kk : Gd t V nL ce sl Q (pc + 3) lv st w) : Gd t V nL ce sl Q pc lv (rf V a :: st) w := by
  intro H locs ls h1 h2 h3
  have hts := X.2.2.2.2.1
  exact W.objInit X.1 X.2.1 X.2.2.2.1 (hts _ q1) (hts _ q2) (hts _ q3) rfl (by rw [X.2.2.1]; exact h3.1) rfl d hf hlo (kk H locs ls h1 h2 h3)
/-! calls -/
theorem g_run {rest st' : List Value} {ov : Option Value} {w' : Wd} {mc ms : Nat} {a : Array Value} (hr : ∀ (H : Heap) (locs : List Loc) (ls : Array Slot), Rp V w H → va_S (AA V) (tS t).heap H locs → lv_has ls nL lv → va_Run t.1 t.2.1 t.2.2.1 t.2.2.2.1 t.2.2.2.2.1 t.2.2.2.2.2.1 t.2.2.2.2.2.2.1 t.2.2.2.2.2.2.2.1 t.2.2.2.2.2.2.2.2.1 t.2.2.2.2.2.2.2.2.2 H locs ce sl mc ms (F0 (tM t) pc ls st) rest (QcV V ov w' a) (AA V)) (hv : ov.toList ++ rest = st') (kk : Gd t V nL (ce + mc) (sl + ms) Q (pc + 3) lv st' w') : Gd t V nL ce sl Q pc lv st w := by
  intro H locs ls h1 h2 h3 T hT Xs
  obtain ⟨v, st₀, t', T', L, h0, X', hL, e1, e2, ⟨hv', hRp, hz, hk⟩, stp⟩ := hr H locs ls h1 h2 h3 T hT Xs
  cases hv'
  rw [h0] at hz hk
  rw [hv] at stp
  obtain ⟨t2, a1, b1⟩ := kk T'.heap (locs ++ L) ls (by rw [e1]; exact hRp)
    ⟨Nat.le_trans h2.1 (by rw [e1]; exact hz), fun q g1 g2 => by rw [e1, hk q (Nat.lt_of_lt_of_le g1 h2.1) g2]; exact h2.2.1 q g1 g2, fun q hq => by
      rcases List.mem_append.mp hq with h | h
      · exact h2.2.2 q h
      · exact hL q h⟩ h3 T' rfl X'
  exact ⟨t2, stp t2 a1, b1⟩
/-- what the tables say of a method -/
def Mk (y : MethodName) (bytes : ByteArray) (maxL : Nat) (ret : Option FieldType) (n : Nat) : Prop := Cond.code y bytes maxL ret ∈ gw ∧ Cond.initialized y.cls ∈ gw ∧ (y.cls ≠ "java/lang/invoke/MethodHandle" ∧ y.cls ≠ "java/lang/invoke/VarHandle" ∧ (parseMethodDescriptor y.desc).map (fun d => d.parameters.length) = some n)
theorem g_callB {y : MethodName} {bytes : ByteArray} {maxL mc ms n index : Nat} {ret : Option FieldType} {rm : Room} (X : Cx t V cc nL own) (P : Mk y bytes maxL ret n) (q : Cond.methodLink own index y ∈ gw) (hrc : rm.cells = mc) (hrs : rm.slots = ms) (hR : rm.frames + 1 ≤ (tR t).frames ∧ 8 + (maxL + 11) + rm.locals ≤ (tR t).locals) : CallB (tR t) (tS t) (tA t) own index y bytes maxL ret (wsM y bytes maxL ret) rm mc ms n :=
  callB_of (Ts := (Cond.initialized y.cls) :: gw) n (fun w hw => by
    rcases List.mem_cons.mp hw with e | e
    · subst e; exact X.2.2.2.2.1 _ P.2.1
    · exact X.2.2.2.2.1 _ e) (gw_in P.1) rfl hrc hrs (X.2.2.2.2.1 _ P.2.1) (X.2.2.2.2.1 _ q) P.2.2 hR
theorem g_callV {y : MethodName} {bytes : ByteArray} {maxL mc ms n index ci a : Nat} {ret : Option FieldType} {rm : Room} {T : u_T} {N : Nat} {ty : Nat → FieldType} {As rest st' : List Value} {ov : Option Value} {w' : Wd} (X : Cx t V cc nL own) (F : Fc ci y.cls T N ty) (hk : wK w a = ci) (P : Mk y bytes maxL ret n) (q1 : Cond.instanceMethod y ∈ gw) (q2 : Cond.selects y.cls y y ∈ gw) (q : Cond.methodLink own index y ∈ gw) (M : MetW t.2.1 V y bytes maxL ret rm w (rf V a :: As) ov w' mc ms) (hrc : rm.cells = mc) (hrs : rm.slots = ms) (hR : rm.frames + 1 ≤ (tR t).frames ∧ 8 + (maxL + 11) + rm.locals ≤ (tR t).locals) (hn : As.length = n) (hst : st = As.reverse ++ rf V a :: rest) (hW : 0 + (rest.map fun v => v.category).sum ≤ 8) (hf : ce + mc ≤ (tR t).cells ∧ sl + ms ≤ (tR t).slots) (d : decode cc pc = .ok (.invokevirtual index, 3)) (hv : ov.toList ++ rest = st') (kk : Gd t V nL (ce + mc) (sl + ms) Q (pc + 3) lv st' w') : Gd t V nL ce sl Q pc lv st w := by
  refine g_run (a := #[]) (fun H locs ls h1 h2 h3 => ?_) hv kk
  exact va_runV (C := y.cls) (As := As) (rest := rest) (b := V.1 + a) (Ts := gw) ⟨X.1, X.2.1, X.2.2.1, X.2.2.2.1, X.2.2.2.2.1⟩ M ⟨g_callB X P q hrc hrs hR, X.2.2.2.2.1 _ q1, X.2.2.2.2.1 _ q2⟩ ⟨PcM.blind V w _, va_recv X.2.2.2.2.2.2.1 (h1.obj hk F.2.1) (ci := ci) (q0 := 0) F.1 rfl, fun U hU hW => ⟨rfl, X.2.2.2.2.2.2.go h2 hU hW, by rw [hU]; exact h1⟩⟩ rfl hn h3.1 hst hW d hf
theorem g_callS {y : MethodName} {bytes : ByteArray} {maxL mc ms n index : Nat} {ret : Option FieldType} {rm : Room} {As rest st' : List Value} {ov : Option Value} {w' : Wd} (X : Cx t V cc nL own) (P : Mk y bytes maxL ret n) (q1 : Cond.static y ∈ gw) (q : Cond.methodLink own index y ∈ gw) (M : MetW t.2.1 V y bytes maxL ret rm w As ov w' mc ms) (hrc : rm.cells = mc) (hrs : rm.slots = ms) (hR : rm.frames + 1 ≤ (tR t).frames ∧ 8 + (maxL + 11) + rm.locals ≤ (tR t).locals) (hn : As.length = n) (hst : st = As.reverse ++ rest) (hW : 0 + (rest.map fun v => v.category).sum ≤ 8) (hf : ce + mc ≤ (tR t).cells ∧ sl + ms ≤ (tR t).slots) (d : decode cc pc = .ok (.invokestatic index, 3)) (hv : ov.toList ++ rest = st') (kk : Gd t V nL (ce + mc) (sl + ms) Q (pc + 3) lv st' w') : Gd t V nL ce sl Q pc lv st w := by
  refine g_run (a := #[]) (fun H locs ls h1 h2 h3 => ?_) hv kk
  exact va_runS (As := As) (rest := rest) (Ts := gw) ⟨X.1, X.2.1, X.2.2.1, X.2.2.2.1, X.2.2.2.2.1⟩ M ⟨g_callB X P q hrc hrs hR, X.2.2.2.2.1 _ q1⟩ ⟨PcM.blind V w _, fun U hU hW => ⟨rfl, X.2.2.2.2.2.2.go h2 hU hW, by rw [hU]; exact h1⟩⟩ rfl hn h3.1 hst hW d hf
theorem g_callN {y : MethodName} {bytes : ByteArray} {maxL mc ms n index : Nat} {ret : Option FieldType} {rm : Room} {host : String} (X : Cx t V cc nL own) (P : Mk y bytes maxL ret n) (q : Cond.methodLinkNest own index y host ∈ nwL) (hrc : rm.cells = mc) (hrs : rm.slots = ms) (hR : rm.frames + 1 ≤ (tR t).frames ∧ 8 + (maxL + 11) + rm.locals ≤ (tR t).locals) : va_CN (tR t) (tS t) (tA t) own index y host bytes maxL ret (wsM y bytes maxL ret) rm mc ms n :=
  va_cnB (Ts := (Cond.initialized y.cls) :: gw) n (fun w hw => by
    rcases List.mem_cons.mp hw with e | e
    · subst e; exact X.2.2.2.2.1 _ P.2.1
    · exact X.2.2.2.2.1 _ e) (gw_in P.1) rfl hrc hrs (X.2.2.2.2.2.2.2.1 _ q) (X.2.2.2.2.1 _ P.2.1) P.2.2 hR
theorem g_callSN {y : MethodName} {bytes : ByteArray} {maxL mc ms n index : Nat} {ret : Option FieldType} {rm : Room} {host : String} {As rest st' : List Value} {ov : Option Value} {w' : Wd} (X : Cx t V cc nL own) (P : Mk y bytes maxL ret n) (q1 : Cond.static y ∈ gw) (q : Cond.methodLinkNest own index y host ∈ nwL) (M : MetW t.2.1 V y bytes maxL ret rm w As ov w' mc ms) (hrc : rm.cells = mc) (hrs : rm.slots = ms) (hR : rm.frames + 1 ≤ (tR t).frames ∧ 8 + (maxL + 11) + rm.locals ≤ (tR t).locals) (hn : As.length = n) (hst : st = As.reverse ++ rest) (hW : 0 + (rest.map fun v => v.category).sum ≤ 8) (hf : ce + mc ≤ (tR t).cells ∧ sl + ms ≤ (tR t).slots) (d : decode cc pc = .ok (.invokestatic index, 3)) (hv : ov.toList ++ rest = st') (kk : Gd t V nL (ce + mc) (sl + ms) Q (pc + 3) lv st' w') : Gd t V nL ce sl Q pc lv st w := by
  refine g_run (a := #[]) (fun H locs ls h1 h2 h3 => ?_) hv kk
  exact va_runSN (As := As) (rest := rest) (Ts := gw) ⟨X.1, X.2.1, X.2.2.1, X.2.2.2.1, X.2.2.2.2.1⟩ M ⟨g_callN X P q hrc hrs hR, X.2.2.2.2.1 _ q1, trivial⟩ ⟨PcM.blind V w _, fun U hU hW => ⟨rfl, X.2.2.2.2.2.2.go h2 hU hW, by rw [hU]; exact h1⟩⟩ rfl hn h3.1 hst hW d hf
theorem g_callI {y : MethodName} {bytes : ByteArray} {maxL mc ms n index a : Nat} {rm : Room} {As rest st' : List Value} {w' : Wd} (X : Cx t V cc nL own) (P : Mk y bytes maxL none n) (q0 : y.name = "<init>") (q1 : Cond.instanceMethod y ∈ gw) (q : Cond.methodLink own index y ∈ gw) (M : MetW t.2.1 V y bytes maxL none rm w (rf V a :: As) none w' mc ms) (hrc : rm.cells = mc) (hrs : rm.slots = ms) (hR : rm.frames + 1 ≤ (tR t).frames ∧ 8 + (maxL + 11) + rm.locals ≤ (tR t).locals) (hn : As.length = n) (hst : st = As.reverse ++ rf V a :: rest) (hW : 0 + (rest.map fun v => v.category).sum ≤ 8) (hf : ce + mc ≤ (tR t).cells ∧ sl + ms ≤ (tR t).slots) (d : decode cc pc = .ok (.invokespecial index, 3)) (hv : rest = st') (kk : Gd t V nL (ce + mc) (sl + ms) Q (pc + 3) lv st' w') : Gd t V nL ce sl Q pc lv st w := by
  refine g_run (a := #[]) (ov := none) (rest := rest) (fun H locs ls h1 h2 h3 => ?_) hv kk
  exact va_runI (As := As) (rest := rest) (b := V.1 + a) (Ts := gw) ⟨X.1, X.2.1, X.2.2.1, X.2.2.2.1, X.2.2.2.2.1⟩ M ⟨g_callB X P q hrc hrs hR, q0, X.2.2.2.2.1 _ q1⟩ ⟨PcM.blind V w _, fun U hU hW => ⟨rfl, X.2.2.2.2.2.2.go h2 hU hW, by rw [hU]; exact h1⟩⟩ rfl hn h3.1 hst hW d hf
theorem g_callIN {y : MethodName} {bytes : ByteArray} {maxL mc ms n index a : Nat} {rm : Room} {host : String} {As rest st' : List Value} {w' : Wd} (X : Cx t V cc nL own) (P : Mk y bytes maxL none n) (q0 : y.name = "<init>") (q1 : Cond.instanceMethod y ∈ gw) (q : Cond.methodLinkNest own index y host ∈ nwL) (M : MetW t.2.1 V y bytes maxL none rm w (rf V a :: As) none w' mc ms) (hrc : rm.cells = mc) (hrs : rm.slots = ms) (hR : rm.frames + 1 ≤ (tR t).frames ∧ 8 + (maxL + 11) + rm.locals ≤ (tR t).locals) (hn : As.length = n) (hst : st = As.reverse ++ rf V a :: rest) (hW : 0 + (rest.map fun v => v.category).sum ≤ 8) (hf : ce + mc ≤ (tR t).cells ∧ sl + ms ≤ (tR t).slots) (d : decode cc pc = .ok (.invokespecial index, 3)) (hv : rest = st') (kk : Gd t V nL (ce + mc) (sl + ms) Q (pc + 3) lv st' w') : Gd t V nL ce sl Q pc lv st w := by
  refine g_run (a := #[]) (ov := none) (rest := rest) (fun H locs ls h1 h2 h3 => ?_) hv kk
  exact va_runIN (As := As) (rest := rest) (b := V.1 + a) (Ts := gw) ⟨X.1, X.2.1, X.2.2.1, X.2.2.2.1, X.2.2.2.2.1⟩ M ⟨g_callN X P q hrc hrs hR, q0, X.2.2.2.2.1 _ q1⟩ ⟨PcM.blind V w _, fun U hU hW => ⟨rfl, X.2.2.2.2.2.2.go h2 hU hW, by rw [hU]; exact h1⟩⟩ rfl hn h3.1 hst hW d hf
/-! ends -/
theorem g_iret (X : Cx t V cc nL own) {mc ms : Nat} {x r : Int32} {w' : Wd} (hr : (tMe t).sig.returnType = some .int) (hc : ce ≤ mc) (hs : sl ≤ ms) (e1 : x = r) (e2 : w = w') (d : decode cc pc = .ok (.ireturn, 1)) : Gd t V nL ce sl (Qe t V (some (.int r)) w' mc ms) pc lv [.int x] w := by
  subst e1; subst e2
  refine g_widen hc hs ?_
  intro H locs ls h1 h2 h3
  exact W.iret X.1 X.2.1 hr (fun t ht hW => ⟨rfl, by rw [ht]; exact h1, h2.F ht⟩) h2.2.2 d X.2.2.2.2.2.1
theorem g_zret (X : Cx t V cc nL own) {mc ms : Nat} {x r : Int32} {w' : Wd} (hr : (tMe t).sig.returnType = some .boolean) (hx : x = 0 ∨ x = 1) (hc : ce ≤ mc) (hs : sl ≤ ms) (e1 : x = r) (e2 : w = w') (d : decode cc pc = .ok (.ireturn, 1)) : Gd t V nL ce sl (Qe t V (some (.int r)) w' mc ms) pc lv [.int x] w := by
  subst e1; subst e2
  refine g_widen hc hs ?_
  intro H locs ls h1 h2 h3
  exact W.zret X.1 X.2.1 hr (by rcases hx with e | e <;> subst e <;> decide +kernel) (fun t ht hW => ⟨rfl, by rw [ht]; exact h1, h2.F ht⟩) h2.2.2 d X.2.2.2.2.2.1
theorem g_vret (X : Cx t V cc nL own) {mc ms : Nat} {w' : Wd} (hr : (tMe t).sig.returnType = none) (hc : ce ≤ mc) (hs : sl ≤ ms) (e2 : w = w') (d : decode cc pc = .ok (.return_, 1)) : Gd t V nL ce sl (Qe t V none w' mc ms) pc lv [] w := by
  subst e2
  refine g_widen hc hs ?_
  intro H locs ls h1 h2 h3
  exact W.vret X.1 X.2.1 hr (fun t ht hW => ⟨rfl, by rw [ht]; exact h1, h2.F ht⟩) h2.2.2 d X.2.2.2.2.2.1
theorem g_aret (X : Cx t V cc nL own) {mc ms : Nat} {rt : FieldType} {x r : Option Nat} {w' : Wd} (hr : (tMe t).sig.returnType = some rt) (hrt : (∃ n, rt = .object n) ∨ ∃ t, rt = .array t) (hc : ce ≤ mc) (hs : sl ≤ ms) (e1 : x = r) (e2 : w = w') (d : decode cc pc = .ok (.areturn, 1)) : Gd t V nL ce sl (Qe t V (some (rq V r)) w' mc ms) pc lv [rq V x] w := by
  subst e1; subst e2
  refine g_widen hc hs ?_
  intro H locs ls h1 h2 h3
  exact W.aret X.1 X.2.1 hr hrt (va_rf_or _) (fun t ht hW => ⟨rfl, by rw [ht]; exact h1, h2.F ht⟩) h2.2.2 d X.2.2.2.2.2.1
end GR2
/-- the head of a method -/
theorem g_start {l : Launch} {V : Vt} {y : MethodName} {bytes : ByteArray} {maxL mc ms : Nat} {ret : Option FieldType} {rm : Room} {w w' : Wd} {av : List Value} {ov : Option Value} (hy : plainName y.cls = true) (hl : (lg_sl av).length ≤ maxL)
    (body : ∀ t : Ct, t.2.1 = l → tR t = rm → Cx t V bytes maxL y.cls → (tMe t).sig.returnType = ret → (tMe t).name = y.name → Gd t V maxL 0 0 (Qe t V ov w' mc ms) 0 (lv_args 0 av) [] w) : MetW l V y bytes maxL ret rm w av ov w' mc ms := by
  refine Met.ofW (cc := bytes) (maxL := maxL) (ret := ret) hy rfl ?_
  intro p e s m args below meth c s₁ Bd hml hv
  obtain ⟨rfl, hE, hP⟩ := hv
  have hts := atoms_spec (ws := wsM y bytes maxL ret) Bd.pre
  have hle := lv_entry av (n := maxL) hl
  rw [lg_entry_eq]
  exact body (p, l, e, rm, s, m, av.toArray, below, meth, c) rfl rfl ⟨Bd.exec, Bd.bytes, hml, findClass_of_methodNamed Bd.named, fun w hw => hts w (List.mem_cons_of_mem _ hw), Bd.notSynchronized, hE⟩ Bd.returns (name_of_methodNamed Bd.named Bd.method).1 s.heap [] _ hP va_S.rf hle
/-! pure forms -/
theorem br_y {c : Prop} [Decidable c] {α : Type} {A B : Option α} {r : α} (hc : c) (h : (if c then A else B) = some r) : A = some r := by rw [if_pos hc] at h; exact h
theorem br_n {c : Prop} [Decidable c] {α : Type} {A B : Option α} {r : α} (hc : ¬ c) (h : (if c then A else B) = some r) : B = some r := by rw [if_neg hc] at h; exact h
theorem gd_i {c : Prop} [Decidable c] {α : Type} {A : Option α} {r : α} (h : (if c then A else none) = some r) : c ∧ A = some r := by
  by_cases hc : c
  · rw [if_pos hc] at h; exact ⟨hc, h⟩
  · rw [if_neg hc] at h; cases h
def bd1 {α β : Type} (o : Option α) (f : α → Option β) : Option β := match o with
  | none => none
  | some a => f a
def bd2 {α β : Type} (o : Option (α × Wd)) (f : α → Wd → Option β) : Option β := match o with
  | none => none
  | some (a, w) => f a w
theorem bd1_i {α β : Type} {o : Option α} {f : α → Option β} {r : β} (h : bd1 o f = some r) : ∃ a, o = some a ∧ f a = some r := by
  cases o with
  | none => cases h
  | some a => exact ⟨a, rfl, h⟩
theorem bd2_i {α β : Type} {o : Option (α × Wd)} {f : α → Wd → Option β} {r : β} (h : bd2 o f = some r) : ∃ a w, o = some (a, w) ∧ f a w = some r := by
  cases o with
  | none => cases h
  | some q => exact ⟨q.1, q.2, rfl, h⟩
theorem rt_i {α : Type} {a r : α} {w w' : Wd} (h : some (a, w) = some (r, w')) : a = r ∧ w = w' := by
  have := Option.some.inj h
  exact ⟨congrArg Prod.fst this, congrArg Prod.snd this⟩
def FU : Nat := 6000
