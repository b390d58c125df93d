/-! THE FLAT WORLD: cell k lies at address B + k; kind, length, ints, refs, number of cells -/
abbrev Wd : Type := (Nat → Nat) × (Nat → Nat) × (Nat → Nat → Int32) × (Nat → Nat → Option Nat) × Nat
def wK (w : Wd) (a : Nat) : Nat := w.1 a
def wL (w : Wd) (a : Nat) : Nat := w.2.1 a
def wI (w : Wd) (a j : Nat) : Int32 := w.2.2.1 a j
def wR (w : Wd) (a j : Nat) : Option Nat := w.2.2.2.1 a j
def wN (w : Wd) : Nat := w.2.2.2.2
/-- a whole row of ints -/
def sF (w : Wd) (a : Nat) (f : Nat → Int32) : Wd := (w.1, w.2.1, va_up w.2.2.1 a f, w.2.2.2.1, w.2.2.2.2)
def sI (w : Wd) (a j : Nat) (v : Int32) : Wd := sF w a (upd (wI w a) j v)
def sR (w : Wd) (a j : Nat) (v : Option Nat) : Wd := (w.1, w.2.1, w.2.2.1, va_up w.2.2.2.1 a (va_up (w.2.2.2.1 a) j v), w.2.2.2.2)
/-- one more cell, of a kind and a length, all zero -/
def nC (w : Wd) (k n : Nat) : Wd := (va_up w.1 w.2.2.2.2 k, va_up w.2.1 w.2.2.2.2 n, va_up w.2.2.1 w.2.2.2.2 (fun _ => 0), va_up w.2.2.2.1 w.2.2.2.2 (fun _ => none), w.2.2.2.2 + 1)
/-- which fields are references -/
def frL : List (List Bool) := [[false, false, false, false], [true, true, false, true, true, false, false, false, true, false, true], [true, true, false, false], [false, false, true], [false, false, false, false], [false, true, true, false], [true, false, false, false, false, false, false, true, false, false, true, false, false, false], [false, false, true, true], [true, true, true, false, true, true, true, true, true, false],
  [true, true, true, false, false, true, true, true, false, false, false, false, false, false, false, true, true, true, false, false, true, false, true, true, true, true, true, true, true, true, true, true, true, true, false]]
def frf (ci j : Nat) : Bool := (frL.getD ci []).getD j false
def fN (ci : Nat) : Nat := (frL.getD ci []).length
/-- the surroundings: the first address, classes and slots, array classes, outer addresses -/
abbrev Vt : Type := Nat × va_G × (Nat → ClassId) × (Nat → Nat)
abbrev AA (V : Vt) : Nat → Prop := fun q => V.1 ≤ q
abbrev rf (V : Vt) (a : Nat) : Value := .ref (V.1 + a)
def rq (V : Vt) (o : Option Nat) : Value := va_rf (o.map (fun k => V.1 + k))
theorem rq_some (V : Vt) (a : Nat) : rq V (some a) = rf V a := rfl
theorem rq_none (V : Vt) : rq V none = .null := rfl
def fv (V : Vt) (w : Wd) (a ci j : Nat) : Value := if frf ci j = true then rq V (wR w a j) else .int (wI w a j)
def fvs (V : Vt) (w : Wd) (a ci : Nat) : List Value := (List.range (fN ci)).map (fv V w a ci)
def enc (V : Vt) (w : Wd) (a : Nat) : va_E :=
  if wK w a < 10 then .inr (wK w a, fvs V w a (wK w a))
  else if wK w a < 13 then .inl (V.2.2.1 (wK w a), wL w a, .inl (wI w a))
  else .inl (V.2.2.1 (wK w a), wL w a, .inr (.inr (.inr (.inr (fun i => (wR w a i).map (fun k => V.1 + k))))))
theorem enc_congr {V : Vt} {w w' : Wd} {b : Nat} (h1 : wK w' b = wK w b) (h2 : wL w' b = wL w b) (h3 : wI w' b = wI w b) (h4 : wR w' b = wR w b) : enc V w' b = enc V w b := by
  have hf : ∀ ci, fv V w' b ci = fv V w b ci := fun ci => by funext j; simp only [fv, h3, h4]
  simp only [enc, h1, h2, h3, h4, fvs, hf]
/-- the heap holds the world -/
def Rp (V : Vt) (w : Wd) (H : Heap) : Prop := H.size = V.1 + wN w ∧ (∀ a, a < wN w → va_at V.2.1 vwCl (V.1 + a, enc V w a) H) ∧ ∀ a, wN w ≤ a → wK w a = 99
theorem Rp.lt {V : Vt} {w : Wd} {H : Heap} (h : Rp V w H) {a k : Nat} (hk : wK w a = k) (h9 : k < 99) : a < wN w := by
  rcases Nat.lt_or_ge a (wN w) with q | q
  · exact q
  · have := h.2.2 a q; omega
theorem enc_obj {V : Vt} {w : Wd} {a k : Nat} (hk : wK w a = k) (h : k < 10) : enc V w a = .inr (k, fvs V w a k) := by
  subst hk; simp [enc, h]
theorem enc_int {V : Vt} {w : Wd} {a k : Nat} (hk : wK w a = k) (h : ¬ k < 10) (h2 : k < 13) : enc V w a = .inl (V.2.2.1 k, wL w a, .inl (wI w a)) := by
  subst hk; simp [enc, h, h2]
theorem enc_ref {V : Vt} {w : Wd} {a k : Nat} (hk : wK w a = k) (h2 : ¬ k < 13) : enc V w a = .inl (V.2.2.1 k, wL w a, .inr (.inr (.inr (.inr (fun i => (wR w a i).map (fun k => V.1 + k)))))) := by
  subst hk; simp [enc, h2, show ¬ wK w a < 10 by omega]
theorem Rp.obj {V : Vt} {w : Wd} {H : Heap} (h : Rp V w H) {a k : Nat} (hk : wK w a = k) (h9 : k < 10) : va_P V.2.1 vwCl [(V.1 + a, .inr (k, fvs V w a k))] H := by
  intro i q hq
  have hl := h.lt hk (by omega)
  have := h.2.1 a hl
  rw [enc_obj hk h9] at this
  have hz : i < 1 := (List.getElem?_eq_some_iff.mp hq).1
  rw [show i = 0 by omega] at hq
  cases hq
  exact this
theorem Rp.int {V : Vt} {w : Wd} {H : Heap} (h : Rp V w H) {a k : Nat} (hk : wK w a = k) (h1 : ¬ k < 10) (h2 : k < 13) : va_P V.2.1 vwCl [(V.1 + a, .inl (V.2.2.1 k, wL w a, .inl (wI w a)))] H := by
  intro i q hq
  have hl := h.lt hk (by omega)
  have := h.2.1 a hl
  rw [enc_int hk h1 h2] at this
  have hz : i < 1 := (List.getElem?_eq_some_iff.mp hq).1
  rw [show i = 0 by omega] at hq
  cases hq
  exact this
theorem Rp.refs {V : Vt} {w : Wd} {H : Heap} (h : Rp V w H) {a k : Nat} (hk : wK w a = k) (h1 : ¬ k < 13) (h2 : k < 99) : va_P V.2.1 vwCl [(V.1 + a, .inl (V.2.2.1 k, wL w a, .inr (.inr (.inr (.inr (fun i => (wR w a i).map (fun k => V.1 + k)))))))] H := by
  intro i q hq
  have hl := h.lt hk (by omega)
  have := h.2.1 a hl
  rw [enc_ref hk h1] at this
  have hz : i < 1 := (List.getElem?_eq_some_iff.mp hq).1
  rw [show i = 0 by omega] at hq
  cases hq
  exact this
/-- one cell is written -/
theorem Rp.set {V : Vt} {w w' : Wd} {H H1 : Heap} (h : Rp V w H) {a : Nat} (hl : a < wN w) (hn : wN w' = wN w) (hk : ∀ b, wK w' b = wK w b) (ho : ∀ b, b ≠ a → enc V w' b = enc V w b) (z : H1.size = H.size) (oq : ∀ q : Nat, q ≠ V.1 + a → H1[q]? = H[q]?) (he : va_at V.2.1 vwCl (V.1 + a, enc V w' a) H1) : Rp V w' H1 := by
  refine ⟨by rw [z, h.1, hn], fun b hb => ?_, fun b hb => by rw [hk]; exact h.2.2 b (by omega)⟩
  by_cases e : b = a
  · subst e; exact he
  · rw [ho b e]
    exact (h.2.1 b (by omega)).kept (oq _ (by show V.1 + b ≠ V.1 + a; omega))
/-- one cell comes -/
theorem Rp.new {V : Vt} {w : Wd} {H H1 : Heap} (h : Rp V w H) (k n : Nat) (z : H1.size = H.size + 1) (oq : ∀ q : Nat, q < H.size → H1[q]? = H[q]?) (he : va_at V.2.1 vwCl (V.1 + wN w, enc V (nC w k n) (wN w)) H1) : Rp V (nC w k n) H1 := by
  refine ⟨by rw [z, h.1]; rfl, fun b hb => ?_, fun b hb => ?_⟩
  · have hb : b < wN w + 1 := hb
    by_cases e : b = wN w
    · subst e; exact he
    · have e1 : b < wN w := by omega
      have e2 : enc V (nC w k n) b = enc V w b := by
        have e' : ¬ b = w.2.2.2.2 := e
        exact enc_congr (va_up_ne _ _ e') (va_up_ne _ _ e') (va_up_ne _ _ e') (va_up_ne _ _ e')
      rw [e2]
      refine (h.2.1 b e1).kept (oq _ ?_)
      show V.1 + b < H.size
      rw [h.1]; omega
  · have hb : wN w + 1 ≤ b := hb
    have e' : ¬ b = w.2.2.2.2 := by show ¬ b = wN w; omega
    have := h.2.2 b (by omega)
    simpa [nC, wK, va_up, e'] using this
theorem enc_sF {V : Vt} {w : Wd} {a b : Nat} {f : Nat → Int32} (h : b ≠ a) : enc V (sF w a f) b = enc V w b := enc_congr rfl rfl (va_up_ne _ _ h) rfl
theorem enc_sR {V : Vt} {w : Wd} {a j b : Nat} {v : Option Nat} (h : b ≠ a) : enc V (sR w a j v) b = enc V w b := enc_congr rfl rfl rfl (va_up_ne _ _ h)
theorem fvs_len (V : Vt) (w : Wd) (a ci : Nat) : (fvs V w a ci).length = fN ci := by simp [fvs]
theorem fvs_at {V : Vt} {w : Wd} {a ci j : Nat} (h : j < fN ci) : (fvs V w a ci)[j]? = some (fv V w a ci j) := by simp [fvs, h]
theorem fvs_sI {V : Vt} {w : Wd} {a ci j : Nat} (hf : frf ci j = false) (v : Int32) : (fvs V w a ci).set j (.int v) = fvs V (sI w a j v) a ci := by
  apply List.ext_getElem?
  intro i
  rw [List.getElem?_set]
  simp only [fvs_len]
  by_cases hi : i < fN ci
  · rw [fvs_at hi, fvs_at hi]
    by_cases e : j = i
    · subst e
      simp [hi, fv, hf, sI, sF, wI, va_up, upd]
    · have e2 : ¬ i = j := fun q => e q.symm
      simp [e, e2, fv, sI, sF, wI, wR, va_up, upd]
  · have h1 : (fvs V w a ci)[i]? = none := by simp [fvs]; omega
    have h2 : (fvs V (sI w a j v) a ci)[i]? = none := by simp [fvs]; omega
    rw [h1, h2]
    by_cases e : j = i
    · subst e; simp [hi]
    · simp [e]
theorem fvs_sR {V : Vt} {w : Wd} {a ci j : Nat} (hf : frf ci j = true) (v : Option Nat) : (fvs V w a ci).set j (rq V v) = fvs V (sR w a j v) a ci := by
  apply List.ext_getElem?
  intro i
  rw [List.getElem?_set]
  simp only [fvs_len]
  by_cases hi : i < fN ci
  · rw [fvs_at hi, fvs_at hi]
    by_cases e : j = i
    · subst e
      simp [hi, fv, hf, sR, wR, va_up]
    · have e2 : ¬ i = j := fun q => e q.symm
      simp [e, e2, fv, sR, wI, wR, va_up]
  · have h1 : (fvs V w a ci)[i]? = none := by simp [fvs]; omega
    have h2 : (fvs V (sR w a j v) a ci)[i]? = none := by simp [fvs]; omega
    rw [h1, h2]
    by_cases e : j = i
    · subst e; simp [hi]
    · simp [e]
/-! the words -/
def gw : List Cond := lw_tbl.filter goodWord
theorem gw_of {w : Cond} (i : Nat) (h : lw_tbl[i]? = some w) (hg : goodWord w = true) : w ∈ gw := List.mem_filter.mpr ⟨List.mem_of_getElem? h, hg⟩
abbrev wsM (y : MethodName) (bytes : ByteArray) (maxL : Nat) (ret : Option FieldType) : List Cond := Cond.code y bytes maxL ret :: gw
theorem gw_good : ∀ w ∈ gw, (w.onTables && w.keeps) = true ∨ ∃ ty, w = .arrayClass ty := fun w h => good_of_word (List.mem_filter.mp h).2
theorem gw_in {x : Cond} {y : MethodName} {bytes : ByteArray} {maxL : Nat} {ret : Option FieldType} (h : Cond.code y bytes maxL ret ∈ gw) : GoodIn (x :: gw) (wsM y bytes maxL ret) := by
  intro w hw
  rcases List.mem_cons.mp hw with e | e
  · subst e; exact ⟨List.mem_cons_of_mem _ h, gw_good _ h⟩
  · exact ⟨List.mem_cons_of_mem _ e, gw_good _ e⟩
/-! what stands outside the world, and the words that are no table's -/
def nwL : List Cond := [.methodLinkNest RX1 11 yX0_init RX8, .methodLinkNest RX1 45 yX4_init RX8, .methodLinkNest RX8 24 yX2_init RX8, .methodLinkNest RX8 31 yX6_init RX8, .methodLinkNest RX8 52 yX3_init RX8, .methodLinkNest RX8 53 yX5_init RX8, .methodLinkNest RX5 9 yX4_init RX8, .methodLinkNest RX5 18 yX3_init RX8, .methodLinkNest RX1 156 yX8_held RX8, .methodLinkNest RX1 198 yX8_has RX8, .methodLinkNest RX2 43 yX8_has RX8, .methodLinkNest RX3 28 yX8_isWithin RX8, .fieldLinkNest RX4 24 RX8 "KINDS_OF" "[I" RX8]
def aoL : List String := [RX4, RX7, RX3, RX5]
def kdL : List Int32 := [63, 10, 20, 8, 16, 32]
def rtL : List Int32 := [99, 2, 100, 100]
def stI (i : Nat) : Nat := [92, 98, 100, 123, 125, 127].getD i 0
def stT (i : Nat) : String := ["fare", "fee", "fine", "pcs", "tm", "ps"].getD i ""
def stN : List Nat := [4, 3, 4, 3, 2, 2]
def stB : List (List Int32) := [[102, 97, 114, 101], [102, 101, 101], [102, 105, 110, 101], [112, 99, 115], [116, 109], [112, 115]]
def Ot (V : Vt) (U : State) (H : Heap) : Prop :=
  (va_Z RX8 "KINDS_OF" "[I" (.ref (V.2.2.2 0)) (AA V) U H ∧ va_T .int (V.2.2.2 0) 6 (fun j => .int (kdL.getD j 0)) (AA V) U H) ∧
  (va_Z RX8 "RULE_TOPS" "[I" (.ref (V.2.2.2 1)) (AA V) U H ∧ va_T .int (V.2.2.2 1) 4 (fun j => .int (rtL.getD j 0)) (AA V) U H) ∧
  vk_S 6 stN stB (fun i => V.2.2.2 (10 + i)) (fun i => V.2.2.2 (20 + i)) (AA V) U H ∧
  va_Z "java/lang/String" "COMPACT_STRINGS" "Z" (.int 1) (AA V) U H ∧
  va_Zq "jdk/internal/util/Preconditions" "SIOOBE_FORMATTER" "Ljava/util/function/BiFunction;" (AA V) U H
def tyl (V : Vt) : List (ClassId × FieldType) := [(V.2.2.1 10, .char), (V.2.2.1 11, .int), (V.2.2.1 12, .boolean), (V.2.2.1 13, .object RX3), (V.2.2.1 14, .object RX4), (V.2.2.1 15, .object RX5), (V.2.2.1 16, .object RX7)]
def En (V : Vt) (U : State) : Prop := va_K V.2.1 vwCl (tyl V) U ∧ (∀ w ∈ nwL, va_Nw w U) ∧ (∀ C ∈ aoL, va_AO C U) ∧ (∀ i, i < 6 → vk_R RX6 (stI i) (stT i) (V.2.2.2 (10 + i)) U) ∧ Ot V U U.heap
theorem nw_warm {s U : State} (hW : s.WarmedH U.vm) (h : ∀ w ∈ nwL, va_Nw w s) : ∀ w ∈ nwL, va_Nw w U := by
  intro w hw
  have h1 := h w hw
  simp only [nwL, List.mem_cons, List.not_mem_nil, or_false] at hw
  rcases hw with rfl | rfl | rfl | rfl | rfl | rfl | rfl | rfl | rfl | rfl | rfl | rfl | rfl
  all_goals first | exact va_Nw.warmM hW h1 | exact va_Nw.warmF hW h1
theorem nw_same {s U : State} (hv : s.vm = U.vm) (h : ∀ w ∈ nwL, va_Nw w s) : ∀ w ∈ nwL, va_Nw w U := by
  intro w hw
  have h1 := h w hw
  simp only [nwL, List.mem_cons, List.not_mem_nil, or_false] at hw
  rcases hw with rfl | rfl | rfl | rfl | rfl | rfl | rfl | rfl | rfl | rfl | rfl | rfl | rfl
  all_goals exact va_Nw.same rfl hv h1
theorem Ot.moved {V : Vt} {u U : State} {H : Heap} (hvm : u.vm.Alike U.vm) (h : Ot V u H) : Ot V U H :=
  ⟨⟨h.1.1.moved hvm, h.1.2.moved hvm⟩, ⟨h.2.1.1.moved hvm, h.2.1.2.moved hvm⟩, h.2.2.1.moved hvm, h.2.2.2.1.moved hvm, h.2.2.2.2.moved hvm⟩
theorem Ot.kept {V : Vt} {U : State} {H H1 : Heap} (hq : ∀ a : Nat, a < H.size → ¬ AA V a → H1[a]? = H[a]?) (h : Ot V U H) : Ot V U H1 :=
  ⟨⟨h.1.1.kept hq, h.1.2.kept hq⟩, ⟨h.2.1.1.kept hq, h.2.1.2.kept hq⟩, h.2.2.1.kept hq, h.2.2.2.1.kept hq, h.2.2.2.2.kept hq⟩
theorem En.go {V : Vt} {s U : State} {H : Heap} {locs : List Loc} (h : En V s) (hS : va_S (AA V) s.heap H locs) (hU : U.heap = H) (hW : s.WarmedH U.vm) : En V U := by
  refine ⟨h.1.moved hW.alike, nw_warm hW h.2.1, fun C hC => (h.2.2.1 C hC).moved hW.alike, fun i hi => (h.2.2.2.1 i hi).warm hW, ?_⟩
  exact (h.2.2.2.2.kept (fun a h1 h2 => by rw [hU]; exact hS.2.1 a h1 h2)).moved hW.alike
theorem En.calling {V : Vt} {U : State} {g : JFrame} {mk : MethodId} {a : Array Value} (h : En V U) : En V (U.calling g mk a) :=
  ⟨va_K.moved (u := U) (U := U.calling g mk a) (Vm.Alike.refl U.vm) h.1, nw_same (s := U) (U := U.calling g mk a) rfl h.2.1, fun C hC => va_AO.moved (u := U) (U := U.calling g mk a) (Vm.Alike.refl U.vm) (h.2.2.1 C hC), fun i hi => vk_R.same (u := U) (U := U.calling g mk a) rfl (h.2.2.2.1 i hi), Ot.moved (u := U) (U := U.calling g mk a) (Vm.Alike.refl U.vm) h.2.2.2.2⟩
/-! contracts -/
def PcM (V : Vt) (w : Wd) (av : List Value) : Array Value → State → Prop := va_Pc av (fun U => En V U ∧ Rp V w U.heap)
def QcV (V : Vt) (ov : Option Value) (w' : Wd) : Array Value → State → Outcome → State → Prop := fun _ st oc t => oc = .returned ov ∧ Rp V w' t.heap ∧ va_F (AA V) st t
abbrev MetW (l : Launch) (V : Vt) (y : MethodName) (bytes : ByteArray) (maxL : Nat) (ret : Option FieldType) (rm : Room) (w : Wd) (av : List Value) (ov : Option Value) (w' : Wd) (mc ms : Nat) : Prop := Met l y (wsM y bytes maxL ret) rm (PcM V w av) (QcV V ov w') mc ms (AA V)
theorem PcM.blind (V : Vt) (w : Wd) (av : List Value) : FrameBlind (PcM V w av) := fun _ _ _ _ h => ⟨h.1, h.2.1.calling, h.2.2⟩
/-! the context of a walk -/
abbrev Ct : Type := Program × Launch × Env × Room × State × MethodId × Array Value × List Frame × Method × Code
abbrev Wt (t : Ct) (H : Heap) (locs : List Loc) (ce sl : Nat) (Q : State → Prop) (g : JFrame) : Prop := W t.1 t.2.1 t.2.2.1 t.2.2.2.1 t.2.2.2.2.1 t.2.2.2.2.2.1 t.2.2.2.2.2.2.1 t.2.2.2.2.2.2.2.1 t.2.2.2.2.2.2.2.2.1 t.2.2.2.2.2.2.2.2.2 H locs ce sl Q g
abbrev tS (t : Ct) : State := t.2.2.2.2.1
abbrev tM (t : Ct) : MethodId := t.2.2.2.2.2.1
abbrev tA (t : Ct) : Array Value := t.2.2.2.2.2.2.1
abbrev tR (t : Ct) : Room := t.2.2.2.1
abbrev tC (t : Ct) : Code := t.2.2.2.2.2.2.2.2.2
abbrev tMe (t : Ct) : Method := t.2.2.2.2.2.2.2.2.1
/-- what holds of it: the machine, the code, locals, the own class, the words, no lock, the surroundings -/
def Cx (t : Ct) (V : Vt) (cc : ByteArray) (nL : Nat) (own : String) : Prop := t.1.tables.exec = Jvm.exec ∧ (tC t).code = cc ∧ (tC t).maxLocals = nL ∧ (tS t).vm.findClass own = some (tM t).cls ∧ (∀ w ∈ gw, w.before (tA t) (tS t) = true) ∧ (tMe t).locks = false ∧ En V (tS t)
/-- the goal: from here, with any heap that holds the world -/
def Gd (t : Ct) (V : Vt) (nL ce sl : Nat) (Q : State → Prop) (pc : Nat) (lv : List (Nat × Value)) (st : List Value) (w : Wd) : Prop :=
  ∀ (H : Heap) (locs : List Loc) (ls : Array Slot), Rp V w H → va_S (AA V) (tS t).heap H locs → lv_has ls nL lv → Wt t H locs ce sl Q (F0 (tM t) pc ls st)
/-- the end of a walk -/
abbrev Qe (t : Ct) (V : Vt) (ov : Option Value) (w' : Wd) (mc ms : Nat) : State → Prop := MQ t.2.2.2.2.2.2.2.1 (QcV V ov w') (tA t) (tS t) mc ms (AA V)
