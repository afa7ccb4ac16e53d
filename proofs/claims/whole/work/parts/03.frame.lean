/-! ===== contents of the cells that the law makes, by their offset from its start ===== -/
abbrev Hp : Type := Nat → va_E
def e_up (c : Hp) (k : Nat) (e : va_E) : Hp := fun j => if j = k then e else c j
theorem e_up_self (c : Hp) (k : Nat) (e : va_E) : e_up c k e k = e := if_pos rfl
theorem e_up_ne {c : Hp} {k j : Nat} {e : va_E} (h : j ≠ k) : e_up c k e j = c j := if_neg h
def e_ov : List Nat → List va_E → Hp → Hp
  | k :: ks, e :: es, c => e_up (e_ov ks es c) k e
  | _, _, c => c
def e_wf (ks : List Nat) (n : Nat) : Prop := ks.Nodup ∧ ∀ k ∈ ks, k < n
def e_sets : List va_E → List Nat → List va_E → List va_E
  | es, p :: ps, e :: es1 => (e_sets es ps es1).set p e
  | es, _, _ => es
theorem e_ov_nil (c : Hp) : e_ov [] [] c = c := rfl
theorem e_ov_out {ks : List Nat} : ∀ {es : List va_E} {c : Hp} {j : Nat}, j ∉ ks → e_ov ks es c j = c j := by
  induction ks with
  | nil => intro es c j _; cases es <;> rfl
  | cons k ks ih =>
    intro es c j h
    cases es with
    | nil => rfl
    | cons e es =>
      rw [List.mem_cons, not_or] at h
      show e_up _ _ _ _ = _
      rw [e_up_ne h.1]
      exact ih h.2
theorem e_nd_ne {k0 k : Nat} {ks : List Nat} {p : Nat} (hn : (k0 :: ks).Nodup) (hk : ks[p]? = some k) : k ≠ k0 := by
  intro h
  subst h
  exact (List.nodup_cons.mp hn).1 (List.mem_of_getElem? hk)
theorem e_ov_get {ks : List Nat} : ∀ {es : List va_E} {c : Hp} (_ : ks.Nodup) {p k : Nat} {e : va_E} (_ : ks[p]? = some k) (_ : es[p]? = some e), e_ov ks es c k = e := by
  induction ks with
  | nil => intro es c _ p k e hk; simp at hk
  | cons k0 ks ih =>
    intro es c hn p k e hk he
    cases es with
    | nil => simp at he
    | cons e0 es =>
      cases p with
      | zero =>
        simp only [List.getElem?_cons_zero, Option.some.injEq] at hk he
        subst hk; subst he
        exact e_up_self _ _ _
      | succ p =>
        simp only [List.getElem?_cons_succ] at hk he
        show e_up _ _ _ _ = _
        rw [e_up_ne (e_nd_ne hn hk)]
        exact ih (List.nodup_cons.mp hn).2 hk he
theorem e_up_up (c : Hp) (k : Nat) (e e' : va_E) : e_up (e_up c k e) k e' = e_up c k e' := by
  funext j
  by_cases h : j = k
  · subst h; rw [e_up_self, e_up_self]
  · rw [e_up_ne h, e_up_ne h, e_up_ne h]
theorem e_up_swap (c : Hp) {k k' : Nat} (e e' : va_E) (h : k ≠ k') : e_up (e_up c k e) k' e' = e_up (e_up c k' e') k e := by
  funext j
  by_cases h1 : j = k
  · subst h1; rw [e_up_ne h, e_up_self, e_up_self]
  · by_cases h2 : j = k'
    · subst h2; rw [e_up_self, e_up_ne h1, e_up_self]
    · rw [e_up_ne h2, e_up_ne h1, e_up_ne h1, e_up_ne h2]
theorem e_up_id {c : Hp} {k : Nat} {e : va_E} (h : c k = e) : e_up c k e = c := by
  funext j
  by_cases h1 : j = k
  · subst h1; rw [e_up_self, h]
  · rw [e_up_ne h1]
theorem e_ov_set {ks : List Nat} : ∀ {es : List va_E} {c : Hp} (_ : ks.Nodup) {p k : Nat} {e0 e : va_E} (_ : ks[p]? = some k) (_ : es[p]? = some e0), e_up (e_ov ks es c) k e = e_ov ks (es.set p e) c := by
  induction ks with
  | nil => intro es c _ p k e0 e hk; simp at hk
  | cons k0 ks ih =>
    intro es c hn p k e0 e hk he
    cases es with
    | nil => simp at he
    | cons e1 es =>
      cases p with
      | zero =>
        simp only [List.getElem?_cons_zero, Option.some.injEq] at hk
        subst hk
        exact e_up_up _ _ _ _
      | succ p =>
        simp only [List.getElem?_cons_succ] at hk he
        show e_up (e_up (e_ov ks es c) k0 e1) k e = e_up (e_ov ks (es.set p e) c) k0 e1
        rw [← ih (List.nodup_cons.mp hn).2 hk he]
        exact e_up_swap _ _ _ (e_nd_ne hn hk).symm
theorem e_ov_sub {ks : List Nat} {es : List va_E} {c : Hp} (hn : ks.Nodup) : ∀ (ps : List Nat) {ks0 : List Nat} {es0 : List va_E}, ps.map (fun i => ks[i]?) = ks0.map some → ps.map (fun i => es[i]?) = es0.map some → e_ov ks0 es0 (e_ov ks es c) = e_ov ks es c := by
  intro ps
  induction ps with
  | nil => intro ks0 es0 h1 _; cases ks0 with
    | nil => cases es0 <;> rfl
    | cons a as => simp at h1
  | cons p ps ih =>
    intro ks0 es0 h1 h2
    cases ks0 with
    | nil => simp at h1
    | cons k ks0 =>
      cases es0 with
      | nil => simp at h2
      | cons e es0 =>
        simp only [List.map_cons, List.cons.injEq] at h1 h2
        show e_up (e_ov ks0 es0 _) k e = _
        rw [ih h1.2 h2.2]
        exact e_up_id (e_ov_get hn h1.1 h2.1)
theorem e_sets_len (es : List va_E) : ∀ (ps : List Nat) (es1 : List va_E), (e_sets es ps es1).length = es.length := by
  intro ps
  induction ps with
  | nil => intro es1; cases es1 <;> rfl
  | cons p ps ih => intro es1; cases es1 with
    | nil => rfl
    | cons e es1 => show ((e_sets es ps es1).set p e).length = _; rw [List.length_set, ih]
theorem e_ov_back {ks : List Nat} {es : List va_E} {c : Hp} (hn : ks.Nodup) (hl : es.length = ks.length) : ∀ (ps : List Nat) {ks0 : List Nat} {es1 : List va_E}, ps.map (fun i => ks[i]?) = ks0.map some → e_ov ks0 es1 (e_ov ks es c) = e_ov ks (e_sets es ps es1) c := by
  intro ps
  induction ps with
  | nil => intro ks0 es1 h1; cases ks0 with
    | nil => cases es1 <;> rfl
    | cons a as => simp at h1
  | cons p ps ih =>
    intro ks0 es1 h1
    cases ks0 with
    | nil => simp at h1
    | cons k ks0 =>
      cases es1 with
      | nil => rfl
      | cons e es1 =>
        simp only [List.map_cons, List.cons.injEq] at h1
        show e_up (e_ov ks0 es1 _) k e = e_ov ks ((e_sets es ps es1).set p e) c
        rw [ih h1.2]
        have hp : p < ks.length := (List.getElem?_eq_some_iff.mp h1.1).1
        have hp' : p < (e_sets es ps es1).length := by rw [e_sets_len, hl]; exact hp
        exact e_ov_set hn h1.1 (List.getElem?_eq_getElem hp')
theorem e_wf.sub {ks : List Nat} {n : Nat} (h : e_wf ks n) {k : Nat} {p : Nat} (hk : ks[p]? = some k) : k < n := h.2 k (List.mem_of_getElem? hk)
theorem e_wf.pick {ks : List Nat} {n : Nat} (h : e_wf ks n) (ps : List Nat) {ks0 : List Nat} (h1 : ps.map (fun i => ks[i]?) = ks0.map some) (hn : ks0.Nodup) : e_wf ks0 n := by
  refine ⟨hn, fun k hk => ?_⟩
  have : some k ∈ ps.map (fun i => ks[i]?) := by rw [h1]; exact List.mem_map.mpr ⟨k, hk, rfl⟩
  obtain ⟨i, -, hi⟩ := List.mem_map.mp this
  exact h.sub hi

/-! ===== the classes, the array classes, the words, what stands of statics ===== -/
abbrev cls13 : List vw_C := [(RX0, TX0, 4), (RX1, TX1, 18), (RX2, TX2, 4), (RX3, TX3, 2), (RX4, TX4, 1), (RX5, TX5, 4), (RX6, TX6, 13), (RX7, TX7, 6), (RX8, TX8, 2), (RX9, TX9, 2), (RX10, TX10, 10), (RX11, TX11, 16), (RX12, TX12, 50)]
/-- class numbers and slots; array classes; static arrays; String constants and their bytes -/
abbrev GT : Type := va_G × (Nat → ClassId) × (Nat → Nat) × (Nat → Nat) × (Nat → Nat)
abbrev e_ty (G : GT) : List (ClassId × FieldType) := [(G.2.1 0, .int), (G.2.1 1, .long), (G.2.1 2, .boolean), (G.2.1 3, .object RX10), (G.2.1 4, .object RX5), (G.2.1 5, .object RX8)]
def gT : List Cond := lw_tbl.filter goodWord
theorem gT_in {w : Cond} (i : Nat) (h : lw_tbl[i]? = some w) (hg : goodWord w = true) : w ∈ gT := List.mem_filter.mpr ⟨List.mem_of_getElem? h, hg⟩
theorem gT_good : GoodIn gT gT := fun w h => ⟨h, good_of_word (List.mem_filter.mp h).2⟩
theorem gT_code {y : MethodName} {cc : ByteArray} {nL : Nat} {ret : Option FieldType} (h : Cond.code y cc nL ret ∈ gT) : GoodIn gT (.code y cc nL ret :: gT) := fun w hw => by
  rcases List.mem_cons.mp hw with rfl | hw
  · exact gT_good _ h
  · exact gT_good _ hw
def e_isNest : Cond → Bool
  | .fieldLinkNest .. => true
  | .methodLinkNest .. => true
  | _ => false
def e_nest : List Cond := lw_tbl.filter e_isNest
theorem e_nest_in {w : Cond} (i : Nat) (h : lw_tbl[i]? = some w) (hg : e_isNest w = true) : w ∈ e_nest := List.mem_filter.mpr ⟨List.mem_of_getElem? h, hg⟩
theorem e_nest_warm {s U : State} (hW : s.WarmedH U.vm) (h : ∀ w ∈ e_nest, va_Nw w s) : ∀ w ∈ e_nest, va_Nw w U := by
  intro w hw
  have h1 := h w hw
  have h2 := (List.mem_filter.mp hw).2
  cases w <;> first | exact va_Nw.warmF hW h1 | exact va_Nw.warmM hW h1 | (simp [e_isNest] at h2)
def e_A (b : Nat) : Nat → Prop := fun q => b ≤ q
/-- the static arrays of the class: name and contents -/
def e_sN : Nat → String := fun i => ["FIRST_TERMS", "HIGHEST_TERMS", "HIGHEST_TRAITS", "LOWEST_TERMS", "REFUSALS_TOLD"].getD i ""
def e_sX : Nat → List Int32 := fun i => [[1, 0, 0, 0, 0, 50], [8, 23, 1, 999, 999, 100], [9, 99, 9, 9, 9, 3], [1, 0, 0, 0, 0, 0], [1, 2, 3, 5, 6]].getD i []
def e_kL : List Nat := [5, 4, 5, 5, 4, 6, 4, 4, 6, 4, 4, 4, 6, 2, 3, 3, 2]
def e_kB : List (List Int32) := [[118, 111, 116, 101, 115], [108, 105, 101, 115], [112, 114, 105, 99, 101], [98, 101, 97, 115, 116], [107, 105, 110, 100], [104, 117, 110, 103, 101, 114], [115, 97, 108, 116], [109, 105, 108, 100], [102, 97, 118, 111, 117, 114], [104, 111, 117, 114], [114, 97, 105, 110], [115, 105, 100, 101], [109, 105, 110, 117, 116, 101], [105, 102], [110, 111, 116], [97, 110, 100], [111, 114]]
def e_kI : List Nat := [123, 125, 127, 167, 171, 173, 175, 177, 179, 181, 183, 185, 187, 114, 147, 145, 132]
def e_kT : List String := ["votes", "lies", "price", "beast", "kind", "hunger", "salt", "mild", "favour", "hour", "rain", "side", "minute", "if", "not", "and", "or"]
/-- a static array is no longer than it says, and its class is that of int arrays -/
def e_ex (G : GT) (b i : Nat) (H : Heap) : Prop := ∃ cell : Cell, H[G.2.2.1 i]? = some cell ∧ cell.cls = G.2.1 0 ∧ cell.slots.size = (e_sX i).length ∧ ¬ e_A b (G.2.2.1 i)
theorem e_ex.kept {G : GT} {b i : Nat} {H H1 : Heap} (h : e_ex G b i H) (hq : ∀ a : Nat, a < H.size → ¬ e_A b a → H1[a]? = H[a]?) : e_ex G b i H1 := by
  obtain ⟨cell, h1, h2, h3, h4⟩ := h
  exact ⟨cell, by rw [hq _ (Array.getElem?_eq_some_iff.mp h1).1 h4]; exact h1, h2, h3, h4⟩
def e_St (G : GT) (b : Nat) (U : State) (H : Heap) : Prop :=
  (∀ i, i < 5 → va_Z RX11 (e_sN i) "[I" (.ref (G.2.2.1 i)) (e_A b) U H ∧ va_T .int (G.2.2.1 i) (e_sX i).length (fun j => .int ((e_sX i).getD j 0)) (e_A b) U H ∧ e_ex G b i H) ∧
  (va_Z "java/lang/String" "COMPACT_STRINGS" "Z" (.int 1) (e_A b) U H ∧ va_Zq "jdk/internal/util/Preconditions" "SIOOBE_FORMATTER" "Ljava/util/function/BiFunction;" (e_A b) U H) ∧
  vk_S 17 e_kL e_kB G.2.2.2.1 G.2.2.2.2 (e_A b) U H ∧
  (∀ i, i < 17 → vk_R RX6 (e_kI.getD i 0) (e_kT.getD i "") (G.2.2.2.1 i) U)
theorem e_St.go {G : GT} {b : Nat} {s U : State} {H1 : Heap} (hW : s.WarmedH U.vm) (hq : ∀ a : Nat, a < s.heap.size → ¬ e_A b a → H1[a]? = s.heap[a]?) (h : e_St G b s s.heap) : e_St G b U H1 :=
  ⟨fun i hi => ⟨va_Z.moved hW.alike ((h.1 i hi).1.kept hq), va_T.moved hW.alike ((h.1 i hi).2.1.kept hq), (h.1 i hi).2.2.kept hq⟩, ⟨va_Z.moved hW.alike (h.2.1.1.kept hq), va_Zq.moved hW.alike (h.2.1.2.kept hq)⟩, vk_S.moved hW.alike (h.2.2.1.kept hq), fun i hi => vk_R.warm hW (h.2.2.2 i hi)⟩
def e_K (G : GT) (b : Nat) (U : State) (H : Heap) : Prop :=
  va_K G.1 cls13 (e_ty G) U ∧ (∀ w ∈ e_nest, va_Nw w U) ∧ e_St G b U H ∧ (va_AO RX5 U ∧ va_AO RX8 U ∧ va_AO RX10 U) ∧ va_Nw (.castable "[I" "java/lang/Cloneable") U
theorem e_K.go {G : GT} {b : Nat} {s U : State} {H1 : Heap} (hW : s.WarmedH U.vm) (hq : ∀ a : Nat, a < s.heap.size → ¬ e_A b a → H1[a]? = s.heap[a]?) (h : e_K G b s s.heap) : e_K G b U H1 :=
  ⟨va_K.moved hW.alike h.1, e_nest_warm hW h.2.1, h.2.2.1.go hW hq, ⟨va_AO.moved hW.alike h.2.2.2.1.1, va_AO.moved hW.alike h.2.2.2.1.2.1, va_AO.moved hW.alike h.2.2.2.1.2.2⟩, va_Nw.warmC hW h.2.2.2.2⟩
theorem e_St.calling {G : GT} {b : Nat} {U : State} {H : Heap} (a : Array Value) (g : JFrame) (mk : MethodId) (h : e_St G b U H) : e_St G b (U.calling g mk a) H :=
  ⟨fun i hi => ⟨va_Z.moved (Vm.Alike.refl U.vm) (h.1 i hi).1, va_T.moved (Vm.Alike.refl U.vm) (h.1 i hi).2.1, (h.1 i hi).2.2⟩, ⟨va_Z.moved (Vm.Alike.refl U.vm) h.2.1.1, va_Zq.moved (Vm.Alike.refl U.vm) h.2.1.2⟩, vk_S.moved (Vm.Alike.refl U.vm) h.2.2.1, fun i hi => vk_R.same rfl (h.2.2.2 i hi)⟩
theorem e_nest_calling {U : State} (a : Array Value) (g : JFrame) (mk : MethodId) (h : ∀ w ∈ e_nest, va_Nw w U) : ∀ w ∈ e_nest, va_Nw w (U.calling g mk a) := by
  intro w hw
  have h2 := (List.mem_filter.mp hw).2
  exact va_Nw.same (u := U) (by cases w <;> first | rfl | (simp [e_isNest] at h2)) rfl (h w hw)
theorem e_K.calling {G : GT} {b : Nat} {U : State} {H : Heap} (a : Array Value) (g : JFrame) (mk : MethodId) (h : e_K G b U H) : e_K G b (U.calling g mk a) H :=
  ⟨va_K.moved (u := U) (U := U.calling g mk a) (Vm.Alike.refl U.vm) h.1, e_nest_calling a g mk h.2.1, h.2.2.1.calling a g mk, ⟨va_AO.moved (u := U) (U := U.calling g mk a) (Vm.Alike.refl U.vm) h.2.2.2.1.1, va_AO.moved (u := U) (U := U.calling g mk a) (Vm.Alike.refl U.vm) h.2.2.2.1.2.1, va_AO.moved (u := U) (U := U.calling g mk a) (Vm.Alike.refl U.vm) h.2.2.2.1.2.2⟩, va_Nw.same (u := U) rfl rfl h.2.2.2.2⟩
/-! ===== the heap ===== -/
def e_H (G : GT) (b n : Nat) (c : Hp) (H : Heap) : Prop := H.size = b + n ∧ ∀ k, k < n → va_at G.1 cls13 (b + k, c k) H
theorem e_H.put {G : GT} {b n k : Nat} {c : Hp} {H H1 : Heap} {e : va_E} (h : e_H G b n c H) (h1 : va_at G.1 cls13 (b + k, e) H1) (hz : H1.size = H.size) (ho : ∀ q : Nat, q ≠ b + k → H1[q]? = H[q]?) : e_H G b n (e_up c k e) H1 := by
  refine ⟨hz.trans h.1, fun j hj => ?_⟩
  by_cases e1 : j = k
  · subst e1; rw [e_up_self]; exact h1
  · rw [e_up_ne e1]
    exact (h.2 j hj).kept (ho (b + j) (by omega))
theorem e_H.push {G : GT} {b n : Nat} {c : Hp} {H H1 : Heap} {e : va_E} (h : e_H G b n c H) (h1 : va_at G.1 cls13 (b + n, e) H1) (hz : H1.size = H.size + 1) (ho : ∀ q : Nat, q < H.size → H1[q]? = H[q]?) : e_H G b (n + 1) (e_up c n e) H1 := by
  have h0 := h.1
  refine ⟨by omega, fun j hj => ?_⟩
  by_cases e1 : j = n
  · subst e1; rw [e_up_self]; exact h1
  · rw [e_up_ne e1]
    exact (h.2 j (by omega)).kept (ho (b + j) (by omega))
/-! ===== the judgement ===== -/
def e_Q (G : GT) (b : Nat) (post : Option Value → Hp → Nat → Prop) : Array Value → State → Outcome → State → Prop := fun _ st o t => (∃ (v : Option Value) (c' : Hp) (n' : Nat), o = .returned v ∧ post v c' n' ∧ e_H G b n' c' t.heap) ∧ va_F (e_A b) st t
def e_rm (d mc ms : Nat) : Room := { frames := d, cells := mc, slots := ms, locals := 64 * d }
abbrev e_ZT : Type := List Frame → Array Value → State → State → Prop
def e_Z (G : GT) (b : Nat) (post : Option Value → Hp → Nat → Prop) (mc ms : Nat) : e_ZT := fun below args s => MQ below (e_Q G b post) args s mc ms (e_A b)
abbrev e_XT : Type := Array Value → State → Prop
def e_X0 : e_XT := fun _ _ => True
def e_cx (G : GT) (b : Nat) (y : MethodName) (cc : ByteArray) (nL : Nat) (ret : Option FieldType) (Ex : e_XT) (p : Program) (s : State) (m : MethodId) (args : Array Value) (meth : Method) (c : Code) : Prop :=
  p.tables.exec = Jvm.exec ∧ c.code = cc ∧ meth.sig.returnType = ret ∧ c.maxLocals = nL ∧ s.vm.findClass y.cls = some m.cls ∧ (∀ w ∈ gT, w.before args s = true) ∧ meth.locks = false ∧ e_K G b s s.heap ∧ meth.name = y.name ∧ b ≤ s.heap.size ∧ Ex args s
def E (G : GT) (b : Nat) (y : MethodName) (cc : ByteArray) (nL : Nat) (ret : Option FieldType) (R : Room) (Ex : e_XT) (Z : e_ZT) (pc : Nat) (lv : List (Nat × Value)) (st : List Value) (c : Hp) (n : Nat) (kc ks : Nat) : Prop :=
  ∀ (p : Program) (l : Launch) (e : Env) (s : State) (m : MethodId) (args : Array Value) (below : List Frame) (meth : Method) (cd : Code) (H : Heap) (locs : List Loc) (ls : Array Slot), e_cx G b y cc nL ret Ex p s m args meth cd → va_S (e_A b) s.heap H locs → e_H G b n c H → lv_has ls nL lv → W p l e R s m args below meth cd H locs kc ks (Z below args s) (F0 m pc ls st)
def e_C (G : GT) (b : Nat) (y : MethodName) (cc : ByteArray) (nL : Nat) (ret : Option FieldType) (d mc ms : Nat) (av : List Value) (c : Hp) (n : Nat) (post : Option Value → Hp → Nat → Prop) : Prop :=
  ∀ l : Launch, Met l y (.code y cc nL ret :: gT) (e_rm d mc ms) (va_Pc av (fun U => e_H G b n c U.heap ∧ e_K G b U U.heap)) (e_Q G b post) mc ms (e_A b)
theorem e_C.of {G : GT} {b : Nat} {y : MethodName} {cc : ByteArray} {nL : Nat} {ret : Option FieldType} {d mc ms : Nat} {av : List Value} {c : Hp} {n : Nat} {post : Option Value → Hp → Nat → Prop} (hy : plainName y.cls = true) (hlen : (lg_sl av).length ≤ nL)
    (h : E G b y cc nL ret (e_rm d mc ms) e_X0 (e_Z G b post mc ms) 0 (lv_args 0 av) [] c n 0 0) : e_C G b y cc nL ret d mc ms av c n post := by
  intro l
  refine Met.ofW (cc := cc) (maxL := nL) (ret := ret) hy rfl ?_
  intro p e s m args below meth cd s₁ B hml hv
  obtain ⟨rfl, hH, hK⟩ := hv
  have hts := atoms_spec (ws := .code y cc nL ret :: gT) B.pre
  have hl := lv_entry av (n := nL) hlen
  rw [lg_entry_eq]
  exact h p l e s m av.toArray below meth cd s.heap [] _ ⟨B.exec, B.bytes, B.returns, hml, findClass_of_methodNamed B.named, fun w hw => hts w (List.mem_cons_of_mem _ hw), B.notSynchronized, hK, (name_of_methodNamed B.named B.method).1, by rw [hH.1]; exact Nat.le_add_right _ _, trivial⟩ va_S.rf hH hl
theorem e_C.eq {G : GT} {b : Nat} {y : MethodName} {cc : ByteArray} {nL : Nat} {ret : Option FieldType} {d mc ms : Nat} {av : List Value} {c c2 : Hp} {n : Nat} {post : Option Value → Hp → Nat → Prop} (h : e_C G b y cc nL ret d mc ms av c n post) (e : c2 = c) : e_C G b y cc nL ret d mc ms av c2 n post := e ▸ h

/-! ===== rows: an instruction each ===== -/
section EROWS
variable {G : GT} {b : Nat} {y : MethodName} {cc : ByteArray} {nL : Nat} {ret : Option FieldType} {R : Room} {Ex : e_XT} {Z : e_ZT} {pc pc' : Nat} {lv : List (Nat × Value)} {st : List Value} {c : Hp} {n : Nat} {kc ks : Nat}
theorem E.iconst {i : Int} {v : Int32} (hd : decode cc pc = .ok (.iconst i, 1) ∧ pc + 1 = pc') (hv : Int32.ofInt i = v) (k : E G b y cc nL ret R Ex Z pc' lv (.int v :: st) c n kc ks) : E G b y cc nL ret R Ex Z pc lv st c n kc ks := by
  intro p l e s m args below meth cd H locs ls hc hS hH hl
  obtain ⟨hd, rfl⟩ := hd
  exact lv_iconst hc.1 hc.2.1 hd hv (k p l e s m args below meth cd H locs ls hc hS hH hl)
theorem E.bipush {i : Int} {v : Int32} (hd : decode cc pc = .ok (.bipush i, 2) ∧ pc + 2 = pc') (hv : (Int8.ofInt i).toInt32 = v) (k : E G b y cc nL ret R Ex Z pc' lv (.int v :: st) c n kc ks) : E G b y cc nL ret R Ex Z pc lv st c n kc ks := by
  intro p l e s m args below meth cd H locs ls hc hS hH hl
  obtain ⟨hd, rfl⟩ := hd
  exact lv_bipush hc.1 hc.2.1 hd hv (k p l e s m args below meth cd H locs ls hc hS hH hl)
theorem E.sipush {i : Int} {v : Int32} (hd : decode cc pc = .ok (.sipush i, 3) ∧ pc + 3 = pc') (hv : (Int16.ofInt i).toInt32 = v) (k : E G b y cc nL ret R Ex Z pc' lv (.int v :: st) c n kc ks) : E G b y cc nL ret R Ex Z pc lv st c n kc ks := by
  intro p l e s m args below meth cd H locs ls hc hS hH hl
  obtain ⟨hd, rfl⟩ := hd
  exact lv_sipush hc.1 hc.2.1 hd hv (k p l e s m args below meth cd H locs ls hc hS hH hl)
theorem E.lconst {i : Fin 2} {v : Int64} (hd : decode cc pc = .ok (.lconst i, 1) ∧ pc + 1 = pc') (hv : Int64.ofNat (i : Nat) = v) (k : E G b y cc nL ret R Ex Z pc' lv (.long v :: st) c n kc ks) : E G b y cc nL ret R Ex Z pc lv st c n kc ks := by
  intro p l e s m args below meth cd H locs ls hc hS hH hl
  obtain ⟨hd, rfl⟩ := hd
  exact lv_lconst hc.1 hc.2.1 hd hv (k p l e s m args below meth cd H locs ls hc hS hH hl)
theorem E.iload_n {k : Fin 4} {x : Int32} (q : Nat) (hd : decode cc pc = .ok (.iload_n k, 1) ∧ pc + 1 = pc') (hq : lv[q]? = some ((k : Nat), .int x)) (k : E G b y cc nL ret R Ex Z pc' lv (.int x :: st) c n kc ks) : E G b y cc nL ret R Ex Z pc lv st c n kc ks := by
  intro p l e s m args below meth cd H locs ls hc hS hH hl
  obtain ⟨hd, rfl⟩ := hd
  exact lv_iload_n hc.1 hc.2.1 hd rfl (lv_at hl q hq) (k p l e s m args below meth cd H locs ls hc hS hH hl)
theorem E.iload {i : Nat} {x : Int32} (q : Nat) (hd : decode cc pc = .ok (.iload i, 2) ∧ pc + 2 = pc') (hq : lv[q]? = some (i, .int x)) (k : E G b y cc nL ret R Ex Z pc' lv (.int x :: st) c n kc ks) : E G b y cc nL ret R Ex Z pc lv st c n kc ks := by
  intro p l e s m args below meth cd H locs ls hc hS hH hl
  obtain ⟨hd, rfl⟩ := hd
  exact lv_iload hc.1 hc.2.1 hd (lv_at hl q hq) (k p l e s m args below meth cd H locs ls hc hS hH hl)
theorem E.lload_n {k : Fin 4} {x : Int64} (q : Nat) (hd : decode cc pc = .ok (.lload_n k, 1) ∧ pc + 1 = pc') (hq : lv[q]? = some ((k : Nat), .long x)) (k : E G b y cc nL ret R Ex Z pc' lv (.long x :: st) c n kc ks) : E G b y cc nL ret R Ex Z pc lv st c n kc ks := by
  intro p l e s m args below meth cd H locs ls hc hS hH hl
  obtain ⟨hd, rfl⟩ := hd
  exact lv_lload_n hc.1 hc.2.1 hd rfl (lv_at hl q hq) (k p l e s m args below meth cd H locs ls hc hS hH hl)
theorem E.lload {i : Nat} {x : Int64} (q : Nat) (hd : decode cc pc = .ok (.lload i, 2) ∧ pc + 2 = pc') (hq : lv[q]? = some (i, .long x)) (k : E G b y cc nL ret R Ex Z pc' lv (.long x :: st) c n kc ks) : E G b y cc nL ret R Ex Z pc lv st c n kc ks := by
  intro p l e s m args below meth cd H locs ls hc hS hH hl
  obtain ⟨hd, rfl⟩ := hd
  exact lv_lload hc.1 hc.2.1 hd (lv_at hl q hq) (k p l e s m args below meth cd H locs ls hc hS hH hl)
theorem E.aload_n {k : Fin 4} {x : Nat} (q : Nat) (hd : decode cc pc = .ok (.aload_n k, 1) ∧ pc + 1 = pc') (hq : lv[q]? = some ((k : Nat), .ref x)) (k : E G b y cc nL ret R Ex Z pc' lv (.ref x :: st) c n kc ks) : E G b y cc nL ret R Ex Z pc lv st c n kc ks := by
  intro p l e s m args below meth cd H locs ls hc hS hH hl
  obtain ⟨hd, rfl⟩ := hd
  exact lv_aload_n hc.1 hc.2.1 hd rfl (lv_at hl q hq) (k p l e s m args below meth cd H locs ls hc hS hH hl)
theorem E.aload {i : Nat} {x : Nat} (q : Nat) (hd : decode cc pc = .ok (.aload i, 2) ∧ pc + 2 = pc') (hq : lv[q]? = some (i, .ref x)) (k : E G b y cc nL ret R Ex Z pc' lv (.ref x :: st) c n kc ks) : E G b y cc nL ret R Ex Z pc lv st c n kc ks := by
  intro p l e s m args below meth cd H locs ls hc hS hH hl
  obtain ⟨hd, rfl⟩ := hd
  exact lv_aload hc.1 hc.2.1 hd (lv_at hl q hq) (k p l e s m args below meth cd H locs ls hc hS hH hl)
theorem E.aload_nN {k : Fin 4} (q : Nat) (hd : decode cc pc = .ok (.aload_n k, 1) ∧ pc + 1 = pc') (hq : lv[q]? = some ((k : Nat), .null)) (k : E G b y cc nL ret R Ex Z pc' lv (.null :: st) c n kc ks) : E G b y cc nL ret R Ex Z pc lv st c n kc ks := by
  intro p l e s m args below meth cd H locs ls hc hS hH hl
  obtain ⟨hd, rfl⟩ := hd
  exact lv_aload_nN hc.1 hc.2.1 hd rfl (lv_at hl q hq) (k p l e s m args below meth cd H locs ls hc hS hH hl)
theorem E.istore_n {k : Fin 4} {x : Int32} {lv' : List (Nat × Value)} (hd : decode cc pc = .ok (.istore_n k, 1) ∧ pc + 1 = pc') (hn : (k : Nat) < nL) (hl' : ((k : Nat), Value.int x) :: lv.filter (fun q => !(q.1 == (k : Nat)) && !(q.1 + 1 == (k : Nat) && q.2.category == 2)) = lv') (k : E G b y cc nL ret R Ex Z pc' lv' st c n kc ks) : E G b y cc nL ret R Ex Z pc lv (.int x :: st) c n kc ks := by
  intro p l e s m args below meth cd H locs ls hc hS hH hl
  obtain ⟨hd, rfl⟩ := hd
  exact lv_istore_n hc.1 hc.2.1 hd rfl hl hn hl' (fun ls hl => k p l e s m args below meth cd H locs ls hc hS hH hl)
theorem E.istore {i : Nat} {x : Int32} {lv' : List (Nat × Value)} (hd : decode cc pc = .ok (.istore i, 2) ∧ pc + 2 = pc') (hn : i < nL) (hl' : (i, Value.int x) :: lv.filter (fun q => !(q.1 == i) && !(q.1 + 1 == i && q.2.category == 2)) = lv') (k : E G b y cc nL ret R Ex Z pc' lv' st c n kc ks) : E G b y cc nL ret R Ex Z pc lv (.int x :: st) c n kc ks := by
  intro p l e s m args below meth cd H locs ls hc hS hH hl
  obtain ⟨hd, rfl⟩ := hd
  exact lv_istore hc.1 hc.2.1 hd hl hn hl' (fun ls hl => k p l e s m args below meth cd H locs ls hc hS hH hl)
theorem E.astore_n {k : Fin 4} {x : Nat} {lv' : List (Nat × Value)} (hd : decode cc pc = .ok (.astore_n k, 1) ∧ pc + 1 = pc') (hn : (k : Nat) < nL) (hl' : ((k : Nat), Value.ref x) :: lv.filter (fun q => !(q.1 == (k : Nat)) && !(q.1 + 1 == (k : Nat) && q.2.category == 2)) = lv') (k : E G b y cc nL ret R Ex Z pc' lv' st c n kc ks) : E G b y cc nL ret R Ex Z pc lv (.ref x :: st) c n kc ks := by
  intro p l e s m args below meth cd H locs ls hc hS hH hl
  obtain ⟨hd, rfl⟩ := hd
  exact lv_astore_n hc.1 hc.2.1 hd rfl hl hn hl' (fun ls hl => k p l e s m args below meth cd H locs ls hc hS hH hl)
theorem E.astore_nN {k : Fin 4} {lv' : List (Nat × Value)} (hd : decode cc pc = .ok (.astore_n k, 1) ∧ pc + 1 = pc') (hn : (k : Nat) < nL) (hl' : ((k : Nat), Value.null) :: lv.filter (fun q => !(q.1 == (k : Nat)) && !(q.1 + 1 == (k : Nat) && q.2.category == 2)) = lv') (k : E G b y cc nL ret R Ex Z pc' lv' st c n kc ks) : E G b y cc nL ret R Ex Z pc lv (.null :: st) c n kc ks := by
  intro p l e s m args below meth cd H locs ls hc hS hH hl
  obtain ⟨hd, rfl⟩ := hd
  exact lv_astore_nN hc.1 hc.2.1 hd rfl hl hn hl' (fun ls hl => k p l e s m args below meth cd H locs ls hc hS hH hl)
theorem E.lstore_n {k : Fin 4} {x : Int64} {lv' : List (Nat × Value)} (hd : decode cc pc = .ok (.lstore_n k, 1) ∧ pc + 1 = pc') (hn : (k : Nat) + 1 < nL) (hl' : ((k : Nat), Value.long x) :: lv.filter (fun q => !(q.1 == (k : Nat)) && (!(q.1 == (k : Nat) + 1) && !(q.1 + 1 == (k : Nat) && q.2.category == 2))) = lv') (k : E G b y cc nL ret R Ex Z pc' lv' st c n kc ks) : E G b y cc nL ret R Ex Z pc lv (.long x :: st) c n kc ks := by
  intro p l e s m args below meth cd H locs ls hc hS hH hl
  obtain ⟨hd, rfl⟩ := hd
  exact lv_lstore_n hc.1 hc.2.1 hd rfl hl hn hl' (fun ls hl => k p l e s m args below meth cd H locs ls hc hS hH hl)
theorem E.lstore {i : Nat} {x : Int64} {lv' : List (Nat × Value)} (hd : decode cc pc = .ok (.lstore i, 2) ∧ pc + 2 = pc') (hn : i + 1 < nL) (hl' : (i, Value.long x) :: lv.filter (fun q => !(q.1 == i) && (!(q.1 == i + 1) && !(q.1 + 1 == i && q.2.category == 2))) = lv') (k : E G b y cc nL ret R Ex Z pc' lv' st c n kc ks) : E G b y cc nL ret R Ex Z pc lv (.long x :: st) c n kc ks := by
  intro p l e s m args below meth cd H locs ls hc hS hH hl
  obtain ⟨hd, rfl⟩ := hd
  exact lv_lstore hc.1 hc.2.1 hd hl hn hl' (fun ls hl => k p l e s m args below meth cd H locs ls hc hS hH hl)
theorem E.iinc {i q : Nat} {j : Int} {x v : Int32} {lv' : List (Nat × Value)} (hd : decode cc pc = .ok (.iinc i j, 3) ∧ pc + 3 = pc') (hq : lv[q]? = some (i, .int x)) (hv : x + Int32.ofInt j = v) (hn : i < nL) (hl' : (i, Value.int v) :: lv.filter (fun q => !(q.1 == i) && !(q.1 + 1 == i && q.2.category == 2)) = lv') (k : E G b y cc nL ret R Ex Z pc' lv' st c n kc ks) : E G b y cc nL ret R Ex Z pc lv st c n kc ks := by
  intro p l e s m args below meth cd H locs ls hc hS hH hl
  obtain ⟨hd, rfl⟩ := hd
  exact lv_iinc hc.1 hc.2.1 hd hl hq hv hn hl' (fun ls hl => k p l e s m args below meth cd H locs ls hc hS hH hl)
theorem E.iadd {x z : Int32} (hd : decode cc pc = .ok (.iadd, 1) ∧ pc + 1 = pc') (k : E G b y cc nL ret R Ex Z pc' lv (.int (x + z) :: st) c n kc ks) : E G b y cc nL ret R Ex Z pc lv (.int z :: .int x :: st) c n kc ks := by
  intro p l e s m args below meth cd H locs ls hc hS hH hl
  obtain ⟨hd, rfl⟩ := hd
  exact lv_iadd hc.1 hc.2.1 hd (k p l e s m args below meth cd H locs ls hc hS hH hl)
theorem E.isub {x z : Int32} (hd : decode cc pc = .ok (.isub, 1) ∧ pc + 1 = pc') (k : E G b y cc nL ret R Ex Z pc' lv (.int (x - z) :: st) c n kc ks) : E G b y cc nL ret R Ex Z pc lv (.int z :: .int x :: st) c n kc ks := by
  intro p l e s m args below meth cd H locs ls hc hS hH hl
  obtain ⟨hd, rfl⟩ := hd
  exact lv_isub hc.1 hc.2.1 hd (k p l e s m args below meth cd H locs ls hc hS hH hl)
theorem E.imul {x z : Int32} (hd : decode cc pc = .ok (.imul, 1) ∧ pc + 1 = pc') (k : E G b y cc nL ret R Ex Z pc' lv (.int (x * z) :: st) c n kc ks) : E G b y cc nL ret R Ex Z pc lv (.int z :: .int x :: st) c n kc ks := by
  intro p l e s m args below meth cd H locs ls hc hS hH hl
  obtain ⟨hd, rfl⟩ := hd
  exact lv_imul hc.1 hc.2.1 hd (k p l e s m args below meth cd H locs ls hc hS hH hl)
theorem E.iand {x z : Int32} (hd : decode cc pc = .ok (.iand, 1) ∧ pc + 1 = pc') (k : E G b y cc nL ret R Ex Z pc' lv (.int (x &&& z) :: st) c n kc ks) : E G b y cc nL ret R Ex Z pc lv (.int z :: .int x :: st) c n kc ks := by
  intro p l e s m args below meth cd H locs ls hc hS hH hl
  obtain ⟨hd, rfl⟩ := hd
  exact lv_iand hc.1 hc.2.1 hd (k p l e s m args below meth cd H locs ls hc hS hH hl)
theorem E.ior {x z : Int32} (hd : decode cc pc = .ok (.ior, 1) ∧ pc + 1 = pc') (k : E G b y cc nL ret R Ex Z pc' lv (.int (x ||| z) :: st) c n kc ks) : E G b y cc nL ret R Ex Z pc lv (.int z :: .int x :: st) c n kc ks := by
  intro p l e s m args below meth cd H locs ls hc hS hH hl
  obtain ⟨hd, rfl⟩ := hd
  exact lv_ior hc.1 hc.2.1 hd (k p l e s m args below meth cd H locs ls hc hS hH hl)
theorem E.ixor {x z : Int32} (hd : decode cc pc = .ok (.ixor, 1) ∧ pc + 1 = pc') (k : E G b y cc nL ret R Ex Z pc' lv (.int (x ^^^ z) :: st) c n kc ks) : E G b y cc nL ret R Ex Z pc lv (.int z :: .int x :: st) c n kc ks := by
  intro p l e s m args below meth cd H locs ls hc hS hH hl
  obtain ⟨hd, rfl⟩ := hd
  exact lv_ixor hc.1 hc.2.1 hd (k p l e s m args below meth cd H locs ls hc hS hH hl)
theorem E.ishl {x z : Int32} (hd : decode cc pc = .ok (.ishl, 1) ∧ pc + 1 = pc') (k : E G b y cc nL ret R Ex Z pc' lv (.int (x <<< (z &&& 31)) :: st) c n kc ks) : E G b y cc nL ret R Ex Z pc lv (.int z :: .int x :: st) c n kc ks := by
  intro p l e s m args below meth cd H locs ls hc hS hH hl
  obtain ⟨hd, rfl⟩ := hd
  exact lv_ishl hc.1 hc.2.1 hd (k p l e s m args below meth cd H locs ls hc hS hH hl)
theorem E.ishr {x z : Int32} (hd : decode cc pc = .ok (.ishr, 1) ∧ pc + 1 = pc') (k : E G b y cc nL ret R Ex Z pc' lv (.int (x >>> (z &&& 31)) :: st) c n kc ks) : E G b y cc nL ret R Ex Z pc lv (.int z :: .int x :: st) c n kc ks := by
  intro p l e s m args below meth cd H locs ls hc hS hH hl
  obtain ⟨hd, rfl⟩ := hd
  exact lv_ishr hc.1 hc.2.1 hd (k p l e s m args below meth cd H locs ls hc hS hH hl)
theorem E.iushr {x z : Int32} (hd : decode cc pc = .ok (.iushr, 1) ∧ pc + 1 = pc') (k : E G b y cc nL ret R Ex Z pc' lv (.int ((x.toUInt32 >>> (z.toUInt32 &&& Int32.toUInt32 31)).toInt32) :: st) c n kc ks) : E G b y cc nL ret R Ex Z pc lv (.int z :: .int x :: st) c n kc ks := by
  intro p l e s m args below meth cd H locs ls hc hS hH hl
  obtain ⟨hd, rfl⟩ := hd
  exact lv_iushr hc.1 hc.2.1 hd rfl (k p l e s m args below meth cd H locs ls hc hS hH hl)
theorem E.idiv {x z : Int32} (hd : decode cc pc = .ok (.idiv, 1) ∧ pc + 1 = pc') (h0 : ¬ z = 0) (k : E G b y cc nL ret R Ex Z pc' lv (.int (x / z) :: st) c n kc ks) : E G b y cc nL ret R Ex Z pc lv (.int z :: .int x :: st) c n kc ks := by
  intro p l e s m args below meth cd H locs ls hc hS hH hl
  obtain ⟨hd, rfl⟩ := hd
  exact lv_idiv hc.1 hc.2.1 hd h0 (k p l e s m args below meth cd H locs ls hc hS hH hl)
theorem E.irem {x z : Int32} (hd : decode cc pc = .ok (.irem, 1) ∧ pc + 1 = pc') (h0 : ¬ z = 0) (k : E G b y cc nL ret R Ex Z pc' lv (.int (x - x / z * z) :: st) c n kc ks) : E G b y cc nL ret R Ex Z pc lv (.int z :: .int x :: st) c n kc ks := by
  intro p l e s m args below meth cd H locs ls hc hS hH hl
  obtain ⟨hd, rfl⟩ := hd
  exact lv_irem hc.1 hc.2.1 hd h0 (k p l e s m args below meth cd H locs ls hc hS hH hl)
theorem E.ineg {x : Int32} (hd : decode cc pc = .ok (.ineg, 1) ∧ pc + 1 = pc') (k : E G b y cc nL ret R Ex Z pc' lv (.int (-x) :: st) c n kc ks) : E G b y cc nL ret R Ex Z pc lv (.int x :: st) c n kc ks := by
  intro p l e s m args below meth cd H locs ls hc hS hH hl
  obtain ⟨hd, rfl⟩ := hd
  exact lv_ineg hc.1 hc.2.1 hd (k p l e s m args below meth cd H locs ls hc hS hH hl)
theorem E.ladd {x z : Int64} (hd : decode cc pc = .ok (.ladd, 1) ∧ pc + 1 = pc') (k : E G b y cc nL ret R Ex Z pc' lv (.long (x + z) :: st) c n kc ks) : E G b y cc nL ret R Ex Z pc lv (.long z :: .long x :: st) c n kc ks := by
  intro p l e s m args below meth cd H locs ls hc hS hH hl
  obtain ⟨hd, rfl⟩ := hd
  exact lv_ladd hc.1 hc.2.1 hd (k p l e s m args below meth cd H locs ls hc hS hH hl)
theorem E.lsub {x z : Int64} (hd : decode cc pc = .ok (.lsub, 1) ∧ pc + 1 = pc') (k : E G b y cc nL ret R Ex Z pc' lv (.long (x - z) :: st) c n kc ks) : E G b y cc nL ret R Ex Z pc lv (.long z :: .long x :: st) c n kc ks := by
  intro p l e s m args below meth cd H locs ls hc hS hH hl
  obtain ⟨hd, rfl⟩ := hd
  exact lv_lsub hc.1 hc.2.1 hd (k p l e s m args below meth cd H locs ls hc hS hH hl)
theorem E.lmul {x z : Int64} (hd : decode cc pc = .ok (.lmul, 1) ∧ pc + 1 = pc') (k : E G b y cc nL ret R Ex Z pc' lv (.long (x * z) :: st) c n kc ks) : E G b y cc nL ret R Ex Z pc lv (.long z :: .long x :: st) c n kc ks := by
  intro p l e s m args below meth cd H locs ls hc hS hH hl
  obtain ⟨hd, rfl⟩ := hd
  exact lv_lmul hc.1 hc.2.1 hd (k p l e s m args below meth cd H locs ls hc hS hH hl)
theorem E.ldiv {x z : Int64} (hd : decode cc pc = .ok (.ldiv, 1) ∧ pc + 1 = pc') (h0 : ¬ z = 0) (k : E G b y cc nL ret R Ex Z pc' lv (.long (x / z) :: st) c n kc ks) : E G b y cc nL ret R Ex Z pc lv (.long z :: .long x :: st) c n kc ks := by
  intro p l e s m args below meth cd H locs ls hc hS hH hl
  obtain ⟨hd, rfl⟩ := hd
  exact lv_ldiv hc.1 hc.2.1 hd h0 (k p l e s m args below meth cd H locs ls hc hS hH hl)
theorem E.lrem {x z : Int64} (hd : decode cc pc = .ok (.lrem, 1) ∧ pc + 1 = pc') (h0 : ¬ z = 0) (k : E G b y cc nL ret R Ex Z pc' lv (.long (x - x / z * z) :: st) c n kc ks) : E G b y cc nL ret R Ex Z pc lv (.long z :: .long x :: st) c n kc ks := by
  intro p l e s m args below meth cd H locs ls hc hS hH hl
  obtain ⟨hd, rfl⟩ := hd
  exact lv_lrem hc.1 hc.2.1 hd h0 (k p l e s m args below meth cd H locs ls hc hS hH hl)
theorem E.lneg {x : Int64} (hd : decode cc pc = .ok (.lneg, 1) ∧ pc + 1 = pc') (k : E G b y cc nL ret R Ex Z pc' lv (.long (-x) :: st) c n kc ks) : E G b y cc nL ret R Ex Z pc lv (.long x :: st) c n kc ks := by
  intro p l e s m args below meth cd H locs ls hc hS hH hl
  obtain ⟨hd, rfl⟩ := hd
  exact lv_lneg hc.1 hc.2.1 hd (k p l e s m args below meth cd H locs ls hc hS hH hl)
theorem E.lcmp {x z : Int64} (hd : decode cc pc = .ok (.lcmp, 1) ∧ pc + 1 = pc') (k : E G b y cc nL ret R Ex Z pc' lv (.int (lg_cmp x z) :: st) c n kc ks) : E G b y cc nL ret R Ex Z pc lv (.long z :: .long x :: st) c n kc ks := by
  intro p l e s m args below meth cd H locs ls hc hS hH hl
  obtain ⟨hd, rfl⟩ := hd
  exact W.lcmp hc.1 hc.2.1 hd (k p l e s m args below meth cd H locs ls hc hS hH hl)
theorem E.i2l {x : Int32} (hd : decode cc pc = .ok (.i2l, 1) ∧ pc + 1 = pc') (k : E G b y cc nL ret R Ex Z pc' lv (.long x.toInt64 :: st) c n kc ks) : E G b y cc nL ret R Ex Z pc lv (.int x :: st) c n kc ks := by
  intro p l e s m args below meth cd H locs ls hc hS hH hl
  obtain ⟨hd, rfl⟩ := hd
  exact lv_i2l hc.1 hc.2.1 hd rfl (k p l e s m args below meth cd H locs ls hc hS hH hl)
theorem E.l2i {x : Int64} (hd : decode cc pc = .ok (.l2i, 1) ∧ pc + 1 = pc') (k : E G b y cc nL ret R Ex Z pc' lv (.int x.toInt32 :: st) c n kc ks) : E G b y cc nL ret R Ex Z pc lv (.long x :: st) c n kc ks := by
  intro p l e s m args below meth cd H locs ls hc hS hH hl
  obtain ⟨hd, rfl⟩ := hd
  exact lv_l2i hc.1 hc.2.1 hd rfl (k p l e s m args below meth cd H locs ls hc hS hH hl)
theorem E.i2c {x : Int32} (hd : decode cc pc = .ok (.i2c, 1) ∧ pc + 1 = pc') (k : E G b y cc nL ret R Ex Z pc' lv (.int (x.toUInt32 % 65536).toInt32 :: st) c n kc ks) : E G b y cc nL ret R Ex Z pc lv (.int x :: st) c n kc ks := by
  intro p l e s m args below meth cd H locs ls hc hS hH hl
  obtain ⟨hd, rfl⟩ := hd
  exact lv_i2c hc.1 hc.2.1 hd rfl (k p l e s m args below meth cd H locs ls hc hS hH hl)
theorem E.aconst_null  (hd : decode cc pc = .ok (.aconst_null, 1) ∧ pc + 1 = pc') (k : E G b y cc nL ret R Ex Z pc' lv (.null :: st) c n kc ks) : E G b y cc nL ret R Ex Z pc lv st c n kc ks := by
  intro p l e s m args below meth cd H locs ls hc hS hH hl
  obtain ⟨hd, rfl⟩ := hd
  exact lv_null hc.1 hc.2.1 hd (k p l e s m args below meth cd H locs ls hc hS hH hl)
theorem E.dup {va : Value} (hd : decode cc pc = .ok (.dup, 1) ∧ pc + 1 = pc') (h1 : va.category = 1) (k : E G b y cc nL ret R Ex Z pc' lv (va :: va :: st) c n kc ks) : E G b y cc nL ret R Ex Z pc lv (va :: st) c n kc ks := by
  intro p l e s m args below meth cd H locs ls hc hS hH hl
  obtain ⟨hd, rfl⟩ := hd
  exact lv_dup hc.1 hc.2.1 hd h1 (k p l e s m args below meth cd H locs ls hc hS hH hl)
theorem E.pop {va : Value} (hd : decode cc pc = .ok (.pop, 1) ∧ pc + 1 = pc') (h1 : va.category = 1) (k : E G b y cc nL ret R Ex Z pc' lv st c n kc ks) : E G b y cc nL ret R Ex Z pc lv (va :: st) c n kc ks := by
  intro p l e s m args below meth cd H locs ls hc hS hH hl
  obtain ⟨hd, rfl⟩ := hd
  exact lv_pop hc.1 hc.2.1 hd h1 (k p l e s m args below meth cd H locs ls hc hS hH hl)
theorem E.dup2_11 {va vb : Value} (hd : decode cc pc = .ok (.dup2, 1) ∧ pc + 1 = pc') (h1 : va.category = 1) (h2 : vb.category = 1) (k : E G b y cc nL ret R Ex Z pc' lv (va :: vb :: va :: vb :: st) c n kc ks) : E G b y cc nL ret R Ex Z pc lv (va :: vb :: st) c n kc ks := by
  intro p l e s m args below meth cd H locs ls hc hS hH hl
  obtain ⟨hd, rfl⟩ := hd
  exact lv_dup2_11 hc.1 hc.2.1 hd h1 h2 (k p l e s m args below meth cd H locs ls hc hS hH hl)
theorem E.dup2_2 {va : Value} (hd : decode cc pc = .ok (.dup2, 1) ∧ pc + 1 = pc') (h1 : va.category = 2) (k : E G b y cc nL ret R Ex Z pc' lv (va :: va :: st) c n kc ks) : E G b y cc nL ret R Ex Z pc lv (va :: st) c n kc ks := by
  intro p l e s m args below meth cd H locs ls hc hS hH hl
  obtain ⟨hd, rfl⟩ := hd
  exact lv_dup2_2 hc.1 hc.2.1 hd h1 (k p l e s m args below meth cd H locs ls hc hS hH hl)
theorem E.icmp_eq {x z : Int32} {off : Int} {tgt : Nat} (hd : decode cc pc = .ok (.if_icmp .eq off, 3) ∧ pc + 3 = pc' ∧ (pc : Int) + off = (tgt : Int)) (kt : x = z → E G b y cc nL ret R Ex Z tgt lv st c n kc ks) (kf : ¬ x = z → E G b y cc nL ret R Ex Z pc' lv st c n kc ks) : E G b y cc nL ret R Ex Z pc lv (.int z :: .int x :: st) c n kc ks := by
  intro p l e s m args below meth cd H locs ls hc hS hH hl
  obtain ⟨hd, rfl, ht⟩ := hd
  exact lv_icmp_eq hc.1 hc.2.1 hd ht (fun h => kt h p l e s m args below meth cd H locs ls hc hS hH hl) (fun h => kf h p l e s m args below meth cd H locs ls hc hS hH hl)
theorem E.if_eq {x : Int32} {off : Int} {tgt : Nat} (hd : decode cc pc = .ok (.ifCond .eq off, 3) ∧ pc + 3 = pc' ∧ (pc : Int) + off = (tgt : Int)) (kt : x = 0 → E G b y cc nL ret R Ex Z tgt lv st c n kc ks) (kf : ¬ x = 0 → E G b y cc nL ret R Ex Z pc' lv st c n kc ks) : E G b y cc nL ret R Ex Z pc lv (.int x :: st) c n kc ks := by
  intro p l e s m args below meth cd H locs ls hc hS hH hl
  obtain ⟨hd, rfl, ht⟩ := hd
  exact lv_if_eq hc.1 hc.2.1 hd ht (fun h => kt h p l e s m args below meth cd H locs ls hc hS hH hl) (fun h => kf h p l e s m args below meth cd H locs ls hc hS hH hl)
theorem E.icmp_ne {x z : Int32} {off : Int} {tgt : Nat} (hd : decode cc pc = .ok (.if_icmp .ne off, 3) ∧ pc + 3 = pc' ∧ (pc : Int) + off = (tgt : Int)) (kt : ¬ x = z → E G b y cc nL ret R Ex Z tgt lv st c n kc ks) (kf : x = z → E G b y cc nL ret R Ex Z pc' lv st c n kc ks) : E G b y cc nL ret R Ex Z pc lv (.int z :: .int x :: st) c n kc ks := by
  intro p l e s m args below meth cd H locs ls hc hS hH hl
  obtain ⟨hd, rfl, ht⟩ := hd
  exact lv_icmp_ne hc.1 hc.2.1 hd ht (fun h => kt h p l e s m args below meth cd H locs ls hc hS hH hl) (fun h => kf h p l e s m args below meth cd H locs ls hc hS hH hl)
theorem E.if_ne {x : Int32} {off : Int} {tgt : Nat} (hd : decode cc pc = .ok (.ifCond .ne off, 3) ∧ pc + 3 = pc' ∧ (pc : Int) + off = (tgt : Int)) (kt : ¬ x = 0 → E G b y cc nL ret R Ex Z tgt lv st c n kc ks) (kf : x = 0 → E G b y cc nL ret R Ex Z pc' lv st c n kc ks) : E G b y cc nL ret R Ex Z pc lv (.int x :: st) c n kc ks := by
  intro p l e s m args below meth cd H locs ls hc hS hH hl
  obtain ⟨hd, rfl, ht⟩ := hd
  exact lv_if_ne hc.1 hc.2.1 hd ht (fun h => kt h p l e s m args below meth cd H locs ls hc hS hH hl) (fun h => kf h p l e s m args below meth cd H locs ls hc hS hH hl)
theorem E.icmp_lt {x z : Int32} {off : Int} {tgt : Nat} (hd : decode cc pc = .ok (.if_icmp .lt off, 3) ∧ pc + 3 = pc' ∧ (pc : Int) + off = (tgt : Int)) (kt : x < z → E G b y cc nL ret R Ex Z tgt lv st c n kc ks) (kf : ¬ x < z → E G b y cc nL ret R Ex Z pc' lv st c n kc ks) : E G b y cc nL ret R Ex Z pc lv (.int z :: .int x :: st) c n kc ks := by
  intro p l e s m args below meth cd H locs ls hc hS hH hl
  obtain ⟨hd, rfl, ht⟩ := hd
  exact lv_icmp_lt hc.1 hc.2.1 hd ht (fun h => kt h p l e s m args below meth cd H locs ls hc hS hH hl) (fun h => kf h p l e s m args below meth cd H locs ls hc hS hH hl)
theorem E.if_lt {x : Int32} {off : Int} {tgt : Nat} (hd : decode cc pc = .ok (.ifCond .lt off, 3) ∧ pc + 3 = pc' ∧ (pc : Int) + off = (tgt : Int)) (kt : x < 0 → E G b y cc nL ret R Ex Z tgt lv st c n kc ks) (kf : ¬ x < 0 → E G b y cc nL ret R Ex Z pc' lv st c n kc ks) : E G b y cc nL ret R Ex Z pc lv (.int x :: st) c n kc ks := by
  intro p l e s m args below meth cd H locs ls hc hS hH hl
  obtain ⟨hd, rfl, ht⟩ := hd
  exact lv_if_lt hc.1 hc.2.1 hd ht (fun h => kt h p l e s m args below meth cd H locs ls hc hS hH hl) (fun h => kf h p l e s m args below meth cd H locs ls hc hS hH hl)
theorem E.icmp_ge {x z : Int32} {off : Int} {tgt : Nat} (hd : decode cc pc = .ok (.if_icmp .ge off, 3) ∧ pc + 3 = pc' ∧ (pc : Int) + off = (tgt : Int)) (kt : z ≤ x → E G b y cc nL ret R Ex Z tgt lv st c n kc ks) (kf : ¬ z ≤ x → E G b y cc nL ret R Ex Z pc' lv st c n kc ks) : E G b y cc nL ret R Ex Z pc lv (.int z :: .int x :: st) c n kc ks := by
  intro p l e s m args below meth cd H locs ls hc hS hH hl
  obtain ⟨hd, rfl, ht⟩ := hd
  exact lv_icmp_ge hc.1 hc.2.1 hd ht (fun h => kt h p l e s m args below meth cd H locs ls hc hS hH hl) (fun h => kf h p l e s m args below meth cd H locs ls hc hS hH hl)
theorem E.if_ge {x : Int32} {off : Int} {tgt : Nat} (hd : decode cc pc = .ok (.ifCond .ge off, 3) ∧ pc + 3 = pc' ∧ (pc : Int) + off = (tgt : Int)) (kt : 0 ≤ x → E G b y cc nL ret R Ex Z tgt lv st c n kc ks) (kf : ¬ 0 ≤ x → E G b y cc nL ret R Ex Z pc' lv st c n kc ks) : E G b y cc nL ret R Ex Z pc lv (.int x :: st) c n kc ks := by
  intro p l e s m args below meth cd H locs ls hc hS hH hl
  obtain ⟨hd, rfl, ht⟩ := hd
  exact lv_if_ge hc.1 hc.2.1 hd ht (fun h => kt h p l e s m args below meth cd H locs ls hc hS hH hl) (fun h => kf h p l e s m args below meth cd H locs ls hc hS hH hl)
theorem E.icmp_gt {x z : Int32} {off : Int} {tgt : Nat} (hd : decode cc pc = .ok (.if_icmp .gt off, 3) ∧ pc + 3 = pc' ∧ (pc : Int) + off = (tgt : Int)) (kt : z < x → E G b y cc nL ret R Ex Z tgt lv st c n kc ks) (kf : ¬ z < x → E G b y cc nL ret R Ex Z pc' lv st c n kc ks) : E G b y cc nL ret R Ex Z pc lv (.int z :: .int x :: st) c n kc ks := by
  intro p l e s m args below meth cd H locs ls hc hS hH hl
  obtain ⟨hd, rfl, ht⟩ := hd
  exact lv_icmp_gt hc.1 hc.2.1 hd ht (fun h => kt h p l e s m args below meth cd H locs ls hc hS hH hl) (fun h => kf h p l e s m args below meth cd H locs ls hc hS hH hl)
theorem E.if_gt {x : Int32} {off : Int} {tgt : Nat} (hd : decode cc pc = .ok (.ifCond .gt off, 3) ∧ pc + 3 = pc' ∧ (pc : Int) + off = (tgt : Int)) (kt : 0 < x → E G b y cc nL ret R Ex Z tgt lv st c n kc ks) (kf : ¬ 0 < x → E G b y cc nL ret R Ex Z pc' lv st c n kc ks) : E G b y cc nL ret R Ex Z pc lv (.int x :: st) c n kc ks := by
  intro p l e s m args below meth cd H locs ls hc hS hH hl
  obtain ⟨hd, rfl, ht⟩ := hd
  exact lv_if_gt hc.1 hc.2.1 hd ht (fun h => kt h p l e s m args below meth cd H locs ls hc hS hH hl) (fun h => kf h p l e s m args below meth cd H locs ls hc hS hH hl)
theorem E.icmp_le {x z : Int32} {off : Int} {tgt : Nat} (hd : decode cc pc = .ok (.if_icmp .le off, 3) ∧ pc + 3 = pc' ∧ (pc : Int) + off = (tgt : Int)) (kt : x ≤ z → E G b y cc nL ret R Ex Z tgt lv st c n kc ks) (kf : ¬ x ≤ z → E G b y cc nL ret R Ex Z pc' lv st c n kc ks) : E G b y cc nL ret R Ex Z pc lv (.int z :: .int x :: st) c n kc ks := by
  intro p l e s m args below meth cd H locs ls hc hS hH hl
  obtain ⟨hd, rfl, ht⟩ := hd
  exact lv_icmp_le hc.1 hc.2.1 hd ht (fun h => kt h p l e s m args below meth cd H locs ls hc hS hH hl) (fun h => kf h p l e s m args below meth cd H locs ls hc hS hH hl)
theorem E.if_le {x : Int32} {off : Int} {tgt : Nat} (hd : decode cc pc = .ok (.ifCond .le off, 3) ∧ pc + 3 = pc' ∧ (pc : Int) + off = (tgt : Int)) (kt : x ≤ 0 → E G b y cc nL ret R Ex Z tgt lv st c n kc ks) (kf : ¬ x ≤ 0 → E G b y cc nL ret R Ex Z pc' lv st c n kc ks) : E G b y cc nL ret R Ex Z pc lv (.int x :: st) c n kc ks := by
  intro p l e s m args below meth cd H locs ls hc hS hH hl
  obtain ⟨hd, rfl, ht⟩ := hd
  exact lv_if_le hc.1 hc.2.1 hd ht (fun h => kt h p l e s m args below meth cd H locs ls hc hS hH hl) (fun h => kf h p l e s m args below meth cd H locs ls hc hS hH hl)
theorem E.goto {off : Int} {tgt : Nat} (hd : decode cc pc = .ok (.goto off, 3) ∧ (pc : Int) + off = (tgt : Int)) (k : E G b y cc nL ret R Ex Z tgt lv st c n kc ks) : E G b y cc nL ret R Ex Z pc lv st c n kc ks := by
  intro p l e s m args below meth cd H locs ls hc hS hH hl
  exact lv_goto hc.1 hc.2.1 hd.1 hd.2 (k p l e s m args below meth cd H locs ls hc hS hH hl)
theorem E.goal {c2 : Hp} (h : c = c2) (k : E G b y cc nL ret R Ex Z pc lv st c2 n kc ks) : E G b y cc nL ret R Ex Z pc lv st c n kc ks := h ▸ k
theorem E.widen {kc' ks' : Nat} (h1 : kc ≤ kc') (h2 : ks ≤ ks') (k : E G b y cc nL ret R Ex Z pc lv st c n kc' ks') : E G b y cc nL ret R Ex Z pc lv st c n kc ks := by
  intro p l e s m args below meth cd H locs ls hc hS hH hl
  exact W.widen h1 h2 (k p l e s m args below meth cd H locs ls hc hS hH hl)
theorem E.locals {lv' : List (Nat × Value)} (ps : List Nat) (h : lv_pick lv ps = lv') (k : E G b y cc nL ret R Ex Z pc lv' st c n kc ks) : E G b y cc nL ret R Ex Z pc lv st c n kc ks := by
  intro p l e s m args below meth cd H locs ls hc hS hH hl
  exact k p l e s m args below meth cd H locs ls hc hS hH (lv_sub hl ps h)
/-- what a link of a field says -/
def e_fl (own : String) (index : Nat) (C : String) (T : u_T) (N k : Nat) : Prop := k < N ∧ Cond.fieldLink own index (T k).1 (T k).2.1 (T k).2.2.1 ∈ gT ∧ ∀ w ∈ u_ws C T N, w ∈ gT
def e_fn (own : String) (index : Nat) (C : String) (T : u_T) (N k : Nat) : Prop := k < N ∧ (∃ host, Cond.fieldLinkNest own index (T k).1 (T k).2.1 (T k).2.2.1 host ∈ e_nest) ∧ ∀ w ∈ u_ws C T N, w ∈ gT
variable {kz : List Nat} {es : List va_E} {c0 : Hp} {own C : String} {T : u_T} {N ci index : Nat} {fs : List Value} {v : Value}
theorem E.get (hw : e_wf kz n) (q i : Nat) {f : Nat} (hd : decode cc pc = .ok (.getfield index, 3) ∧ pc + 3 = pc') (hf : e_fl y.cls index C T N f) (hk : kz[q]? = some i) (he : es[q]? = some (.inr (ci, fs))) (hc' : cls13[ci]? = some (C, T, N)) (hv : fs[f]? = some v) (k : E G b y cc nL ret R Ex Z pc' lv (v :: st) (e_ov kz es c0) n kc ks) : E G b y cc nL ret R Ex Z pc lv (.ref (b + i) :: st) (e_ov kz es c0) n kc ks := by
  intro p l e s m args below meth cd H locs ls hc hS hH hl
  obtain ⟨hd, rfl⟩ := hd
  obtain ⟨hx, hb, hr, hml, hown, hts, hlk, hK, hnm, hbs, hex⟩ := id hc
  have hat := hH.2 i (hw.sub hk)
  rw [e_ov_get hw.1 hk he] at hat
  exact va_get (D := G.1) (cl := cls13) (ws := [(b + i, .inr (ci, fs))]) hx hb hts hf.2.2 hown hK.1 (fun k q hq => by
    cases k with
    | zero => cases hq; exact hat
    | succ k => simp at hq) 0 rfl hc' f hf.1 (hts _ hf.2.1) (fun _ h9 => h9) hv hd (k p l e s m args below meth cd H locs ls hc hS hH hl)
theorem E.getN (hw : e_wf kz n) (q i : Nat) {f : Nat} (hd : decode cc pc = .ok (.getfield index, 3) ∧ pc + 3 = pc') (hf : e_fn y.cls index C T N f) (hk : kz[q]? = some i) (he : es[q]? = some (.inr (ci, fs))) (hc' : cls13[ci]? = some (C, T, N)) (hv : fs[f]? = some v) (k : E G b y cc nL ret R Ex Z pc' lv (v :: st) (e_ov kz es c0) n kc ks) : E G b y cc nL ret R Ex Z pc lv (.ref (b + i) :: st) (e_ov kz es c0) n kc ks := by
  intro p l e s m args below meth cd H locs ls hc hS hH hl
  obtain ⟨hd, rfl⟩ := hd
  obtain ⟨hx, hb, hr, hml, hown, hts, hlk, hK, hnm, hbs, hex⟩ := id hc
  obtain ⟨hfN, ⟨host, hh⟩, hfw⟩ := hf
  have hat := hH.2 i (hw.sub hk)
  rw [e_ov_get hw.1 hk he] at hat
  exact va_getN (D := G.1) (cl := cls13) (host := host) (ws := [(b + i, .inr (ci, fs))]) hx hb hts hfw hown hK.1 (fun k q hq => by
    cases k with
    | zero => cases hq; exact hat
    | succ k => simp at hq) 0 rfl hc' f hfN (va_Nw.use rfl (hK.2.1 _ hh)) (fun _ h9 => h9) hv hd (k p l e s m args below meth cd H locs ls hc hS hH hl)
/-- types and names of a class' fields -/
def e_ft (T : u_T) (N : Nat) (ty : Nat → FieldType) : Prop := (∀ k, k < N → parseFieldDescriptor (T k).2.2.1 = some (ty k)) ∧ ∀ a, a < N → ∀ b, b < N → a ≠ b → (T a).2.1 ≠ (T b).2.1
theorem E.put {es' : List va_E} {ty : Nat → FieldType} (hw : e_wf kz n) (q i : Nat) {f : Nat} (hd : decode cc pc = .ok (.putfield index, 3) ∧ pc + 3 = pc') (hf : e_fl y.cls index C T N f) (ht : e_ft T N ty) (hk : kz[q]? = some i) (he : es[q]? = some (.inr (ci, fs))) (hc' : cls13[ci]? = some (C, T, N)) (hfin : (T f).2.2.2 = false) (hn : narrow (ty f) v = v) (hfit : fits (ty f) v = true) (hlen : f < fs.length) (hes : es.set q (.inr (ci, fs.set f v)) = es') (k : E G b y cc nL ret R Ex Z pc' lv st (e_ov kz es' c0) n kc ks) : E G b y cc nL ret R Ex Z pc lv (v :: .ref (b + i) :: st) (e_ov kz es c0) n kc ks := by
  intro p l e s m args below meth cd H locs ls hc hS hH hl
  obtain ⟨hd, rfl⟩ := hd
  obtain ⟨hx, hb, hr, hml, hown, hts, hlk, hK, hnm, hbs, hex⟩ := id hc
  have hat := hH.2 i (hw.sub hk)
  rw [e_ov_get hw.1 hk he] at hat
  have hap := va_apart (own := y.cls) (D := G.1) (cl := cls13) hts hf.2.2 ty ht.1 ht.2 hK.1 hc'
  obtain ⟨r, h1, cell, q1, q2, q3, q4⟩ := hat
  have hr' : r = (C, T, N) := Option.some.inj (h1.symm.trans hc')
  subst hr'
  obtain ⟨hSl, hfc, kC, hkC, hkind⟩ := hK.1.1 ci _ hc'
  obtain ⟨cf, kf, fi, fd, hi, hsl⟩ := hSl f hf.1
  have hlay := hts _ (hf.2.2 _ (u_in_lay hf.1))
  unfold u_lay at hlay
  rw [if_neg (by rw [hfin]; decide)] at hlay
  have hst := (u_facts hfc hkC (u_lays hts hf.2.2 hf.1) hi).1
  have h6 := u_store hfc hkC hkind hlay hi (ht.1 f hf.1) hn hfit
  refine W.putK hx hb (f := fd) ⟨hown, hts _ hf.2.1, ⟨_, _, _, hi⟩, hst⟩ (by rw [q2]; exact h6) q1 q3 (by rw [hsl]; exact k2_hasslot (q4 f hf.1)) rfl rfl hd fun H' e1 e2 e3 => ?_
  rw [hsl] at e1 ⊢
  have hA : e_A b (b + i) := Nat.le_add_right _ _
  have hH1 := hH.put (k := i) (e := .inr (ci, fs.set f v)) ⟨_, hc', t_OB.to (V := updV (vp_V fs) f v) ⟨_, e1, q2, q3, t_set q4 hap hf.1 v⟩ (fun j _ => vp_updV_set hlen v j)⟩ e2 e3
  rw [e_ov_set hw.1 hk he, hes] at hH1
  exact k p l e s m args below meth cd H' _ ls hc (hS.put e2 e3 hA) hH1 hl
theorem E.putF {es' : List va_E} {ty : Nat → FieldType} (hw : e_wf kz n) (q i : Nat) {f : Nat} (hd : decode cc pc = .ok (.putfield index, 3) ∧ pc + 3 = pc') (hf : e_fl y.cls index C T N f) (ht : e_ft T N ty) (hk : kz[q]? = some i) (he : es[q]? = some (.inr (ci, fs))) (hc' : cls13[ci]? = some (C, T, N)) (hfin : (T f).2.2.2 = true) (hin : y.name = "<init>") (hdecl : (T f).1 = y.cls) (hn : narrow (ty f) v = v) (hfit : fits (ty f) v = true) (hlen : f < fs.length) (hes : es.set q (.inr (ci, fs.set f v)) = es') (k : E G b y cc nL ret R Ex Z pc' lv st (e_ov kz es' c0) n kc ks) : E G b y cc nL ret R Ex Z pc lv (v :: .ref (b + i) :: st) (e_ov kz es c0) n kc ks := by
  intro p l e s m args below meth cd H locs ls hc hS hH hl
  obtain ⟨hd, rfl⟩ := hd
  obtain ⟨hx, hb, hr, hml, hown, hts, hlk, hK, hnm, hbs, hex⟩ := id hc
  have hat := hH.2 i (hw.sub hk)
  rw [e_ov_get hw.1 hk he] at hat
  have hap := va_apart (own := y.cls) (D := G.1) (cl := cls13) hts hf.2.2 ty ht.1 ht.2 hK.1 hc'
  obtain ⟨r, h1, cell, q1, q2, q3, q4⟩ := hat
  have hr' : r = (C, T, N) := Option.some.inj (h1.symm.trans hc')
  subst hr'
  obtain ⟨hSl, hfc, kC, hkC, hkind⟩ := hK.1.1 ci _ hc'
  obtain ⟨cf, kf, fi, fd, hi, hsl⟩ := hSl f hf.1
  have hlay := hts _ (hf.2.2 _ (u_in_lay hf.1))
  unfold u_lay at hlay
  rw [if_pos hfin] at hlay
  have hst := (u_facts hfc hkC (u_lays hts hf.2.2 hf.1) hi).1
  have hcf : m.cls = cf := by
    obtain ⟨_, _, c', _, _, _, -, -, hf', -, -, -, hown2, -⟩ := Cond.laysFinal_spec hlay
    have e1 : c' = cf := by have := hi.symm.trans hf'; simp at this; exact this.1.symm
    rw [hdecl] at hown2
    rw [← e1]; exact Option.some.inj (hown.symm.trans hown2)
  have h6 := u_fits hfc hkC hkind (Or.inr hlay) hi (ht.1 f hf.1) hn hfit
  refine W.putFinK hx hb hown (hts _ hf.2.1) hi hst hcf (hnm.trans hin) (by rw [q2]; exact h6) q1 q3 (by rw [hsl]; exact k2_hasslot (q4 f hf.1)) rfl rfl hd fun H' e1 e2 e3 => ?_
  rw [hsl] at e1 ⊢
  have hA : e_A b (b + i) := Nat.le_add_right _ _
  have hH1 := hH.put (k := i) (e := .inr (ci, fs.set f v)) ⟨_, hc', t_OB.to (V := updV (vp_V fs) f v) ⟨_, e1, q2, q3, t_set q4 hap hf.1 v⟩ (fun j _ => vp_updV_set hlen v j)⟩ e2 e3
  rw [e_ov_set hw.1 hk he, hes] at hH1
  exact k p l e s m args below meth cd H' _ ls hc (hS.put e2 e3 hA) hH1 hl
theorem E.putN {es' : List va_E} {ty : Nat → FieldType} (hw : e_wf kz n) (q i : Nat) {f : Nat} (hd : decode cc pc = .ok (.putfield index, 3) ∧ pc + 3 = pc') (hf : e_fn y.cls index C T N f) (ht : e_ft T N ty) (hk : kz[q]? = some i) (he : es[q]? = some (.inr (ci, fs))) (hc' : cls13[ci]? = some (C, T, N)) (hfin : (T f).2.2.2 = false) (hn : narrow (ty f) v = v) (hfit : fits (ty f) v = true) (hlen : f < fs.length) (hes : es.set q (.inr (ci, fs.set f v)) = es') (k : E G b y cc nL ret R Ex Z pc' lv st (e_ov kz es' c0) n kc ks) : E G b y cc nL ret R Ex Z pc lv (v :: .ref (b + i) :: st) (e_ov kz es c0) n kc ks := by
  intro p l e s m args below meth cd H locs ls hc hS hH hl
  obtain ⟨hd, rfl⟩ := hd
  obtain ⟨hx, hb, hr, hml, hown, hts, hlk, hK, hnm, hbs, hex⟩ := id hc
  obtain ⟨hfN, ⟨host, hh⟩, hfw⟩ := hf
  have hat := hH.2 i (hw.sub hk)
  rw [e_ov_get hw.1 hk he] at hat
  have hap := va_apart (own := y.cls) (D := G.1) (cl := cls13) hts hfw ty ht.1 ht.2 hK.1 hc'
  obtain ⟨r, h1, cell, q1, q2, q3, q4⟩ := hat
  have hr' : r = (C, T, N) := Option.some.inj (h1.symm.trans hc')
  subst hr'
  obtain ⟨hSl, hfc, kC, hkC, hkind⟩ := hK.1.1 ci _ hc'
  obtain ⟨cf, kf, fi, fd, hi, hsl⟩ := hSl f hfN
  have hlay := hts _ (hfw _ (u_in_lay hfN))
  unfold u_lay at hlay
  rw [if_neg (by rw [hfin]; decide)] at hlay
  have hst := (u_facts hfc hkC (u_lays hts hfw hfN) hi).1
  have h6 := u_store hfc hkC hkind hlay hi (ht.1 f hfN) hn hfit
  refine va_WputK hx hb (f := fd) hown (va_Nw.use rfl (hK.2.1 _ hh)) hi hst (by rw [q2]; exact h6) q1 q3 (by rw [hsl]; exact k2_hasslot (q4 f hfN)) rfl rfl hd fun H' e1 e2 e3 => ?_
  rw [hsl] at e1 ⊢
  have hA : e_A b (b + i) := Nat.le_add_right _ _
  have hH1 := hH.put (k := i) (e := .inr (ci, fs.set f v)) ⟨_, hc', t_OB.to (V := updV (vp_V fs) f v) ⟨_, e1, q2, q3, t_set q4 hap hfN v⟩ (fun j _ => vp_updV_set hlen v j)⟩ e2 e3
  rw [e_ov_set hw.1 hk he, hes] at hH1
  exact k p l e s m args below meth cd H' _ ls hc (hS.put e2 e3 hA) hH1 hl
/-! arrays -/
abbrev aI (G : GT) (N : Nat) (f : Nat → Int32) : va_E := .inl (G.2.1 0, N, .inl f)
abbrev aJ (G : GT) (N : Nat) (f : Nat → Int64) : va_E := .inl (G.2.1 1, N, .inr (.inl f))
abbrev aZ (G : GT) (N : Nat) (f : Nat → Int32) : va_E := .inl (G.2.1 2, N, .inl f)
abbrev aQ (G : GT) (t N : Nat) (f : Nat → Option Nat) : va_E := .inl (G.2.1 t, N, .inr (.inr (.inr (.inr f))))
theorem e_K_ty {s : State} {H : Heap} (h : e_K G b s H) (t : Nat) {q : ClassId × FieldType} (ht : (e_ty G)[t]? = some q) : ArrOfT s q.1 q.2 ∧ va_RA s q.1 q.2 := h.1.2 t q ht
theorem E.iald (hw : e_wf kz n) (q i : Nat) {M : Nat} {f : Nat → Int32} {x : Int32} (hd : decode cc pc = .ok (.iaload, 1) ∧ pc + 1 = pc') (hk : kz[q]? = some i) (he : es[q]? = some (aI G M f)) (hin : vp_in x M) (k : E G b y cc nL ret R Ex Z pc' lv (.int (f x.toNatClampNeg) :: st) (e_ov kz es c0) n kc ks) : E G b y cc nL ret R Ex Z pc lv (.int x :: .ref (b + i) :: st) (e_ov kz es c0) n kc ks := by
  intro p l e s m args below meth cd H locs ls hc hS hH hl
  obtain ⟨hd, rfl⟩ := hd
  have hat := hH.2 i (hw.sub hk)
  rw [e_ov_get hw.1 hk he] at hat
  have hlt : x.toNatClampNeg < M := Nat.not_le.mp fun q => hin (Or.inr q)
  exact W.iald (v := .int (f x.toNatClampNeg)) hc.1 hc.2.1 hat ((e_K_ty hc.2.2.2.2.2.2.2.1 0 rfl).1 M (fun j => .int (f j))) (fun q => by cases q) (by show ¬ (x < 0 ∨ (arrV _ _ _).slots.size ≤ _); rw [arrV_size]; exact hin) (by show (arrV _ _ _).slots[_]? = _; rw [arrV_read _ _ hlt]) rfl rfl hd (k p l e s m args below meth cd H locs ls hc hS hH hl)
theorem E.zald (hw : e_wf kz n) (q i : Nat) {M : Nat} {f : Nat → Int32} {x : Int32} (hd : decode cc pc = .ok (.baload, 1) ∧ pc + 1 = pc') (hk : kz[q]? = some i) (he : es[q]? = some (aZ G M f)) (hin : vp_in x M) (k : E G b y cc nL ret R Ex Z pc' lv (.int (f x.toNatClampNeg) :: st) (e_ov kz es c0) n kc ks) : E G b y cc nL ret R Ex Z pc lv (.int x :: .ref (b + i) :: st) (e_ov kz es c0) n kc ks := by
  intro p l e s m args below meth cd H locs ls hc hS hH hl
  obtain ⟨hd, rfl⟩ := hd
  have hat := hH.2 i (hw.sub hk)
  rw [e_ov_get hw.1 hk he] at hat
  have hlt : x.toNatClampNeg < M := Nat.not_le.mp fun q => hin (Or.inr q)
  exact W.zald (v := .int (f x.toNatClampNeg)) hc.1 hc.2.1 hat ((e_K_ty hc.2.2.2.2.2.2.2.1 2 rfl).1 M (fun j => .int (f j))) (fun q => by cases q) (by show ¬ (x < 0 ∨ (arrV _ _ _).slots.size ≤ _); rw [arrV_size]; exact hin) (by show (arrV _ _ _).slots[_]? = _; rw [arrV_read _ _ hlt]) rfl rfl hd (k p l e s m args below meth cd H locs ls hc hS hH hl)
theorem E.lald (hw : e_wf kz n) (q i : Nat) {M : Nat} {f : Nat → Int64} {x : Int32} (hd : decode cc pc = .ok (.laload, 1) ∧ pc + 1 = pc') (hk : kz[q]? = some i) (he : es[q]? = some (aJ G M f)) (hin : vp_in x M) (k : E G b y cc nL ret R Ex Z pc' lv (.long (f x.toNatClampNeg) :: st) (e_ov kz es c0) n kc ks) : E G b y cc nL ret R Ex Z pc lv (.int x :: .ref (b + i) :: st) (e_ov kz es c0) n kc ks := by
  intro p l e s m args below meth cd H locs ls hc hS hH hl
  obtain ⟨hd, rfl⟩ := hd
  have hat := hH.2 i (hw.sub hk)
  rw [e_ov_get hw.1 hk he] at hat
  have hlt : x.toNatClampNeg < M := Nat.not_le.mp fun q => hin (Or.inr q)
  exact W.lald (v := .long (f x.toNatClampNeg)) hc.1 hc.2.1 hat ((e_K_ty hc.2.2.2.2.2.2.2.1 1 rfl).1 M (fun j => .long (f j))) (fun q => by cases q) (by show ¬ (x < 0 ∨ (arrV _ _ _).slots.size ≤ _); rw [arrV_size]; exact hin) (by show (arrV _ _ _).slots[_]? = _; rw [arrV_read _ _ hlt]) rfl rfl hd (k p l e s m args below meth cd H locs ls hc hS hH hl)
theorem E.aald (hw : e_wf kz n) (q i : Nat) {M t : Nat} {f : Nat → Option Nat} {x : Int32} {C : String} (hd : decode cc pc = .ok (.aaload, 1) ∧ pc + 1 = pc') (hk : kz[q]? = some i) (he : es[q]? = some (aQ G t M f)) (ht : (e_ty G)[t]? = some (G.2.1 t, .object C)) (hin : vp_in x M) (k : E G b y cc nL ret R Ex Z pc' lv (va_rf (f x.toNatClampNeg) :: st) (e_ov kz es c0) n kc ks) : E G b y cc nL ret R Ex Z pc lv (.int x :: .ref (b + i) :: st) (e_ov kz es c0) n kc ks := by
  intro p l e s m args below meth cd H locs ls hc hS hH hl
  obtain ⟨hd, rfl⟩ := hd
  have hat := hH.2 i (hw.sub hk)
  rw [e_ov_get hw.1 hk he] at hat
  have hlt : x.toNatClampNeg < M := Nat.not_le.mp fun q => hin (Or.inr q)
  exact W.aald (v := va_rf (f x.toNatClampNeg)) (ty := .object C) hc.1 hc.2.1 hat ((e_K_ty hc.2.2.2.2.2.2.2.1 t ht).1 M (fun j => va_rf (f j))) rfl (fun q => by cases q) (by show ¬ (x < 0 ∨ (arrV _ _ _).slots.size ≤ _); rw [arrV_size]; exact hin) (by show (arrV _ _ _).slots[_]? = _; rw [arrV_read _ _ hlt]) rfl rfl hd (k p l e s m args below meth cd H locs ls hc hS hH hl)
theorem E.iast {es' : List va_E} (hw : e_wf kz n) (q i : Nat) {M : Nat} {f : Nat → Int32} {x z : Int32} (hd : decode cc pc = .ok (.iastore, 1) ∧ pc + 1 = pc') (hk : kz[q]? = some i) (he : es[q]? = some (aI G M f)) (hin : vp_in x M) (hes : es.set q (aI G M (va_up f x.toNatClampNeg z)) = es') (k : E G b y cc nL ret R Ex Z pc' lv st (e_ov kz es' c0) n kc ks) : E G b y cc nL ret R Ex Z pc lv (.int z :: .int x :: .ref (b + i) :: st) (e_ov kz es c0) n kc ks := by
  intro p l e s m args below meth cd H locs ls hc hS hH hl
  obtain ⟨hd, rfl⟩ := hd
  have hat := hH.2 i (hw.sub hk)
  rw [e_ov_get hw.1 hk he] at hat
  refine W.iast hc.1 hc.2.1 hat ((e_K_ty hc.2.2.2.2.2.2.2.1 0 rfl).1 M (fun j => .int (f j))) (fun q => by cases q) (by show ¬ (x < 0 ∨ (arrV _ _ _).slots.size ≤ _); rw [arrV_size]; exact hin) rfl rfl hd fun H1 e1 z1 oq => ?_
  have hH1 := hH.put (k := i) (e := aI G M (va_up f x.toNatClampNeg z)) (by
    show H1[b + i]? = some (vp_cell _ _)
    rw [e1, vp_cell_i, vp_cell_i, arrV_store]
    congr 2
    funext q
    by_cases hq : q = x.toNatClampNeg
    · subst hq; simp [updV, va_up]
    · simp [updV, va_up, hq]) z1 oq
  rw [e_ov_set hw.1 hk he, hes] at hH1
  exact k p l e s m args below meth cd H1 _ ls hc (hS.put z1 oq (Nat.le_add_right _ _)) hH1 hl
theorem E.zast {es' : List va_E} (hw : e_wf kz n) (q i : Nat) {M : Nat} {f : Nat → Int32} {x z : Int32} (hd : decode cc pc = .ok (.bastore, 1) ∧ pc + 1 = pc') (hk : kz[q]? = some i) (he : es[q]? = some (aZ G M f)) (hin : vp_in x M) (hes : es.set q (aZ G M (va_up f x.toNatClampNeg (vp_nar .boolean z))) = es') (k : E G b y cc nL ret R Ex Z pc' lv st (e_ov kz es' c0) n kc ks) : E G b y cc nL ret R Ex Z pc lv (.int z :: .int x :: .ref (b + i) :: st) (e_ov kz es c0) n kc ks := by
  intro p l e s m args below meth cd H locs ls hc hS hH hl
  obtain ⟨hd, rfl⟩ := hd
  have hat := hH.2 i (hw.sub hk)
  rw [e_ov_get hw.1 hk he] at hat
  refine W.zast hc.1 hc.2.1 hat ((e_K_ty hc.2.2.2.2.2.2.2.1 2 rfl).1 M (fun j => .int (f j))) (fun q => by cases q) (by show ¬ (x < 0 ∨ (arrV _ _ _).slots.size ≤ _); rw [arrV_size]; exact hin) rfl rfl hd fun H1 e1 z1 oq => ?_
  have hH1 := hH.put (k := i) (e := aZ G M (va_up f x.toNatClampNeg (vp_nar .boolean z))) (by
    show H1[b + i]? = some (vp_cell _ _)
    rw [e1, vp_cell_i, vp_cell_i, arrV_store]
    congr 2
    funext q
    by_cases hq : q = x.toNatClampNeg
    · subst hq
      simp [updV, va_up, vp_nar]
      try rfl
    · simp [updV, va_up, hq]) z1 oq
  rw [e_ov_set hw.1 hk he, hes] at hH1
  exact k p l e s m args below meth cd H1 _ ls hc (hS.put z1 oq (Nat.le_add_right _ _)) hH1 hl
theorem E.last {es' : List va_E} (hw : e_wf kz n) (q i : Nat) {M : Nat} {f : Nat → Int64} {x : Int32} {z : Int64} (hd : decode cc pc = .ok (.lastore, 1) ∧ pc + 1 = pc') (hk : kz[q]? = some i) (he : es[q]? = some (aJ G M f)) (hin : vp_in x M) (hes : es.set q (aJ G M (va_up f x.toNatClampNeg z)) = es') (k : E G b y cc nL ret R Ex Z pc' lv st (e_ov kz es' c0) n kc ks) : E G b y cc nL ret R Ex Z pc lv (.long z :: .int x :: .ref (b + i) :: st) (e_ov kz es c0) n kc ks := by
  intro p l e s m args below meth cd H locs ls hc hS hH hl
  obtain ⟨hd, rfl⟩ := hd
  have hat := hH.2 i (hw.sub hk)
  rw [e_ov_get hw.1 hk he] at hat
  refine W.last hc.1 hc.2.1 hat ((e_K_ty hc.2.2.2.2.2.2.2.1 1 rfl).1 M (fun j => .long (f j))) (fun q => by cases q) (by show ¬ (x < 0 ∨ (arrV _ _ _).slots.size ≤ _); rw [arrV_size]; exact hin) rfl rfl hd fun H1 e1 z1 oq => ?_
  have hH1 := hH.put (k := i) (e := aJ G M (va_up f x.toNatClampNeg z)) (by
    show H1[b + i]? = some (vp_cell _ _)
    rw [e1, vp_cell_l, vp_cell_l, arrV_store]
    congr 2
    funext q
    by_cases hq : q = x.toNatClampNeg
    · subst hq; simp [updV, va_up]
    · simp [updV, va_up, hq]) z1 oq
  rw [e_ov_set hw.1 hk he, hes] at hH1
  exact k p l e s m args below meth cd H1 _ ls hc (hS.put z1 oq (Nat.le_add_right _ _)) hH1 hl
theorem E.alen (hw : e_wf kz n) (q i t : Nat) {x : vp_A} {z : Int32} {ty : FieldType} (hd : decode cc pc = .ok (.arraylength, 1) ∧ pc + 1 = pc') (hk : kz[q]? = some i) (he : es[q]? = some (.inl (G.2.1 t, x))) (ht : (e_ty G)[t]? = some (G.2.1 t, ty)) (hz : Int32.ofNat x.1 = z) (k : E G b y cc nL ret R Ex Z pc' lv (.int z :: st) (e_ov kz es c0) n kc ks) : E G b y cc nL ret R Ex Z pc lv (.ref (b + i) :: st) (e_ov kz es c0) n kc ks := by
  intro p l e s m args below meth cd H locs ls hc hS hH hl
  obtain ⟨hd, rfl⟩ := hd
  have hat := hH.2 i (hw.sub hk)
  rw [e_ov_get hw.1 hk he] at hat
  exact va_alen (D := G.1) (cl := cls13) (ws := [(b + i, .inl (G.2.1 t, x))]) hc.1 hc.2.1 hc.2.2.2.2.2.2.2.1.1 (fun k q hq => by
    cases k with
    | zero => cases hq; exact hat
    | succ k => simp at hq) 0 t rfl ht hz hd (k p l e s m args below meth cd H locs ls hc hS hH hl)
/-! constants -/
theorem E.ldc {x : Int32} (hd : decode cc pc = .ok (.ldc index, 2) ∧ pc + 2 = pc') (hw : Cond.constant y.cls index x ∈ gT) (k : E G b y cc nL ret R Ex Z pc' lv (.int x :: st) c n kc ks) : E G b y cc nL ret R Ex Z pc lv st c n kc ks := by
  intro p l e s m args below meth cd H locs ls hc hS hH hl
  obtain ⟨hd, rfl⟩ := hd
  exact lv_ldc hc.1 hc.2.1 hc.2.2.2.2.1 (hc.2.2.2.2.2.1 _ hw) hd (k p l e s m args below meth cd H locs ls hc hS hH hl)
theorem E.ldcw {x : Int32} (hd : decode cc pc = .ok (.ldc_w index, 3) ∧ pc + 3 = pc') (hw : Cond.constant y.cls index x ∈ gT) (k : E G b y cc nL ret R Ex Z pc' lv (.int x :: st) c n kc ks) : E G b y cc nL ret R Ex Z pc lv st c n kc ks := by
  intro p l e s m args below meth cd H locs ls hc hS hH hl
  obtain ⟨hd, rfl⟩ := hd
  exact lv_ldcw hc.1 hc.2.1 hc.2.2.2.2.1 (hc.2.2.2.2.2.1 _ hw) hd (k p l e s m args below meth cd H locs ls hc hS hH hl)
theorem E.ldc2 {x : Int64} (hd : decode cc pc = .ok (.ldc2_w index, 3) ∧ pc + 3 = pc') (hw : Cond.constantLong y.cls index x ∈ gT) (k : E G b y cc nL ret R Ex Z pc' lv (.long x :: st) c n kc ks) : E G b y cc nL ret R Ex Z pc lv st c n kc ks := by
  intro p l e s m args below meth cd H locs ls hc hS hH hl
  obtain ⟨hd, rfl⟩ := hd
  exact lv_ldc2 hc.1 hc.2.1 hc.2.2.2.2.1 (hc.2.2.2.2.2.1 _ hw) hd (k p l e s m args below meth cd H locs ls hc hS hH hl)

end EROWS
/-! ===== returns ===== -/
section ERET
variable {G : GT} {b : Nat} {y : MethodName} {cc : ByteArray} {nL : Nat} {R : Room} {Ex : e_XT} {pc : Nat} {lv : List (Nat × Value)} {c : Hp} {n : Nat} {mc ms kc ks : Nat} {post : Option Value → Hp → Nat → Prop}
theorem E.iret {x : Int32} (hd : decode cc pc = .ok (.ireturn, 1)) (h1 : kc ≤ mc) (h2 : ks ≤ ms) (hp : post (some (.int x)) c n) : E G b y cc nL (some .int) R Ex (e_Z G b post mc ms) pc lv [.int x] c n kc ks := by
  intro p l e s m args below meth cd H locs ls hc hS hH hl
  refine W.widen h1 h2 ?_
  exact W.iret hc.1 hc.2.1 hc.2.2.1 (fun t ht hW => ⟨⟨_, c, n, rfl, hp, by rw [ht]; exact hH⟩, hS.F ht⟩) hS.2.2 hd hc.2.2.2.2.2.2.1
theorem E.zret {x : Int32} {ty : FieldType} (hd : decode cc pc = .ok (.ireturn, 1)) (hn : narrow ty (.int x) = .int x) (h1 : kc ≤ mc) (h2 : ks ≤ ms) (hp : post (some (.int x)) c n) : E G b y cc nL (some ty) R Ex (e_Z G b post mc ms) pc lv [.int x] c n kc ks := by
  intro p l e s m args below meth cd H locs ls hc hS hH hl
  refine W.widen h1 h2 ?_
  exact W.zret hc.1 hc.2.1 hc.2.2.1 hn (fun t ht hW => ⟨⟨_, c, n, rfl, hp, by rw [ht]; exact hH⟩, hS.F ht⟩) hS.2.2 hd hc.2.2.2.2.2.2.1
theorem E.lret {x : Int64} (hd : decode cc pc = .ok (.lreturn, 1)) (h1 : kc ≤ mc) (h2 : ks ≤ ms) (hp : post (some (.long x)) c n) : E G b y cc nL (some .long) R Ex (e_Z G b post mc ms) pc lv [.long x] c n kc ks := by
  intro p l e s m args below meth cd H locs ls hc hS hH hl
  refine W.widen h1 h2 ?_
  exact W.lret hc.1 hc.2.1 hc.2.2.1 (fun t ht hW => ⟨⟨_, c, n, rfl, hp, by rw [ht]; exact hH⟩, hS.F ht⟩) hS.2.2 hd hc.2.2.2.2.2.2.1
theorem E.vret (hd : decode cc pc = .ok (.return_, 1)) (h1 : kc ≤ mc) (h2 : ks ≤ ms) (hp : post none c n) : E G b y cc nL none R Ex (e_Z G b post mc ms) pc lv [] c n kc ks := by
  intro p l e s m args below meth cd H locs ls hc hS hH hl
  refine W.widen h1 h2 ?_
  exact W.vret hc.1 hc.2.1 hc.2.2.1 (fun t ht hW => ⟨⟨_, c, n, rfl, hp, by rw [ht]; exact hH⟩, hS.F ht⟩) hS.2.2 hd hc.2.2.2.2.2.2.1
theorem E.aret {x : Value} {rt : FieldType} (hd : decode cc pc = .ok (.areturn, 1)) (hrt : (∃ n, rt = .object n) ∨ ∃ t, rt = .array t) (hx : x = .null ∨ ∃ a, x = .ref a) (h1 : kc ≤ mc) (h2 : ks ≤ ms) (hp : post (some x) c n) : E G b y cc nL (some rt) R Ex (e_Z G b post mc ms) pc lv [x] c n kc ks := by
  intro p l e s m args below meth cd H locs ls hc hS hH hl
  refine W.widen h1 h2 ?_
  exact W.aret hc.1 hc.2.1 hc.2.2.1 hrt hx (fun t ht hW => ⟨⟨_, c, n, rfl, hp, by rw [ht]; exact hH⟩, hS.F ht⟩) hS.2.2 hd hc.2.2.2.2.2.2.1
end ERET
/-! ===== calls ===== -/
section ECALL
variable {G : GT} {b : Nat} {y : MethodName} {cc : ByteArray} {nL : Nat} {ret : Option FieldType} {R : Room} {Ex : e_XT} {Z : e_ZT} {pc pc' : Nat} {lv : List (Nat × Value)} {st : List Value} {c : Hp} {n : Nat} {kc ks : Nat}
/-- behind a call: any answer, any contents that its post allows -/
theorem e_back {p : Program} {l : Launch} {e : Env} {s : State} {m : MethodId} {args : Array Value} {below : List Frame} {meth : Method} {cd : Code} {H : Heap} {locs : List Loc} {ls : Array Slot} {mc ms : Nat} {post : Option Value → Hp → Nat → Prop} {rest : List Value} {a : Array Value}
    (hr : va_Run p l e R s m args below meth cd H locs kc ks mc ms (F0 m pc ls st) rest (e_Q G b post a) (e_A b)) (hc : e_cx G b y cc nL ret Ex p s m args meth cd) (hS : va_S (e_A b) s.heap H locs) (hl : lv_has ls nL lv)
    (k : ∀ v c' n', post v c' n' → E G b y cc nL ret R Ex Z (pc + 3) lv (v.toList ++ rest) c' n' (kc + mc) (ks + ms)) : W p l e R s m args below meth cd H locs kc ks (Z below args s) (F0 m pc ls st) := by
  intro T hT X
  obtain ⟨v, st₀, t, T', L, h0, X', hL, e1, e2, ⟨⟨v', c', n', hv, hp, hH'⟩, hz, hk⟩, stp⟩ := hr T hT X
  cases hv
  rw [h0] at hz hk
  obtain ⟨t2, a1, b1⟩ := k v c' n' hp p l e s m args below meth cd T'.heap (locs ++ L) ls hc ⟨Nat.le_trans hS.1 (by rw [e1]; exact hz), fun q h1 h2 => by rw [e1, hk q (Nat.lt_of_lt_of_le h1 hS.1) h2]; exact hS.2.1 q h1 h2, fun q hq => by
      rcases List.mem_append.mp hq with h | h
      · exact hS.2.2 q h
      · exact hL q h⟩ (by rw [e1]; exact hH') hl T' rfl X'
  exact ⟨t2, stp t2 a1, b1⟩
/-- what a link of a method says -/
def e_ml (own : String) (index : Nat) (y2 : MethodName) (cc2 : ByteArray) (nL2 : Nat) (ret2 : Option FieldType) (a : Nat) : Prop :=
  Cond.methodLink own index y2 ∈ gT ∧ Cond.initialized y2.cls ∈ gT ∧ Cond.code y2 cc2 nL2 ret2 ∈ gT ∧ nL2 ≤ 32 ∧ (y2.cls ≠ "java/lang/invoke/MethodHandle" ∧ y2.cls ≠ "java/lang/invoke/VarHandle" ∧ (parseMethodDescriptor y2.desc).map (fun d => d.parameters.length) = some a)
def e_mv (own : String) (index : Nat) (y2 : MethodName) (cc2 : ByteArray) (nL2 : Nat) (ret2 : Option FieldType) (a : Nat) : Prop :=
  e_ml own index y2 cc2 nL2 ret2 a ∧ Cond.instanceMethod y2 ∈ gT ∧ Cond.selects y2.cls y2 y2 ∈ gT
def e_ms (own : String) (index : Nat) (y2 : MethodName) (cc2 : ByteArray) (nL2 : Nat) (ret2 : Option FieldType) (a : Nat) : Prop :=
  e_ml own index y2 cc2 nL2 ret2 a ∧ Cond.static y2 ∈ gT
def e_mi (own : String) (index : Nat) (y2 : MethodName) (cc2 : ByteArray) (nL2 : Nat) (a : Nat) : Prop :=
  e_ml own index y2 cc2 nL2 none a ∧ Cond.instanceMethod y2 ∈ gT ∧ y2.name = "<init>"
variable {y2 : MethodName} {cc2 : ByteArray} {nL2 : Nat} {ret2 : Option FieldType} {d2 mc2 ms2 a index : Nat} {As rest : List Value} {post2 : Option Value → Hp → Nat → Prop}
theorem e_callB {p : Program} {s : State} {m : MethodId} {args : Array Value} {meth : Method} {cd : Code} (hc : e_cx G b y cc nL ret Ex p s m args meth cd) (hm : e_ml y.cls index y2 cc2 nL2 ret2 a) (hR : d2 + 1 ≤ R.frames ∧ 64 * d2 + 51 ≤ R.locals) : CallB R s args y.cls index y2 cc2 nL2 ret2 (.code y2 cc2 nL2 ret2 :: gT) (e_rm d2 mc2 ms2) mc2 ms2 a := by
  obtain ⟨h1, h2, h3, h4, h5⟩ := hm
  have hts := hc.2.2.2.2.2.1
  exact callB_of a hts (gT_code h3) rfl rfl rfl (hts _ h2) (hts _ h1) h5 ⟨hR.1, by show 8 + (nL2 + 11) + 64 * d2 ≤ R.locals; omega⟩
theorem e_pre {H : Heap} {locs : List Loc} {p : Program} {s : State} {m : MethodId} {args : Array Value} {meth : Method} {cd : Code} (hc : e_cx G b y cc nL ret Ex p s m args meth cd) (hS : va_S (e_A b) s.heap H locs) (hH : e_H G b n c H) (av : List Value) : PreS s H (va_Pc av (fun U => e_H G b n c U.heap ∧ e_K G b U U.heap)) av :=
  ⟨fun a U g mk q => ⟨q.1, q.2.1, q.2.2.calling a g mk⟩, fun U hU hW => ⟨rfl, by rw [hU]; exact hH, by rw [hU]; exact hc.2.2.2.2.2.2.2.1.go hW (fun q h1 h2 => hS.2.1 q h1 h2)⟩⟩
theorem E.callS (hd : decode cc pc = .ok (.invokestatic index, 3) ∧ pc + 3 = pc') (hm : e_ms y.cls index y2 cc2 nL2 ret2 a) (hC : e_C G b y2 cc2 nL2 ret2 d2 mc2 ms2 As c n post2) (hR : d2 + 1 ≤ R.frames ∧ 64 * d2 + 51 ≤ R.locals) (hn : As.length = a) (hst : As.reverse ++ rest = st) (hr : (rest.map fun v => v.category).sum ≤ 8) (hf : kc + mc2 ≤ R.cells ∧ ks + ms2 ≤ R.slots)
    (k : ∀ v c' n', post2 v c' n' → E G b y cc nL ret R Ex Z pc' lv (v.toList ++ rest) c' n' (kc + mc2) (ks + ms2)) : E G b y cc nL ret R Ex Z pc lv st c n kc ks := by
  intro p l e s m args below meth cd H locs ls hc hS hH hl
  obtain ⟨hd, rfl⟩ := hd
  have hr2 := va_runS (l := l) (e := e) (below := below) (meth := meth) (H := H) (locs := locs) (cells := kc) (slots := ks) (As := As) (rest := rest) (g := F0 m pc ls st) ⟨hc.1, hc.2.1, hc.2.2.2.1, hc.2.2.2.2.1, hc.2.2.2.2.2.1⟩ (hC l) ⟨e_callB hc hm.1 hR, hc.2.2.2.2.2.1 _ hm.2⟩ (e_pre hc hS hH As) rfl hn hl.1 hst.symm (lv_room hr) hd hf
  exact e_back hr2 hc hS hl k
theorem E.callV {i ci : Nat} {fs : List Value} {r : vw_C} (hd : decode cc pc = .ok (.invokevirtual index, 3) ∧ pc + 3 = pc') (hm : e_mv y.cls index y2 cc2 nL2 ret2 a) (hi : i < n ∧ c i = .inr (ci, fs)) (hci : cls13[ci]? = some r) (hy : r.1 = y2.cls) (hC : e_C G b y2 cc2 nL2 ret2 d2 mc2 ms2 (.ref (b + i) :: As) c n post2) (hR : d2 + 1 ≤ R.frames ∧ 64 * d2 + 51 ≤ R.locals) (hn : As.length = a) (hst : As.reverse ++ .ref (b + i) :: rest = st) (hr : (rest.map fun v => v.category).sum ≤ 8) (hf : kc + mc2 ≤ R.cells ∧ ks + ms2 ≤ R.slots)
    (k : ∀ v c' n', post2 v c' n' → E G b y cc nL ret R Ex Z pc' lv (v.toList ++ rest) c' n' (kc + mc2) (ks + ms2)) : E G b y cc nL ret R Ex Z pc lv st c n kc ks := by
  intro p l e s m args below meth cd H locs ls hc hS hH hl
  obtain ⟨hd, rfl⟩ := hd
  have hat := hH.2 i hi.1
  rw [hi.2] at hat
  have hpre := e_pre hc hS hH (.ref (b + i) :: As)
  have hrecv := va_recv (D := G.1) (cl := cls13) (ws := [(b + i, .inr (ci, fs))]) (q0 := 0) (H := H) hc.2.2.2.2.2.2.2.1.1 (fun k q hq => by
    cases k with
    | zero => cases hq; exact hat
    | succ k => simp at hq) hci rfl
  rw [hy] at hrecv
  have hr2 := va_runV (l := l) (e := e) (below := below) (meth := meth) (H := H) (locs := locs) (cells := kc) (slots := ks) (As := As) (rest := rest) (g := F0 m pc ls st) ⟨hc.1, hc.2.1, hc.2.2.2.1, hc.2.2.2.2.1, hc.2.2.2.2.2.1⟩ (hC l) ⟨e_callB hc hm.1 hR, hc.2.2.2.2.2.1 _ hm.2.1, hc.2.2.2.2.2.1 _ hm.2.2⟩ ⟨hpre.1, hrecv, hpre.2⟩ rfl hn hl.1 hst.symm (lv_room hr) hd hf
  exact e_back hr2 hc hS hl k
theorem E.callI {i : Nat} (hd : decode cc pc = .ok (.invokespecial index, 3) ∧ pc + 3 = pc') (hm : e_mi y.cls index y2 cc2 nL2 a) (hC : e_C G b y2 cc2 nL2 none d2 mc2 ms2 (.ref (b + i) :: As) c n post2) (hR : d2 + 1 ≤ R.frames ∧ 64 * d2 + 51 ≤ R.locals) (hn : As.length = a) (hst : As.reverse ++ .ref (b + i) :: rest = st) (hr : (rest.map fun v => v.category).sum ≤ 8) (hf : kc + mc2 ≤ R.cells ∧ ks + ms2 ≤ R.slots)
    (k : ∀ v c' n', post2 v c' n' → E G b y cc nL ret R Ex Z pc' lv (v.toList ++ rest) c' n' (kc + mc2) (ks + ms2)) : E G b y cc nL ret R Ex Z pc lv st c n kc ks := by
  intro p l e s m args below meth cd H locs ls hc hS hH hl
  obtain ⟨hd, rfl⟩ := hd
  have hr2 := va_runI (l := l) (e := e) (below := below) (meth := meth) (H := H) (locs := locs) (cells := kc) (slots := ks) (As := As) (rest := rest) (b := b + i) (g := F0 m pc ls st) ⟨hc.1, hc.2.1, hc.2.2.2.1, hc.2.2.2.2.1, hc.2.2.2.2.2.1⟩ (hC l) ⟨e_callB hc hm.1 hR, hm.2.2, hc.2.2.2.2.2.1 _ hm.2.1⟩ (e_pre hc hS hH (.ref (b + i) :: As)) rfl hn hl.1 hst.symm (lv_room hr) hd hf
  exact e_back hr2 hc hS hl k
end ECALL

