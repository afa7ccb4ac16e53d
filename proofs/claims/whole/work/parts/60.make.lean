/-! ===== things made ===== -/
theorem e_ov_one {c : Hp} {i : Nat} {e : va_E} (h : c i = e) : e_ov [i] [e] c = c := e_up_id h
theorem e_ov_app {ks1 : List Nat} : ∀ {es1 : List va_E} {ks2 : List Nat} {es2 : List va_E} {c : Hp}, es1.length = ks1.length → e_ov (ks1 ++ ks2) (es1 ++ es2) c = e_ov ks1 es1 (e_ov ks2 es2 c) := by
  induction ks1 with
  | nil => intro es1 ks2 es2 c h; cases es1 with
    | nil => rfl
    | cons a as => simp at h
  | cons k ks ih =>
    intro es1 ks2 es2 c h
    cases es1 with
    | nil => simp at h
    | cons e es =>
      show e_up (e_ov (ks ++ ks2) (es ++ es2) c) k e = e_up (e_ov ks es (e_ov ks2 es2 c)) k e
      rw [ih (by simpa using h)]
theorem e_ov_congr {ks : List Nat} : ∀ {es : List va_E} {c c' : Hp} {j : Nat}, c j = c' j → e_ov ks es c j = e_ov ks es c' j := by
  induction ks with
  | nil => intro es c c' j h; cases es <;> exact h
  | cons k ks ih =>
    intro es c c' j h
    cases es with
    | nil => exact h
    | cons e es =>
      show e_up _ _ _ _ = e_up _ _ _ _
      by_cases hj : j = k
      · subst hj; rw [e_up_self, e_up_self]
      · rw [e_up_ne hj, e_up_ne hj]; exact ih h
theorem e_ov_in {ks : List Nat} : ∀ {es : List va_E} {c c' : Hp} {j : Nat}, es.length = ks.length → j ∈ ks → e_ov ks es c j = e_ov ks es c' j := by
  induction ks with
  | nil => intro es c c' j _ h; cases h
  | cons k ks ih =>
    intro es c c' j hl h
    cases es with
    | nil => simp at hl
    | cons e es =>
      show e_up _ _ _ _ = e_up _ _ _ _
      by_cases hj : j = k
      · subst hj; rw [e_up_self, e_up_self]
      · rw [e_up_ne hj, e_up_ne hj]
        rcases List.mem_cons.mp h with h1 | h1
        · exact absurd h1 hj
        · exact ih (by simpa using hl) h1
theorem e_ov_comm {A B : List Nat} {ea eb : List va_E} {c : Hp} (ha : ea.length = A.length) (hd : ∀ k ∈ A, k ∉ B) : e_ov A ea (e_ov B eb c) = e_ov B eb (e_ov A ea c) := by
  funext j
  by_cases h : j ∈ A
  · rw [e_ov_out (hd j h)]
    exact e_ov_in ha h
  · rw [e_ov_out h]
    exact e_ov_congr (e_ov_out h).symm
theorem e_ov_absorb {A : List Nat} {ea : List va_E} {c : Hp} {k : Nat} {e : va_E} (ha : ea.length = A.length) (hk : k ∈ A) : e_ov A ea (e_up c k e) = e_ov A ea c := by
  funext j
  by_cases h : j ∈ A
  · exact e_ov_in ha h
  · refine e_ov_congr ?_
    exact e_up_ne (fun q => h (q ▸ hk))
theorem e_ov_made {kz1 new : List Nat} {es1 ne : List va_E} {e0 e2 : va_E} {i2 n : Nat} {c0 : Hp} (hw : e_wf (kz1 ++ [i2]) n) (hnew : ∀ k ∈ new, n ≤ k) (hl : ne.length = new.length) (hl1 : es1.length = kz1.length) : e_ov (i2 :: new) (e2 :: ne) (e_ov (kz1 ++ [i2]) (es1 ++ [e0]) c0) = e_ov (kz1 ++ i2 :: new) (es1 ++ e2 :: ne) c0 := by
  have hd : ∀ k ∈ i2 :: new, k ∉ kz1 := by
    intro k hk hk1
    rcases List.mem_cons.mp hk with rfl | h
    · have := hw.1
      rw [List.nodup_append] at this
      exact this.2.2 k hk1 k List.mem_cons_self rfl
    · have h1 := hw.2 k (List.mem_append_left _ hk1)
      have h2 := hnew k h
      omega
  have hla : (e2 :: ne).length = (i2 :: new).length := by simp [hl]
  rw [e_ov_app hl1, e_ov_app hl1, e_ov_comm hla hd]
  show e_ov kz1 es1 (e_ov (i2 :: new) (e2 :: ne) (e_up c0 i2 e0)) = _
  rw [e_ov_absorb hla List.mem_cons_self]
section EMK
variable {G : GT} {b : Nat} {y : MethodName} {cc : ByteArray} {nL : Nat} {ret : Option FieldType} {R : Room} {Ex : e_XT} {Z : e_ZT} {pc pc' : Nat} {lv : List (Nat × Value)} {st st' : List Value} {c c2 : Hp} {n n' n2 : Nat} {kc ks kc' ks' : Nat}
variable {y2 : MethodName} {cc2 : ByteArray} {nL2 : Nat} {ret2 : Option FieldType} {d2 a index : Nat} {As : List Value} {v2 : Option Value} {kz kz' ks0 : List Nat} {es es0 es1 es' : List va_E} {c0 : Hp} {mc2 ms2 : Nat} {C : String} {T : u_T} {N ci : Nat} {ty : Nat → FieldType} {fs : List Value}
theorem e_S_push {s : State} {H H1 : Heap} {locs : List Loc} (hS : va_S (e_A b) s.heap H locs) (z1 : H1.size = H.size + 1) (o1 : ∀ q : Nat, q < H.size → H1[q]? = H[q]?) : va_S (e_A b) s.heap H1 locs := ⟨Nat.le_trans hS.1 (by omega), fun x h1 h2 => (o1 x (Nat.lt_of_lt_of_le h1 hS.1)).trans (hS.2.1 x h1 h2), hS.2.2⟩
theorem e_push {s : State} {H H1 : Heap} {e : va_E} (hw : e_wf kz n) (hH : e_H G b n (e_ov kz es c0) H) (h1 : va_at G.1 cls13 (b + n, e) H1) (z1 : H1.size = H.size + 1) (o1 : ∀ q : Nat, q < H.size → H1[q]? = H[q]?) (hlen : es.length = kz.length) (hkz : kz ++ [n] = kz') (hes : es ++ [e] = es') (hn' : n + 1 = n') : e_H G b n' (e_ov kz' es' c0) H1 := by
  subst hkz; subst hes; subst hn'
  have h := hH.push h1 z1 o1
  rw [e_ov_len hlen (fun h => Nat.lt_irrefl n (hw.2 n h))] at h
  exact h
theorem E.new (hw : e_wf kz n) (hd : decode cc pc = .ok (.new index, 3) ∧ pc + 3 = pc') (hcl : Cond.classLink y.cls index C ∈ gT) (hins : Cond.instantiable C N ∈ gT) (hini : Cond.initialized C ∈ gT) (hin : ∀ w ∈ u_ws C T N, w ∈ gT) (ht : e_ft T N ty) (hci : cls13[ci]? = some (C, T, N)) (hfs : ∀ j, j < N → defaultValue (ty j) = vp_V fs j) (hlen : es.length = kz.length) (hR : kc + 1 ≤ R.cells ∧ ks + N ≤ R.slots) (hkz : kz ++ [n] = kz') (hes : es ++ [.inr (ci, fs)] = es') (hn' : n + 1 = n') (hkc : kc + 1 = kc') (hks : ks + N = ks') (k : E G b y cc nL ret R Ex Z pc' lv (.ref (b + n) :: st) (e_ov kz' es' c0) n' kc' ks') : E G b y cc nL ret R Ex Z pc lv st (e_ov kz es c0) n kc ks := by
  intro p l e s m args below meth cd H locs ls hc hS hH hl
  obtain ⟨hd, rfl⟩ := hd
  subst hkc; subst hks
  have hts := hc.2.2.2.2.2.1
  have hKn := hc.2.2.2.2.2.2.2.1.1.1 ci _ hci
  refine W.newcK hc.1 hc.2.1 hc.2.2.2.2.1 (hts _ hcl) (hts _ hins) (hts _ hini) rfl hd hR.1 hR.2 hKn.2.1 rfl fun H1 kC hkC e1 z1 o1 => ?_
  rw [hH.1] at e1
  refine W.eq (g2 := F0 m (pc + 3) ls (.ref (b + n) :: st)) (by rw [hH.1]) ?_
  exact k p l e s m args below meth cd H1 locs ls hc (e_S_push hS z1 o1) (e_push (s := s) (e := .inr (ci, fs)) hw hH ⟨_, hci, (u_born ty hts hin hKn hkC e1 ht.1).to hfs⟩ z1 o1 hlen hkz hes hn') hl
theorem E.newaI (hw : e_wf kz n) {x : Int32} {M : Nat} (hd : decode cc pc = .ok (.newarray .int, 2) ∧ pc + 2 = pc') (har : Cond.arrayClass .int ∈ gT) (hx : ¬ x < 0) (hM : x.toNatClampNeg = M) (hb : M * 4 ≤ 536870912) (hlen : es.length = kz.length) (hR : kc + 1 ≤ R.cells ∧ ks + M ≤ R.slots) (hkz : kz ++ [n] = kz') (hes : es ++ [aI G M (fun _ => 0)] = es') (hn' : n + 1 = n') (hkc : kc + 1 = kc') (hks : ks + M = ks') (k : E G b y cc nL ret R Ex Z pc' lv (.ref (b + n) :: st) (e_ov kz' es' c0) n' kc' ks') : E G b y cc nL ret R Ex Z pc lv (.int x :: st) (e_ov kz es c0) n kc ks := by
  intro p l e s m args below meth cd H locs ls hc hS hH hl
  obtain ⟨hd, rfl⟩ := hd
  subst hkc; subst hks
  refine va_newaK (atype := .int) hc.1 hc.2.1 (hc.2.2.2.2.2.1 _ har) rfl hd rfl hx hM hb hR.1 hR.2 rfl fun H1 cA e1 z1 o1 hAr hNm => ?_
  have hcA : cA = G.2.1 0 := Option.some.inj (hNm.symm.trans (e_K_ty hc.2.2.2.2.2.2.2.1 0 rfl).2)
  subst hcA
  rw [hH.1] at e1
  refine W.eq (g2 := F0 m (pc + 2) ls (.ref (b + n) :: st)) (by rw [hH.1]) ?_
  exact k p l e s m args below meth cd H1 locs ls hc (e_S_push hS z1 o1) (e_push (s := s) (e := aI G M (fun _ => 0)) hw hH e1 z1 o1 hlen hkz hes hn') hl
theorem E.newaJ (hw : e_wf kz n) {x : Int32} {M : Nat} (hd : decode cc pc = .ok (.newarray .long, 2) ∧ pc + 2 = pc') (har : Cond.arrayClass .long ∈ gT) (hx : ¬ x < 0) (hM : x.toNatClampNeg = M) (hb : M * 8 ≤ 536870912) (hlen : es.length = kz.length) (hR : kc + 1 ≤ R.cells ∧ ks + M ≤ R.slots) (hkz : kz ++ [n] = kz') (hes : es ++ [aJ G M (fun _ => 0)] = es') (hn' : n + 1 = n') (hkc : kc + 1 = kc') (hks : ks + M = ks') (k : E G b y cc nL ret R Ex Z pc' lv (.ref (b + n) :: st) (e_ov kz' es' c0) n' kc' ks') : E G b y cc nL ret R Ex Z pc lv (.int x :: st) (e_ov kz es c0) n kc ks := by
  intro p l e s m args below meth cd H locs ls hc hS hH hl
  obtain ⟨hd, rfl⟩ := hd
  subst hkc; subst hks
  refine va_newaK (atype := .long) hc.1 hc.2.1 (hc.2.2.2.2.2.1 _ har) rfl hd rfl hx hM hb hR.1 hR.2 rfl fun H1 cA e1 z1 o1 hAr hNm => ?_
  have hcA : cA = G.2.1 1 := Option.some.inj (hNm.symm.trans (e_K_ty hc.2.2.2.2.2.2.2.1 1 rfl).2)
  subst hcA
  rw [hH.1] at e1
  refine W.eq (g2 := F0 m (pc + 2) ls (.ref (b + n) :: st)) (by rw [hH.1]) ?_
  exact k p l e s m args below meth cd H1 locs ls hc (e_S_push hS z1 o1) (e_push (s := s) (e := aJ G M (fun _ => 0)) hw hH e1 z1 o1 hlen hkz hes hn') hl
theorem E.newaZ (hw : e_wf kz n) {x : Int32} {M : Nat} (hd : decode cc pc = .ok (.newarray .boolean, 2) ∧ pc + 2 = pc') (har : Cond.arrayClass .boolean ∈ gT) (hx : ¬ x < 0) (hM : x.toNatClampNeg = M) (hb : M * 1 ≤ 536870912) (hlen : es.length = kz.length) (hR : kc + 1 ≤ R.cells ∧ ks + M ≤ R.slots) (hkz : kz ++ [n] = kz') (hes : es ++ [aZ G M (fun _ => 0)] = es') (hn' : n + 1 = n') (hkc : kc + 1 = kc') (hks : ks + M = ks') (k : E G b y cc nL ret R Ex Z pc' lv (.ref (b + n) :: st) (e_ov kz' es' c0) n' kc' ks') : E G b y cc nL ret R Ex Z pc lv (.int x :: st) (e_ov kz es c0) n kc ks := by
  intro p l e s m args below meth cd H locs ls hc hS hH hl
  obtain ⟨hd, rfl⟩ := hd
  subst hkc; subst hks
  refine va_newaK (atype := .boolean) hc.1 hc.2.1 (hc.2.2.2.2.2.1 _ har) rfl hd rfl hx hM hb hR.1 hR.2 rfl fun H1 cA e1 z1 o1 hAr hNm => ?_
  have hcA : cA = G.2.1 2 := Option.some.inj (hNm.symm.trans (e_K_ty hc.2.2.2.2.2.2.2.1 2 rfl).2)
  subst hcA
  rw [hH.1] at e1
  refine W.eq (g2 := F0 m (pc + 2) ls (.ref (b + n) :: st)) (by rw [hH.1]) ?_
  exact k p l e s m args below meth cd H1 locs ls hc (e_S_push hS z1 o1) (e_push (s := s) (e := aZ G M (fun _ => 0)) hw hH e1 z1 o1 hlen hkz hes hn') hl
theorem E.anew (t : Nat) (hw : e_wf kz n) {x : Int32} {M : Nat} (hd : decode cc pc = .ok (.anewarray index, 3) ∧ pc + 3 = pc') (hcl : Cond.classLink y.cls index C ∈ gT) (hov : ∀ (s : State) (H : Heap), e_K G b s H → va_AO C s) (ht : (e_ty G)[t]? = some (G.2.1 t, .object C)) (hx : ¬ x < 0) (hM : x.toNatClampNeg = M) (hb : M * 4 ≤ 536870912) (hlen : es.length = kz.length) (hR : kc + 1 ≤ R.cells ∧ ks + M ≤ R.slots) (hkz : kz ++ [n] = kz') (hes : es ++ [aQ G t M (fun _ => none)] = es') (hn' : n + 1 = n') (hkc : kc + 1 = kc') (hks : ks + M = ks') (k : E G b y cc nL ret R Ex Z pc' lv (.ref (b + n) :: st) (e_ov kz' es' c0) n' kc' ks') : E G b y cc nL ret R Ex Z pc lv (.int x :: st) (e_ov kz es c0) n kc ks := by
  intro p l e s m args below meth cd H locs ls hc hS hH hl
  obtain ⟨hd, rfl⟩ := hd
  subst hkc; subst hks; subst hM
  have hK := hc.2.2.2.2.2.2.2.1
  refine W.anew hc.1 hc.2.1 hc.2.2.2.2.1 (hc.2.2.2.2.2.1 _ hcl) (va_AO.use (hov s _ hK)) rfl hd rfl hx hb hR.1 hR.2 fun cA kA comp f1 f2 f3 f4 => ?_
  obtain ⟨kA', comp', g1, g2, g3, g4⟩ := (e_K_ty hK t ht).2
  have hcA : cA = G.2.1 t := Option.some.inj (f1.symm.trans g4)
  subst hcA
  generalize hH1 : H.push ({ cls := G.2.1 t, slots := Array.replicate x.toNatClampNeg .null, vm := .none } : Cell) = H1
  have z1 : H1.size = H.size + 1 := by rw [← hH1, Array.size_push]
  have e1 : H1[b + n]? = some (arrV (G.2.1 t) x.toNatClampNeg (fun _ => .null)) := by rw [← hH.1, ← hH1, Array.getElem?_push_size, ← arrV_new]
  have o1 : ∀ q : Nat, q < H.size → H1[q]? = H[q]? := fun q hq => by rw [← hH1, Array.getElem?_push, if_neg (Nat.ne_of_lt hq)]
  refine W.eq (g2 := F0 m (pc + 3) ls (.ref (b + n) :: st)) (by rw [hH.1]) ?_
  exact k p l e s m args below meth cd H1 locs ls hc (e_S_push hS z1 o1) (e_push (s := s) (e := aQ G t x.toNatClampNeg (fun _ => none)) hw hH e1 z1 o1 hlen hkz hes hn') hl
theorem E.objInit {x : Nat} (hd : decode cc pc = .ok (.invokespecial index, 3) ∧ pc + 3 = pc') (hl' : Cond.methodLink y.cls index objectInit ∈ gT) (hi : Cond.instanceMethod objectInit ∈ gT) (hco : Cond.code objectInit ⟨#[0xb1]⟩ 1 none ∈ gT) (hR : 1 ≤ R.frames ∧ (st.map fun v => v.category).sum + 12 ≤ R.locals) (k : E G b y cc nL ret R Ex Z pc' lv st c n kc ks) : E G b y cc nL ret R Ex Z pc lv (.ref x :: st) c n kc ks := by
  intro p l e s m args below meth cd H locs ls hc hS hH hl
  obtain ⟨hd, rfl⟩ := hd
  have hts := hc.2.2.2.2.2.1
  exact W.objInit hc.1 hc.2.1 hc.2.2.2.2.1 (hts _ hl') (hts _ hi) (hts _ hco) rfl (by rw [hc.2.2.2.1]; exact hl.1) rfl hd hR.1 (by show 2 * 0 + _ + 12 ≤ _; have := hR.2; omega) (k p l e s m args below meth cd H locs ls hc hS hH hl)
theorem E.callIn (rest : List Value) (kz1 : List Nat) (es1 : List va_E) {i2 : Nat} {e0 e2 : va_E} {new : List Nat} {ne : List va_E} (hw : e_wf kz n) (hkz : kz1 ++ [i2] = kz) (hes : es1 ++ [e0] = es) (hd : decode cc pc = .ok (.invokespecial index, 3) ∧ pc + 3 = pc') (hm : e_mi y.cls index y2 cc2 nL2 a) (hC : e_C G b y2 cc2 nL2 none d2 mc2 ms2 (.ref (b + i2) :: As) (e_ov kz es c0) n (pD none (e_ov (i2 :: new) (e2 :: ne) (e_ov kz es c0)) n2)) (hnew : ∀ k ∈ new, n ≤ k) (hl0 : ne.length = new.length) (hl1 : es1.length = kz1.length) (hkz' : kz1 ++ i2 :: new = kz') (hes' : es1 ++ e2 :: ne = es') (hR : d2 + 1 ≤ R.frames ∧ 64 * d2 + 51 ≤ R.locals) (hn : As.length = a) (hst : As.reverse ++ .ref (b + i2) :: rest = st) (hr : (rest.map fun v => v.category).sum ≤ 8) (hf : kc + mc2 ≤ R.cells ∧ ks + ms2 ≤ R.slots) (hkc : kc + mc2 = kc') (hks : ks + ms2 = ks')
    (k : E G b y cc nL ret R Ex Z pc' lv rest (e_ov kz' es' c0) n2 kc' ks') : E G b y cc nL ret R Ex Z pc lv st (e_ov kz es c0) n kc ks := by
  subst hkc; subst hks
  refine E.callI hd hm hC hR hn hst hr hf (fun v c' n' h => ?_)
  obtain ⟨rfl, rfl, rfl⟩ := h
  subst hkz; subst hes; subst hkz'; subst hes'
  rw [e_ov_made hw hnew hl0 hl1]
  exact k
/-! clones -/
def e_cl (own : String) (index : Nat) : Prop := Cond.methodLink own index ⟨"[I", "clone", "()Ljava/lang/Object;"⟩ ∈ gT ∧ Cond.sameMethod "[I" "java/lang/Object" "clone" "()Ljava/lang/Object;" ∈ gT ∧ Cond.native ⟨"java/lang/Object", "clone", "()Ljava/lang/Object;"⟩ ∈ gT ∧ Cond.instanceMethod ⟨"java/lang/Object", "clone", "()Ljava/lang/Object;"⟩ ∈ gT ∧ Cond.selects "[I" ⟨"[I", "clone", "()Ljava/lang/Object;"⟩ ⟨"java/lang/Object", "clone", "()Ljava/lang/Object;"⟩ ∈ gT
/-- a clone of any int row, wherever it lies -/
theorem E.cloneAny {ad M : Nat} {f : Nat → Int32} (hw : e_wf kz n) (hd : decode cc pc = .ok (.invokevirtual index, 3) ∧ pc + 3 = pc') (hm : e_cl y.cls index) (hcell : ∀ (s : State) (H : Heap) (locs : List Loc), e_K G b s s.heap → va_S (e_A b) s.heap H locs → e_H G b n (e_ov kz es c0) H → ∃ cell : Cell, H[ad]? = some cell ∧ cell.cls = G.2.1 0 ∧ cell.slots = (arrV (G.2.1 0) M (fun j => .int (f j))).slots ∧ cell.vm ≠ .unknown ∧ ∀ k, cell.vm ≠ .statics k) (hlen : es.length = kz.length) (hR : (1 ≤ R.frames ∧ (st.map fun v => v.category).sum + 14 ≤ R.locals) ∧ kc + 1 ≤ R.cells ∧ ks + M ≤ R.slots) (hkz : kz ++ [n] = kz') (hes : es ++ [aI G M f] = es') (hn' : n + 1 = n') (hkc : kc + 1 = kc') (hks : ks + M = ks') (k : E G b y cc nL ret R Ex Z pc' lv (.ref (b + n) :: st) (e_ov kz' es' c0) n' kc' ks') : E G b y cc nL ret R Ex Z pc lv (.ref ad :: st) (e_ov kz es c0) n kc ks := by
  intro p l e s m args below meth cd H locs ls hc hS hH hl
  obtain ⟨hd, rfl⟩ := hd
  subst hkc; subst hks
  have hts := hc.2.2.2.2.2.1
  have hK := hc.2.2.2.2.2.2.2.1
  obtain ⟨cell, q1, q2, q3, q4, q5⟩ := hcell s H locs hK hS hH
  have hsz : cell.slots.size = M := by rw [q3, arrV_size]
  have hnm : s.vm.findClass "[I" = some (G.2.1 0) := (e_K_ty hK 0 rfl).2
  obtain ⟨c0', t0', f1, f2, f3⟩ := Cond.castable_spec (va_Nw.use (A := args) rfl hK.2.2.2.2)
  have hc0' : c0' = G.2.1 0 := Option.some.inj (f1.symm.trans hnm)
  subst hc0'
  have hcE : ({ cls := cell.cls, slots := cell.slots } : Cell) = vp_cell (G.2.1 0) (M, .inl f) := by rw [q2, q3]; rfl
  intro T hT X
  have hcellT : T.heap[ad]? = some cell := by rw [hT]; exact q1
  obtain ⟨-, kA, hkA, comp, hkind⟩ := State.isArrayOf_alike X.warmed.alike ((e_K_ty hK 0 rfl).1 0 (fun _ => .null))
  obtain ⟨-, kS, hkS, compS, hkindS⟩ := (e_K_ty hK 0 rfl).1 0 (fun _ => .null)
  obtain ⟨vm', X', stp⟩ := X.cloneArray hc.1 hc.2.2.2.2.1 (hts _ hm.1) (hts _ hm.2.1) (hts _ hm.2.2.1) (hts _ hm.2.2.2.1) (hts _ hm.2.2.2.2) (a := ad) (cell := cell) hcellT q5 q4 (by rw [q2]; exact hnm) f2 (by rw [q2]; exact f3)
    (fun i v hv => by
      rw [q2]
      have hk' : T.vm.classes[G.2.1 0]? = some kA := hkA
      rw [q3] at hv
      have hi : i < M := by
        have := (Array.getElem?_eq_some_iff.mp hv).1
        rw [arrV_size] at this
        exact this
      rw [arrV_read _ _ hi] at hv
      cases hv
      simp [State.fitsSlot, State.slotType?, hk', hkind, fits])
    (g := F0 m pc ls (.ref ad :: st)) rfl (by rw [hc.2.2.2.1]; exact hl.1) rfl (by rw [hc.2.1]; exact hd) hR.1.1 (by show 2 * 0 + _ + 14 ≤ _; have := hR.1.2; omega) hR.2.1 (by rw [hsz]; exact hR.2.2) (hloader := by rw [q2]; exact Vm.clonesLoader_of_array hkS hkindS)
  rw [hcE, hsz] at X'
  generalize hH1 : H.push (vp_cell (G.2.1 0) (M, .inl f)) = H1
  have z1 : H1.size = H.size + 1 := by rw [← hH1, Array.size_push]
  have e1 : H1[b + n]? = some (vp_cell (G.2.1 0) (M, .inl f)) := by rw [← hH.1, ← hH1, Array.getElem?_push_size]
  have o1 : ∀ q : Nat, q < H.size → H1[q]? = H[q]? := fun q hq => by rw [← hH1, Array.getElem?_push, if_neg (Nat.ne_of_lt hq)]
  obtain ⟨t, b1, b2⟩ := k p l e s m args below meth cd H1 locs ls hc (e_S_push hS z1 o1) (e_push (s := s) (e := aI G M f) hw hH e1 z1 o1 hlen hkz hes hn') hl ((T.setVm vm').pushCell (vp_cell (G.2.1 0) (M, .inl f))) (by rw [← hH1, ← hT]; rfl) X'
  refine ⟨t, stp t ?_, b2⟩
  rw [hcE, hT, hH.1]
  exact b1
theorem e_cellT {j : Nat} (hj : j < 5) (s : State) (H : Heap) (locs : List Loc) (hK : e_K G b s s.heap) (hS : va_S (e_A b) s.heap H locs) (_ : e_H G b n (e_ov kz es c0) H) : ∃ cell : Cell, H[G.2.2.1 j]? = some cell ∧ cell.cls = G.2.1 0 ∧ cell.slots = (arrV (G.2.1 0) (e_sX j).length (fun i => .int ((e_sX j).getD i 0))).slots ∧ cell.vm ≠ .unknown ∧ ∀ k, cell.vm ≠ .statics k := by
  obtain ⟨-, hT, hx⟩ := hK.2.2.1.1 j hj
  obtain ⟨cell, h1, h2, h3, h4, h5, h6, h7⟩ := hT.kept hS.2.1
  obtain ⟨cell2, g1, g2, g3, g4⟩ := hx.kept hS.2.1
  cases h1.symm.trans g1
  refine ⟨cell, h1, g2, ?_, h3, h2.1⟩
  apply Array.ext_getElem?
  intro i
  by_cases hi : i < (e_sX j).length
  · rw [h6 i hi, arrV_read _ _ hi]
  · rw [Array.getElem?_eq_none (by rw [g3]; omega), Array.getElem?_eq_none (by rw [arrV_size]; omega)]
theorem e_cellW {q i M : Nat} {f : Nat → Int32} (hw : e_wf kz n) (hk : kz[q]? = some i) (he : es[q]? = some (aI G M f)) (s : State) (H : Heap) (locs : List Loc) (_ : e_K G b s s.heap) (_ : va_S (e_A b) s.heap H locs) (hH : e_H G b n (e_ov kz es c0) H) : ∃ cell : Cell, H[b + i]? = some cell ∧ cell.cls = G.2.1 0 ∧ cell.slots = (arrV (G.2.1 0) M (fun j => .int (f j))).slots ∧ cell.vm ≠ .unknown ∧ ∀ k, cell.vm ≠ .statics k := by
  have hat := hH.2 i (hw.sub hk)
  rw [e_ov_get hw.1 hk he] at hat
  exact ⟨vp_cell (G.2.1 0) (M, .inl f), hat, rfl, rfl, (fun h => by cases h), (fun k h => by cases h)⟩
theorem E.castA (hw : e_wf kz n) (q i : Nat) {M : Nat} {f : Nat → Int32} (hd : decode cc pc = .ok (.checkcast index, 3) ∧ pc + 3 = pc') (hl' : Cond.classLink y.cls index "[I" ∈ gT) (hk : kz[q]? = some i) (he : es[q]? = some (aI G M f)) (k : E G b y cc nL ret R Ex Z pc' lv (.ref (b + i) :: st) (e_ov kz es c0) n kc ks) : E G b y cc nL ret R Ex Z pc lv (.ref (b + i) :: st) (e_ov kz es c0) n kc ks := by
  intro p l e s m args below meth cd H locs ls hc hS hH hl
  obtain ⟨hd, rfl⟩ := hd
  have hat := hH.2 i (hw.sub hk)
  rw [e_ov_get hw.1 hk he] at hat
  exact va_castA (D := G.1) (cl := cls13) (ws := [(b + i, aI G M f)]) hc.1 hc.2.1 hc.2.2.2.2.1 (hc.2.2.2.2.2.1 _ hl') (e_P1 hat) 0 rfl (e_K_ty hc.2.2.2.2.2.2.2.1 0 rfl).2 hd (k p l e s m args below meth cd H locs ls hc hS hH hl)
end EMK
