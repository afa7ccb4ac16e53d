/-! ===== more rows: parts of a world, arrays of references, tables, texts, copies, things made ===== -/
theorem e_wf.pick2 {ks : List Nat} {n : Nat} (h : e_wf ks n) (ps : List Nat) {ks0 : List Nat} (h1 : ps.map (fun i => ks[i]?) = ks0.map some) (hn : ps.Nodup) : e_wf ks0 n := by
  refine h.pick ps h1 ?_
  induction ps generalizing ks0 with
  | nil => cases ks0 with
    | nil => exact List.nodup_nil
    | cons a as => simp at h1
  | cons p ps ih =>
    cases ks0 with
    | nil => simp at h1
    | cons k ks0 =>
      simp only [List.map_cons, List.cons.injEq] at h1
      refine List.nodup_cons.mpr ⟨fun hk => ?_, ih h1.2 (List.nodup_cons.mp hn).2⟩
      have : some k ∈ ps.map (fun i => ks[i]?) := by rw [h1.2]; exact List.mem_map.mpr ⟨k, hk, rfl⟩
      obtain ⟨i, hi, e⟩ := List.mem_map.mp this
      have hp : p < ks.length := (List.getElem?_eq_some_iff.mp h1.1).1
      have e2 : ks[p]? = ks[i]? := h1.1.trans e.symm
      have e3 : p = i := (List.getElem?_inj hp h.1).mp e2
      exact (List.nodup_cons.mp hn).1 (by rw [e3]; exact hi)
theorem e_ov_len {ks : List Nat} : ∀ {es : List va_E} {c : Hp} {k : Nat} {e : va_E}, es.length = ks.length → k ∉ ks → e_up (e_ov ks es c) k e = e_ov (ks ++ [k]) (es ++ [e]) c := by
  induction ks with
  | nil => intro es c k e h _; cases es with
    | nil => rfl
    | cons a as => simp at h
  | cons k0 ks ih =>
    intro es c k e h hk
    cases es with
    | nil => simp at h
    | cons e0 es =>
      rw [List.mem_cons, not_or] at hk
      show e_up (e_up (e_ov ks es c) k0 e0) k e = e_up (e_ov (ks ++ [k]) (es ++ [e]) c) k0 e0
      rw [e_up_swap _ _ _ (Ne.symm hk.1), ih (by simpa using h) hk.2]
theorem e_wf.push {ks : List Nat} {n : Nat} (h : e_wf ks n) : e_wf (ks ++ [n]) (n + 1) := by
  refine ⟨?_, fun k hk => ?_⟩
  · rw [List.nodup_append]
    refine ⟨h.1, List.nodup_cons.mpr ⟨List.not_mem_nil, List.nodup_nil⟩, fun a ha b hb => ?_⟩
    rw [List.mem_singleton] at hb
    subst hb
    exact Nat.ne_of_lt (h.2 a ha)
  · rcases List.mem_append.mp hk with h1 | h1
    · exact Nat.lt_succ_of_lt (h.2 k h1)
    · rw [List.mem_singleton.mp h1]; exact Nat.lt_succ_self n
theorem e_wf.grow {ks : List Nat} {n m : Nat} (h : e_wf ks n) (hm : n ≤ m) : e_wf ks m := ⟨h.1, fun k hk => Nat.lt_of_lt_of_le (h.2 k hk) hm⟩
def e_lkp : Nat → List Nat → List va_E → va_E → va_E
  | i, p :: ps, e :: es1, d => bif Nat.beq i p then e else e_lkp i ps es1 d
  | _, _, _, d => d
def e_mix : Nat → List va_E → List Nat → List va_E → List va_E
  | i, e :: es, ps, es1 => e_lkp i ps es1 e :: e_mix (i + 1) es ps es1
  | _, [], _, _ => []
theorem e_mix_get (ps : List Nat) (es1 : List va_E) : ∀ (es : List va_E) (i j : Nat), (e_mix i es ps es1)[j]? = es[j]?.map (fun d => e_lkp (i + j) ps es1 d) := by
  intro es
  induction es with
  | nil => intro i j; simp [e_mix]
  | cons e es ih =>
    intro i j
    cases j with
    | zero => simp [e_mix]
    | succ j =>
      simp only [e_mix, List.getElem?_cons_succ]
      rw [ih (i + 1) j, show i + 1 + j = i + (j + 1) by omega]
theorem e_sets_get (es : List va_E) : ∀ (ps : List Nat) (es1 : List va_E) (j : Nat), (e_sets es ps es1)[j]? = es[j]?.map (fun d => e_lkp j ps es1 d) := by
  intro ps
  induction ps with
  | nil => intro es1 j; cases es1 <;> simp [e_sets, e_lkp]
  | cons p ps ih =>
    intro es1 j
    cases es1 with
    | nil => simp [e_sets, e_lkp]
    | cons e es1 =>
      show ((e_sets es ps es1).set p e)[j]? = _
      rw [List.getElem?_set, e_sets_len]
      by_cases h : p = j
      · subst h
        by_cases hl : p < es.length
        · simp [hl, e_lkp]
        · simp [hl, List.getElem?_eq_none (Nat.le_of_not_lt hl)]
      · rw [if_neg h, ih es1 j]
        congr 1
        funext d
        show _ = (bif Nat.beq j p then e else e_lkp j ps es1 d)
        have : Nat.beq j p = false := by
          cases hb : Nat.beq j p with
          | false => rfl
          | true => exact absurd (Nat.eq_of_beq_eq_true hb).symm h
        rw [this]
        rfl
theorem e_sets_mix (es : List va_E) (ps : List Nat) (es1 : List va_E) : e_sets es ps es1 = e_mix 0 es ps es1 := by
  apply List.ext_getElem?
  intro j
  rw [e_sets_get, e_mix_get, Nat.zero_add]
section ERX
variable {G : GT} {b : Nat} {y : MethodName} {cc : ByteArray} {nL : Nat} {ret : Option FieldType} {R : Room} {Ex : e_XT} {Z : e_ZT} {pc pc' : Nat} {lv : List (Nat × Value)} {st st' : List Value} {c c2 : Hp} {n n2 : Nat} {kc ks : Nat}
variable {y2 : MethodName} {cc2 : ByteArray} {nL2 : Nat} {ret2 : Option FieldType} {d2 a index : Nat} {As : List Value} {v2 : Option Value} {kz ks0 : List Nat} {es es0 es1 es' : List va_E} {c0 : Hp} {mc2 ms2 : Nat}
theorem E.fold {x v : Int32} (h : x = v) (k : E G b y cc nL ret R Ex Z pc lv (.int v :: st) c n kc ks) : E G b y cc nL ret R Ex Z pc lv (.int x :: st) c n kc ks := h ▸ k
theorem E.foldl {x v : Int64} (h : x = v) (k : E G b y cc nL ret R Ex Z pc lv (.long v :: st) c n kc ks) : E G b y cc nL ret R Ex Z pc lv (.long x :: st) c n kc ks := h ▸ k
theorem E.callSDs (rest : List Value) (ps : List Nat) (hd : decode cc pc = .ok (.invokestatic index, 3) ∧ pc + 3 = pc') (hm : e_ms y.cls index y2 cc2 nL2 ret2 a) (hw : e_wf kz n) (hC : e_C G b y2 cc2 nL2 ret2 d2 0 0 As (e_ov ks0 es0 (e_ov kz es c0)) n (pD v2 (e_ov ks0 es1 (e_ov kz es c0)) n2)) (hks : ps.map (fun i => kz[i]?) = ks0.map some) (hes : ps.map (fun i => es[i]?) = es0.map some) (hlen : es.length = kz.length) (hes' : e_mix 0 es ps es1 = es') (hR : d2 + 1 ≤ R.frames ∧ 64 * d2 + 51 ≤ R.locals) (hn : As.length = a) (hst : As.reverse ++ rest = st) (hr : (rest.map fun v => v.category).sum ≤ 8) (hf : kc ≤ R.cells ∧ ks ≤ R.slots) (hst' : v2.toList ++ rest = st')
    (k : E G b y cc nL ret R Ex Z pc' lv st' (e_ov kz es' c0) n2 kc ks) : E G b y cc nL ret R Ex Z pc lv st (e_ov kz es c0) n kc ks := by
  rw [e_ov_sub hw.1 ps hks hes] at hC
  refine E.callSD rest hd hm hC hR hn hst hr hf hst' ?_
  rw [e_ov_back hw.1 hlen ps hks, e_sets_mix, hes']
  exact k
theorem E.callVDs (rest : List Value) (ps : List Nat) (q i : Nat) {ci : Nat} {fs : List Value} {r : vw_C} (hd : decode cc pc = .ok (.invokevirtual index, 3) ∧ pc + 3 = pc') (hm : e_mv y.cls index y2 cc2 nL2 ret2 a) (hw : e_wf kz n) (hk : kz[q]? = some i) (he : es[q]? = some (.inr (ci, fs))) (hci : cls13[ci]? = some r) (hy : r.1 = y2.cls) (hC : e_C G b y2 cc2 nL2 ret2 d2 0 0 (.ref (b + i) :: As) (e_ov ks0 es0 (e_ov kz es c0)) n (pD v2 (e_ov ks0 es1 (e_ov kz es c0)) n2)) (hks : ps.map (fun i => kz[i]?) = ks0.map some) (hes : ps.map (fun i => es[i]?) = es0.map some) (hlen : es.length = kz.length) (hes' : e_mix 0 es ps es1 = es') (hR : d2 + 1 ≤ R.frames ∧ 64 * d2 + 51 ≤ R.locals) (hn : As.length = a) (hst : As.reverse ++ .ref (b + i) :: rest = st) (hr : (rest.map fun v => v.category).sum ≤ 8) (hf : kc ≤ R.cells ∧ ks ≤ R.slots) (hst' : v2.toList ++ rest = st')
    (k : E G b y cc nL ret R Ex Z pc' lv st' (e_ov kz es' c0) n2 kc ks) : E G b y cc nL ret R Ex Z pc lv st (e_ov kz es c0) n kc ks := by
  rw [e_ov_sub hw.1 ps hks hes] at hC
  refine E.callVD rest hd hm ⟨hw.sub hk, e_ov_get hw.1 hk he⟩ hci hy hC hR hn hst hr hf hst' ?_
  rw [e_ov_back hw.1 hlen ps hks, e_sets_mix, hes']
  exact k
/-- a static method of a nest mate -/
def e_mn (own : String) (index : Nat) (y2 : MethodName) (cc2 : ByteArray) (nL2 : Nat) (ret2 : Option FieldType) (a : Nat) : Prop :=
  (∃ host, Cond.methodLinkNest own index y2 host ∈ e_nest) ∧ Cond.initialized y2.cls ∈ gT ∧ Cond.code y2 cc2 nL2 ret2 ∈ gT ∧ nL2 ≤ 32 ∧ (y2.cls ≠ "java/lang/invoke/MethodHandle" ∧ y2.cls ≠ "java/lang/invoke/VarHandle" ∧ (parseMethodDescriptor y2.desc).map (fun d => d.parameters.length) = some a) ∧ Cond.static y2 ∈ gT
theorem E.callSN (rest : List Value) (hd : decode cc pc = .ok (.invokestatic index, 3) ∧ pc + 3 = pc') (hm : e_mn y.cls index y2 cc2 nL2 ret2 a) (hC : e_C G b y2 cc2 nL2 ret2 d2 0 0 As c n (pD v2 c2 n2)) (hR : d2 + 1 ≤ R.frames ∧ 64 * d2 + 51 ≤ R.locals) (hn : As.length = a) (hst : As.reverse ++ rest = st) (hr : (rest.map fun v => v.category).sum ≤ 8) (hf : kc ≤ R.cells ∧ ks ≤ R.slots) (hst' : v2.toList ++ rest = st')
    (k : E G b y cc nL ret R Ex Z pc' lv st' c2 n2 kc ks) : E G b y cc nL ret R Ex Z pc lv st c n kc ks := by
  intro p l e s m args below meth cd H locs ls hc hS hH hl
  obtain ⟨hd, rfl⟩ := hd
  obtain ⟨⟨host, h0⟩, h2, h3, h4, h5, h6⟩ := hm
  have hts := hc.2.2.2.2.2.1
  have hr2 := va_runSN (l := l) (e := e) (below := below) (meth := meth) (H := H) (locs := locs) (cells := kc) (slots := ks) (As := As) (rest := rest) (g := F0 m pc ls st) ⟨hc.1, hc.2.1, hc.2.2.2.1, hc.2.2.2.2.1, hts⟩ (hC l) ⟨va_cnB (host := host) a hts (gT_code h3) rfl rfl rfl (hc.2.2.2.2.2.2.2.1.2.1 _ h0) (hts _ h2) h5 ⟨hR.1, by show 8 + (nL2 + 11) + 64 * d2 ≤ R.locals; omega⟩, hts _ h6, trivial⟩ (e_pre hc hS hH As) rfl hn hl.1 hst.symm (lv_room hr) hd hf
  refine e_back hr2 hc hS hl (fun v c' n' h => ?_)
  obtain ⟨rfl, rfl, rfl⟩ := h
  rw [hst']
  exact k
/-! arrays of references -/
theorem E.aaldL (hw : e_wf kz n) (q i j : Nat) {M t : Nat} {f : Nat → Option Nat} {x : Int32} {C : String} {ad : Nat} (hd : decode cc pc = .ok (.aaload, 1) ∧ pc + 1 = pc') (hk : kz[q]? = some i) (he : es[q]? = some (aQ G t M f)) (ht : (e_ty G)[t]? = some (G.2.1 t, .object C)) (hin : vp_in x M) (hj : x.toNatClampNeg = j) (hv : f j = some ad) (k : E G b y cc nL ret R Ex Z pc' lv (.ref ad :: st) (e_ov kz es c0) n kc ks) : E G b y cc nL ret R Ex Z pc lv (.int x :: .ref (b + i) :: st) (e_ov kz es c0) n kc ks := by
  refine E.aald hw q i hd hk he ht hin ?_
  rw [hj, hv]
  exact k
/-- an object of a class of ours stands there -/
def e_is (b n : Nat) (c : Hp) (ci : Nat) (a : Nat) : Prop := ∃ (q : Nat) (fs : List Value), a = b + q ∧ q < n ∧ c q = .inr (ci, fs)
theorem E.aastV (hw : e_wf kz n) (q i ci : Nat) {M t : Nat} {f : Nat → Option Nat} {x : Int32} {r : vw_C} {v : Option Nat} (hd : decode cc pc = .ok (.aastore, 1) ∧ pc + 1 = pc') (hk : kz[q]? = some i) (he : es[q]? = some (aQ G t M f)) (ht : (e_ty G)[t]? = some (G.2.1 t, .object r.1)) (hci : cls13[ci]? = some r) (hv : ∀ ad, v = some ad → e_is b n (e_ov kz es c0) ci ad) (hin : vp_in x M) (hes : es.set q (aQ G t M (va_up f x.toNatClampNeg v)) = es') (k : E G b y cc nL ret R Ex Z pc' lv st (e_ov kz es' c0) n kc ks) : E G b y cc nL ret R Ex Z pc lv (va_rf v :: .int x :: .ref (b + i) :: st) (e_ov kz es c0) n kc ks := by
  intro p l e s m args below meth cd H locs ls hc hS hH hl
  obtain ⟨hd, rfl⟩ := hd
  have hat := hH.2 i (hw.sub hk)
  rw [e_ov_get hw.1 hk he] at hat
  have hlt : x.toNatClampNeg < M := Nat.not_le.mp fun q => hin (Or.inr q)
  have h0 : ¬ x < 0 := fun q => hin (Or.inl q)
  have hK := hc.2.2.2.2.2.2.2.1
  have fin : ∀ (H1 : Heap) (kk : Nat), H1[b + i]? = some ((vp_cell (G.2.1 t) (M, .inr (.inr (.inr (.inr f))))).setSlot x.toNatClampNeg (va_rf v)) → H1.size = H.size → (∀ q, q ≠ b + i → H1[q]? = H[q]?) → W p l e R s m args below meth cd H1 (locs ++ [⟨b + i, kk⟩]) kc ks (Z below args s) (F0 m (pc + 1) ls st) := by
    intro H1 kk e1 z1 oq
    have hH1 := hH.put (k := i) (e := aQ G t M (va_up f x.toNatClampNeg v)) (by
      show H1[b + i]? = some (vp_cell _ _)
      rw [e1, vp_cell_q, vp_cell_q, arrV_store]
      congr 2
      funext q
      by_cases hq : q = x.toNatClampNeg
      · subst hq; simp [updV, va_up]
      · simp [updV, va_up, hq]) z1 oq
    rw [e_ov_set hw.1 hk he, hes] at hH1
    exact k p l e s m args below meth cd H1 _ ls hc (hS.put z1 oq (Nat.le_add_right _ _)) hH1 hl
  cases v with
  | none =>
    refine va_WaastN (C := r.1) hc.1 hc.2.1 hat ((e_K_ty hK t ht).1 M (fun j => va_rf (f j))) (fun h => by cases h) (by show ¬ (x < 0 ∨ (arrV _ _ _).slots.size ≤ _); rw [arrV_size]; exact hin) rfl rfl hd fun H1 e1 z1 oq => fin H1 _ e1 z1 oq
  | some ad =>
    obtain ⟨qv, vs, rfl, hqn, hqc⟩ := hv ad rfl
    have hav := hH.2 qv hqn
    rw [hqc] at hav
    obtain ⟨r', hr', cellV, g1, g2, g3, -⟩ := hav
    have hcls := (hK.1.1 ci r hci).2
    obtain ⟨kA, comp, k1, k2, k3, -⟩ := (e_K_ty hK t ht).2
    have hcomp : comp = G.1.1 ci := Option.some.inj (k3.symm.trans hcls.1)
    subst hcomp
    obtain ⟨kC, hkC, -⟩ := hcls.2
    exact W.aast hc.1 hc.2.1 hat (fun q h => by cases h) (fun h => by cases h) k1 k2 rfl hkC ⟨h0, by show _ < (arrV _ _ _).slots.size; rw [arrV_size]; exact hlt⟩ g1 (fun q h => by rw [g3] at h; cases h) (by rw [g2]; exact hkC) (by rw [g2]; exact va_assign hcls) rfl rfl hd fun H1 e1 z1 oq => fin H1 _ e1 z1 oq
theorem E.ifnonnullQ {v : Option Nat} {off : Int} {tgt : Nat} (hd : decode cc pc = .ok (.ifnonnull off, 3) ∧ pc + 3 = pc' ∧ (pc : Int) + off = (tgt : Int)) (kt : ¬ v = none → E G b y cc nL ret R Ex Z tgt lv st c n kc ks) (kf : v = none → E G b y cc nL ret R Ex Z pc' lv st c n kc ks) : E G b y cc nL ret R Ex Z pc lv (va_rf v :: st) c n kc ks := by
  intro p l e s m args below meth cd H locs ls hc hS hH hl
  obtain ⟨hd, rfl, ht⟩ := hd
  cases v with
  | none => exact lv_ifnonnullN hc.1 hc.2.1 hd (kf rfl p l e s m args below meth cd H locs ls hc hS hH hl)
  | some a => exact lv_ifnonnull hc.1 hc.2.1 hd ht (kt (fun h => by cases h) p l e s m args below meth cd H locs ls hc hS hH hl)
theorem E.ifnonnullN {off : Int} {tgt : Nat} (hd : decode cc pc = .ok (.ifnonnull off, 3) ∧ pc + 3 = pc' ∧ (pc : Int) + off = (tgt : Int)) (k : E G b y cc nL ret R Ex Z pc' lv st c n kc ks) : E G b y cc nL ret R Ex Z pc lv (.null :: st) c n kc ks := by
  intro p l e s m args below meth cd H locs ls hc hS hH hl
  obtain ⟨hd, rfl, ht⟩ := hd
  exact lv_ifnonnullN hc.1 hc.2.1 hd (k p l e s m args below meth cd H locs ls hc hS hH hl)
theorem E.ifnonnullR {x : Nat} {off : Int} {tgt : Nat} (hd : decode cc pc = .ok (.ifnonnull off, 3) ∧ pc + 3 = pc' ∧ (pc : Int) + off = (tgt : Int)) (k : E G b y cc nL ret R Ex Z tgt lv st c n kc ks) : E G b y cc nL ret R Ex Z pc lv (.ref x :: st) c n kc ks := by
  intro p l e s m args below meth cd H locs ls hc hS hH hl
  obtain ⟨hd, rfl, ht⟩ := hd
  exact lv_ifnonnull hc.1 hc.2.1 hd ht (k p l e s m args below meth cd H locs ls hc hS hH hl)
/-! static arrays -/
theorem E.gets (i : Nat) {own : String} (hi : i < 5) (hd : decode cc pc = .ok (.getstatic index, 3) ∧ pc + 3 = pc') (hl' : Cond.fieldLink y.cls index RX11 (e_sN i) "[I" ∈ gT) (k : E G b y cc nL ret R Ex Z pc' lv (.ref (G.2.2.1 i) :: st) c n kc ks) : E G b y cc nL ret R Ex Z pc lv st c n kc ks := by
  intro p l e s m args below meth cd H locs ls hc hS hH hl
  obtain ⟨hd, rfl⟩ := hd
  exact va_gets (C := RX11) (ref := RX11) hc.1 hc.2.1 (hc.2.2.2.2.2.2.2.1.2.2.1.1 i hi).1 hS hc.2.2.2.2.1 (hc.2.2.2.2.2.1 _ hl') (fun _ h => h) hd (k p l e s m args below meth cd H locs ls hc hS hH hl)
theorem E.getsN (i : Nat) {host : String} (hi : i < 5) (hd : decode cc pc = .ok (.getstatic index, 3) ∧ pc + 3 = pc') (hl' : Cond.fieldLinkNest y.cls index RX11 (e_sN i) "[I" host ∈ e_nest) (k : E G b y cc nL ret R Ex Z pc' lv (.ref (G.2.2.1 i) :: st) c n kc ks) : E G b y cc nL ret R Ex Z pc lv st c n kc ks := by
  intro p l e s m args below meth cd H locs ls hc hS hH hl
  obtain ⟨hd, rfl⟩ := hd
  exact va_getsN (C := RX11) (ref := RX11) hc.1 hc.2.1 (hc.2.2.2.2.2.2.2.1.2.2.1.1 i hi).1 hS hc.2.2.2.2.1 (va_Nw.use rfl (hc.2.2.2.2.2.2.2.1.2.1 _ hl')) (fun _ h => h) hd (k p l e s m args below meth cd H locs ls hc hS hH hl)
theorem E.ti (i : Nat) {x : Int32} (hi : i < 5) (hd : decode cc pc = .ok (.iaload, 1) ∧ pc + 1 = pc') {M : Nat} (hM : (e_sX i).length = M) (hin : vp_in x M) (k : E G b y cc nL ret R Ex Z pc' lv (.int ((e_sX i).getD x.toNatClampNeg 0) :: st) c n kc ks) : E G b y cc nL ret R Ex Z pc lv (.int x :: .ref (G.2.2.1 i) :: st) c n kc ks := by
  intro p l e s m args below meth cd H locs ls hc hS hH hl
  obtain ⟨hd, rfl⟩ := hd
  subst hM
  exact va_ti hc.1 hc.2.1 (hc.2.2.2.2.2.2.2.1.2.2.1.1 i hi).2.1 hS hin rfl hd (k p l e s m args below meth cd H locs ls hc hS hH hl)
/-! String constants -/
theorem E.ldcS (i : Nat) (hi : i < 17) (hd : decode cc pc = .ok (.ldc index, 2) ∧ pc + 2 = pc') (ho : y.cls = RX6) (hx : e_kI.getD i 0 = index) (k : E G b y cc nL ret R Ex Z pc' lv (.ref (G.2.2.2.1 i) :: st) c n kc ks) : E G b y cc nL ret R Ex Z pc lv st c n kc ks := by
  intro p l e s m args below meth cd H locs ls hc hS hH hl
  obtain ⟨hd, rfl⟩ := hd
  have h := hc.2.2.2.2.2.2.2.1.2.2.1.2.2.2 i hi
  rw [hx] at h
  exact va_ldcS hc.1 hc.2.1 (ho ▸ hc.2.2.2.2.1) h hd (k p l e s m args below meth cd H locs ls hc hS hH hl)
theorem E.getsC (hd : decode cc pc = .ok (.getstatic index, 3) ∧ pc + 3 = pc') (hl' : Cond.fieldLink y.cls index "java/lang/String" "COMPACT_STRINGS" "Z" ∈ gT) (k : E G b y cc nL ret R Ex Z pc' lv (.int 1 :: st) c n kc ks) : E G b y cc nL ret R Ex Z pc lv st c n kc ks := by
  intro p l e s m args below meth cd H locs ls hc hS hH hl
  obtain ⟨hd, rfl⟩ := hd
  exact va_gets (C := "java/lang/String") (ref := "java/lang/String") hc.1 hc.2.1 hc.2.2.2.2.2.2.2.1.2.2.1.2.1.1 hS hc.2.2.2.2.1 (hc.2.2.2.2.2.1 _ hl') (fun _ h => h) hd (k p l e s m args below meth cd H locs ls hc hS hH hl)
theorem E.getsF (hd : decode cc pc = .ok (.getstatic index, 3) ∧ pc + 3 = pc') (hl' : Cond.fieldLink y.cls index "jdk/internal/util/Preconditions" "SIOOBE_FORMATTER" "Ljava/util/function/BiFunction;" ∈ gT) (k : ∀ v : Value, (v = .null ∨ ∃ t, v = .ref t) → E G b y cc nL ret R Ex Z pc' lv (v :: st) c n kc ks) : E G b y cc nL ret R Ex Z pc lv st c n kc ks := by
  intro p l e s m args below meth cd H locs ls hc hS hH hl
  obtain ⟨hd, rfl⟩ := hd
  rcases hc.2.2.2.2.2.2.2.1.2.2.1.2.1.2 with hz | ⟨t, hz⟩
  · exact va_gets (C := "jdk/internal/util/Preconditions") (ref := "jdk/internal/util/Preconditions") hc.1 hc.2.1 hz hS hc.2.2.2.2.1 (hc.2.2.2.2.2.1 _ hl') (fun _ h => h) hd (k .null (Or.inl rfl) p l e s m args below meth cd H locs ls hc hS hH hl)
  · exact va_gets (C := "jdk/internal/util/Preconditions") (ref := "jdk/internal/util/Preconditions") hc.1 hc.2.1 hz hS hc.2.2.2.2.1 (hc.2.2.2.2.2.1 _ hl') (fun _ h => h) hd (k (.ref t) (Or.inr ⟨t, rfl⟩) p l e s m args below meth cd H locs ls hc hS hH hl)
theorem E.sgetC (i : Nat) (hi : i < 17) (hd : decode cc pc = .ok (.getfield index, 3) ∧ pc + 3 = pc') (hl' : Cond.fieldLink y.cls index "java/lang/String" "coder" "B" ∈ gT) (k : E G b y cc nL ret R Ex Z pc' lv (.int 0 :: st) c n kc ks) : E G b y cc nL ret R Ex Z pc lv (.ref (G.2.2.2.1 i) :: st) c n kc ks := by
  intro p l e s m args below meth cd H locs ls hc hS hH hl
  obtain ⟨hd, rfl⟩ := hd
  exact vk_getf (ref := "java/lang/String") hc.1 hc.2.1 (hc.2.2.2.2.2.2.2.1.2.2.1.2.2.1.1 i hi).2.1 hS hc.2.2.2.2.1 (hc.2.2.2.2.2.1 _ hl') (fun _ h => h) hd (k p l e s m args below meth cd H locs ls hc hS hH hl)
theorem E.sgetV (i : Nat) (hi : i < 17) (hd : decode cc pc = .ok (.getfield index, 3) ∧ pc + 3 = pc') (hl' : Cond.fieldLink y.cls index "java/lang/String" "value" "[B" ∈ gT) (k : E G b y cc nL ret R Ex Z pc' lv (.ref (G.2.2.2.2 i) :: st) c n kc ks) : E G b y cc nL ret R Ex Z pc lv (.ref (G.2.2.2.1 i) :: st) c n kc ks := by
  intro p l e s m args below meth cd H locs ls hc hS hH hl
  obtain ⟨hd, rfl⟩ := hd
  exact vk_getf (ref := "java/lang/String") hc.1 hc.2.1 (hc.2.2.2.2.2.2.2.1.2.2.1.2.2.1.1 i hi).2.2.1 hS hc.2.2.2.2.1 (hc.2.2.2.2.2.1 _ hl') (fun _ h => h) hd (k p l e s m args below meth cd H locs ls hc hS hH hl)
theorem E.slen (i : Nat) (hi : i < 17) (hd : decode cc pc = .ok (.arraylength, 1) ∧ pc + 1 = pc') (k : E G b y cc nL ret R Ex Z pc' lv (.int (Int32.ofNat (e_kL.getD i 0)) :: st) c n kc ks) : E G b y cc nL ret R Ex Z pc lv (.ref (G.2.2.2.2 i) :: st) c n kc ks := by
  intro p l e s m args below meth cd H locs ls hc hS hH hl
  obtain ⟨hd, rfl⟩ := hd
  exact va_tlen hc.1 hc.2.1 (hc.2.2.2.2.2.2.2.1.2.2.1.2.2.1.1 i hi).2.2.2 hS rfl hd (k p l e s m args below meth cd H locs ls hc hS hH hl)
theorem E.sb (i : Nat) {x : Int32} (hi : i < 17) (hd : decode cc pc = .ok (.baload, 1) ∧ pc + 1 = pc') (hin : vp_in x (e_kL.getD i 0)) (k : E G b y cc nL ret R Ex Z pc' lv (.int ((e_kB.getD i []).getD x.toNatClampNeg 0) :: st) c n kc ks) : E G b y cc nL ret R Ex Z pc lv (.int x :: .ref (G.2.2.2.2 i) :: st) c n kc ks := by
  intro p l e s m args below meth cd H locs ls hc hS hH hl
  obtain ⟨hd, rfl⟩ := hd
  exact va_tb hc.1 hc.2.1 (hc.2.2.2.2.2.2.2.1.2.2.1.2.2.1.1 i hi).2.2.2 hS hin rfl hd (k p l e s m args below meth cd H locs ls hc hS hH hl)
/-- a call on a String constant -/
theorem E.callSt (rest : List Value) (i : Nat) (hi : i < 17) (hd : decode cc pc = .ok (.invokevirtual index, 3) ∧ pc + 3 = pc') (hm : e_mv y.cls index y2 cc2 nL2 ret2 a) (hy : y2.cls = "java/lang/String") (hC : e_C G b y2 cc2 nL2 ret2 d2 0 0 (.ref (G.2.2.2.1 i) :: As) c n (pD v2 c2 n2)) (hR : d2 + 1 ≤ R.frames ∧ 64 * d2 + 51 ≤ R.locals) (hn : As.length = a) (hst : As.reverse ++ .ref (G.2.2.2.1 i) :: rest = st) (hr : (rest.map fun v => v.category).sum ≤ 8) (hf : kc ≤ R.cells ∧ ks ≤ R.slots) (hst' : v2.toList ++ rest = st')
    (k : E G b y cc nL ret R Ex Z pc' lv st' c2 n2 kc ks) : E G b y cc nL ret R Ex Z pc lv st c n kc ks := by
  intro p l e s m args below meth cd H locs ls hc hS hH hl
  obtain ⟨hd, rfl⟩ := hd
  have hpre := e_pre hc hS hH (.ref (G.2.2.2.1 i) :: As)
  have hrecv := vk_recv hc.2.2.2.2.2.2.2.1.2.2.1.2.2.1 hi hS
  rw [← hy] at hrecv
  have hr2 := va_runV (l := l) (e := e) (below := below) (meth := meth) (H := H) (locs := locs) (cells := kc) (slots := ks) (As := As) (rest := rest) (g := F0 m pc ls st) ⟨hc.1, hc.2.1, hc.2.2.2.1, hc.2.2.2.2.1, hc.2.2.2.2.2.1⟩ (hC l) ⟨e_callB hc hm.1 hR, hc.2.2.2.2.2.1 _ hm.2.1, hc.2.2.2.2.2.1 _ hm.2.2⟩ ⟨hpre.1, hrecv, hpre.2⟩ rfl hn hl.1 hst.symm (lv_room hr) hd hf
  refine e_back hr2 hc hS hl (fun v c' n' h => ?_)
  obtain ⟨rfl, rfl, rfl⟩ := h
  rw [hst']
  exact k
/-! copies -/
def e_cw (own : String) (index : Nat) : Prop := Cond.methodLink own index arraycopyName ∈ gT ∧ Cond.native arraycopyName ∈ gT ∧ Cond.static arraycopyName ∈ gT ∧ Cond.initialized "java/lang/System" ∈ gT
theorem e_P1 {H : Heap} {i : Nat} {e : va_E} (h : va_at G.1 cls13 (b + i, e) H) : va_P G.1 cls13 [(b + i, e)] H := fun k q hq => by
  cases k with
  | zero => cases hq; exact h
  | succ k => simp at hq
theorem e_nn (z : Int32) (hz : ¬ z < 0) : z.toInt = (z.toNatClampNeg : Int) := by
  have hz0 : (0 : Int) ≤ z.toInt := by
    have := Int32.not_lt.mp hz
    simpa using Int32.le_iff_toInt_le.mp this
  show z.toInt = ((z.toInt.toNat : Nat) : Int)
  omega
theorem E.copyI (hw : e_wf kz n) (q0 i0 q1 i1 : Nat) {M0 M1 : Nat} {f g : Nat → Int32} {sp dp m0 : Int32} {sp' dp' m' : Nat} (hd : decode cc pc = .ok (.invokestatic index, 3) ∧ pc + 3 = pc') (hm : e_cw y.cls index) (hk0 : kz[q0]? = some i0) (he0 : es[q0]? = some (aI G M0 f)) (hk1 : kz[q1]? = some i1) (he1 : es[q1]? = some (aI G M1 g)) (h1 : ¬ sp < 0) (h2 : ¬ dp < 0) (h3 : ¬ m0 < 0) (e1 : sp.toNatClampNeg = sp') (e2 : dp.toNatClampNeg = dp') (e3 : m0.toNatClampNeg = m') (h4 : sp' + m' ≤ M0) (h5 : dp' + m' ≤ M1) (hR : 1 ≤ R.frames ∧ (st.map fun v => v.category).sum + (nativeFrameWords "java/lang/System" "arraycopy" 5 + 11) ≤ R.locals) (hes : es.set q1 (aI G M1 (va_cpy f g sp' dp' m')) = es') (k : E G b y cc nL ret R Ex Z pc' lv st (e_ov kz es' c0) n kc ks) : E G b y cc nL ret R Ex Z pc lv (.int m0 :: .int dp :: .ref (b + i1) :: .int sp :: .ref (b + i0) :: st) (e_ov kz es c0) n kc ks := by
  intro p l e s m args below meth cd H locs ls hc hS hH hl
  obtain ⟨hd, rfl⟩ := hd
  subst e1; subst e2; subst e3
  have hts := hc.2.2.2.2.2.1
  have hc0 := hH.2 i0 (hw.sub hk0)
  rw [e_ov_get hw.1 hk0 he0] at hc0
  have hc1 := hH.2 i1 (hw.sub hk1)
  rw [e_ov_get hw.1 hk1 he1] at hc1
  have hc0 : H[b + i0]? = some (vp_cell (G.2.1 0) (M0, .inl f)) := hc0
  have hc1 : H[b + i1]? = some (vp_cell (G.2.1 0) (M1, .inl g)) := hc1
  intro T hT X
  obtain ⟨-, k0, hk0', cm0, hkk0⟩ := (e_K_ty hc.2.2.2.2.2.2.2.1 0 rfl).1 M0 (fun j => .int (f j))
  obtain ⟨vm', X', step⟩ := X.arraycopy hc.1 hc.2.2.2.2.1 (hts _ hm.1) (hts _ hm.2.1) (hts _ hm.2.2.1) (hts _ hm.2.2.2) (src := b + i0) (dst := b + i1) (cs := vp_cell (G.2.1 0) (M0, .inl f)) (cd := vp_cell (G.2.1 0) (M1, .inl g)) (srcPos := sp) (destPos := dp) (n := m0) (by rw [hT]; exact hc0) (by rw [hT]; exact hc1)
    (fun _ h => by cases h) (fun _ h => by cases h) (fun h => by cases h) (fun h => by cases h) hk0' hk0' hkk0 hkk0 (by simp [refKind]) h1 h2 h3
    (by rw [e_nn sp h1, e_nn m0 h3]; show ¬ _ > ((arrV (G.2.1 0) M0 (fun j => .int (f j))).slots.size : Int); rw [arrV_size]; omega)
    (by rw [e_nn dp h2, e_nn m0 h3]; show ¬ _ > ((arrV (G.2.1 0) M1 (fun j => .int (g j))).slots.size : Int); rw [arrV_size]; omega)
    (fun vm₁ _ i hi => by
      have e : (vp_cell (G.2.1 0) (M0, .inl f)).slots.getD (sp.toNatClampNeg + i) .null = .int (f (sp.toNatClampNeg + i)) := by
        show (arrV (G.2.1 0) M0 (fun j => .int (f j))).slots.getD _ _ = _
        rw [Array.getD_eq_getD_getElem?, arrV_read _ _ (by omega)]
        rfl
      refine ⟨?_, ?_⟩
      · rw [e]; rfl
      · rw [e]
        exact trivial)
    (g := F0 m pc ls (.int m0 :: .int dp :: .ref (b + i1) :: .int sp :: .ref (b + i0) :: st)) rfl (by rw [hc.2.2.2.1]; exact hl.1) (rest := st) rfl (by rw [hc.2.1]; exact hd) hR.1 (by show 2 * 0 + _ + _ ≤ _; have := hR.2; omega)
  have ec : copied (vp_cell (G.2.1 0) (M0, .inl f)) (vp_cell (G.2.1 0) (M1, .inl g)) sp dp m0 = vp_cell (G.2.1 0) (M1, .inl (va_cpy f g sp.toNatClampNeg dp.toNatClampNeg m0.toNatClampNeg)) := va_copied (fun z => .int z) (G.2.1 0) (G.2.1 0) f g h4
  rw [ec] at X' step
  have hlt : b + i1 < H.size := (Array.getElem?_eq_some_iff.mp hc1).1
  generalize hH1 : H.setIfInBounds (b + i1) (vp_cell (G.2.1 0) (M1, .inl (va_cpy f g sp.toNatClampNeg dp.toNatClampNeg m0.toNatClampNeg))) = H1
  have e1 : H1[b + i1]? = some (vp_cell (G.2.1 0) (M1, .inl (va_cpy f g sp.toNatClampNeg dp.toNatClampNeg m0.toNatClampNeg))) := by rw [← hH1]; simp [Array.getElem?_setIfInBounds, hlt]
  have z1 : H1.size = H.size := by rw [← hH1]; simp
  have oq : ∀ q : Nat, q ≠ b + i1 → H1[q]? = H[q]? := fun q hq => by rw [← hH1]; simp [Array.getElem?_setIfInBounds, Ne.symm hq]
  have hHn := hH.put (k := i1) (e := aI G M1 (va_cpy f g sp.toNatClampNeg dp.toNatClampNeg m0.toNatClampNeg)) e1 z1 oq
  rw [e_ov_set hw.1 hk1 he1, hes] at hHn
  obtain ⟨t, a1, b1⟩ := k p l e s m args below meth cd H1 _ ls hc ⟨by rw [z1]; exact hS.1, fun q g1 g2 => by
      rw [oq q (fun e => g2 (by rw [e]; exact Nat.le_add_right _ _))]
      exact hS.2.1 q g1 g2, fun q hq => by
      rcases List.mem_append.mp hq with h | h
      · exact hS.2.2 q h
      · obtain ⟨z, -, hz⟩ := List.mem_map.mp h
        rw [← hz]
        exact Nat.le_add_right _ _⟩ hHn hl _ (by rw [← hH1, ← hT]; rfl) X'
  exact ⟨t, step t a1, b1⟩
theorem E.copyJ (hw : e_wf kz n) (q0 i0 q1 i1 : Nat) {M0 M1 : Nat} {f g : Nat → Int64} {sp dp m0 : Int32} {sp' dp' m' : Nat} (hd : decode cc pc = .ok (.invokestatic index, 3) ∧ pc + 3 = pc') (hm : e_cw y.cls index) (hk0 : kz[q0]? = some i0) (he0 : es[q0]? = some (aJ G M0 f)) (hk1 : kz[q1]? = some i1) (he1 : es[q1]? = some (aJ G M1 g)) (h1 : ¬ sp < 0) (h2 : ¬ dp < 0) (h3 : ¬ m0 < 0) (e1 : sp.toNatClampNeg = sp') (e2 : dp.toNatClampNeg = dp') (e3 : m0.toNatClampNeg = m') (h4 : sp' + m' ≤ M0) (h5 : dp' + m' ≤ M1) (hR : 1 ≤ R.frames ∧ (st.map fun v => v.category).sum + (nativeFrameWords "java/lang/System" "arraycopy" 5 + 11) ≤ R.locals) (hes : es.set q1 (aJ G M1 (va_cpy f g sp' dp' m')) = es') (k : E G b y cc nL ret R Ex Z pc' lv st (e_ov kz es' c0) n kc ks) : E G b y cc nL ret R Ex Z pc lv (.int m0 :: .int dp :: .ref (b + i1) :: .int sp :: .ref (b + i0) :: st) (e_ov kz es c0) n kc ks := by
  intro p l e s m args below meth cd H locs ls hc hS hH hl
  obtain ⟨hd, rfl⟩ := hd
  subst e1; subst e2; subst e3
  have hts := hc.2.2.2.2.2.1
  have hc0 := hH.2 i0 (hw.sub hk0)
  rw [e_ov_get hw.1 hk0 he0] at hc0
  have hc1 := hH.2 i1 (hw.sub hk1)
  rw [e_ov_get hw.1 hk1 he1] at hc1
  have hc0 : H[b + i0]? = some (vp_cell (G.2.1 1) (M0, .inr (.inl f))) := hc0
  have hc1 : H[b + i1]? = some (vp_cell (G.2.1 1) (M1, .inr (.inl g))) := hc1
  intro T hT X
  obtain ⟨-, k0, hk0', cm0, hkk0⟩ := (e_K_ty hc.2.2.2.2.2.2.2.1 1 rfl).1 M0 (fun j => .long (f j))
  obtain ⟨vm', X', step⟩ := X.arraycopy hc.1 hc.2.2.2.2.1 (hts _ hm.1) (hts _ hm.2.1) (hts _ hm.2.2.1) (hts _ hm.2.2.2) (src := b + i0) (dst := b + i1) (cs := vp_cell (G.2.1 1) (M0, .inr (.inl f))) (cd := vp_cell (G.2.1 1) (M1, .inr (.inl g))) (srcPos := sp) (destPos := dp) (n := m0) (by rw [hT]; exact hc0) (by rw [hT]; exact hc1)
    (fun _ h => by cases h) (fun _ h => by cases h) (fun h => by cases h) (fun h => by cases h) hk0' hk0' hkk0 hkk0 (by simp [refKind]) h1 h2 h3
    (by rw [e_nn sp h1, e_nn m0 h3]; show ¬ _ > ((arrV (G.2.1 1) M0 (fun j => .long (f j))).slots.size : Int); rw [arrV_size]; omega)
    (by rw [e_nn dp h2, e_nn m0 h3]; show ¬ _ > ((arrV (G.2.1 1) M1 (fun j => .long (g j))).slots.size : Int); rw [arrV_size]; omega)
    (fun vm₁ _ i hi => by
      have e : (vp_cell (G.2.1 1) (M0, .inr (.inl f))).slots.getD (sp.toNatClampNeg + i) .null = .long (f (sp.toNatClampNeg + i)) := by
        show (arrV (G.2.1 1) M0 (fun j => .long (f j))).slots.getD _ _ = _
        rw [Array.getD_eq_getD_getElem?, arrV_read _ _ (by omega)]
        rfl
      refine ⟨?_, ?_⟩
      · rw [e]; rfl
      · rw [e]
        exact trivial)
    (g := F0 m pc ls (.int m0 :: .int dp :: .ref (b + i1) :: .int sp :: .ref (b + i0) :: st)) rfl (by rw [hc.2.2.2.1]; exact hl.1) (rest := st) rfl (by rw [hc.2.1]; exact hd) hR.1 (by show 2 * 0 + _ + _ ≤ _; have := hR.2; omega)
  have ec : copied (vp_cell (G.2.1 1) (M0, .inr (.inl f))) (vp_cell (G.2.1 1) (M1, .inr (.inl g))) sp dp m0 = vp_cell (G.2.1 1) (M1, .inr (.inl (va_cpy f g sp.toNatClampNeg dp.toNatClampNeg m0.toNatClampNeg))) := va_copied (fun z => .long z) (G.2.1 1) (G.2.1 1) f g h4
  rw [ec] at X' step
  have hlt : b + i1 < H.size := (Array.getElem?_eq_some_iff.mp hc1).1
  generalize hH1 : H.setIfInBounds (b + i1) (vp_cell (G.2.1 1) (M1, .inr (.inl (va_cpy f g sp.toNatClampNeg dp.toNatClampNeg m0.toNatClampNeg)))) = H1
  have e1 : H1[b + i1]? = some (vp_cell (G.2.1 1) (M1, .inr (.inl (va_cpy f g sp.toNatClampNeg dp.toNatClampNeg m0.toNatClampNeg)))) := by rw [← hH1]; simp [Array.getElem?_setIfInBounds, hlt]
  have z1 : H1.size = H.size := by rw [← hH1]; simp
  have oq : ∀ q : Nat, q ≠ b + i1 → H1[q]? = H[q]? := fun q hq => by rw [← hH1]; simp [Array.getElem?_setIfInBounds, Ne.symm hq]
  have hHn := hH.put (k := i1) (e := aJ G M1 (va_cpy f g sp.toNatClampNeg dp.toNatClampNeg m0.toNatClampNeg)) e1 z1 oq
  rw [e_ov_set hw.1 hk1 he1, hes] at hHn
  obtain ⟨t, a1, b1⟩ := k p l e s m args below meth cd H1 _ ls hc ⟨by rw [z1]; exact hS.1, fun q g1 g2 => by
      rw [oq q (fun e => g2 (by rw [e]; exact Nat.le_add_right _ _))]
      exact hS.2.1 q g1 g2, fun q hq => by
      rcases List.mem_append.mp hq with h | h
      · exact hS.2.2 q h
      · obtain ⟨z, -, hz⟩ := List.mem_map.mp h
        rw [← hz]
        exact Nat.le_add_right _ _⟩ hHn hl _ (by rw [← hH1, ← hT]; rfl) X'
  exact ⟨t, step t a1, b1⟩
end ERX
