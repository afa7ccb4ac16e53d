/-! ===== Arrays.copyOf ===== -/
def e_cof (M : Nat) (x : Int32) (f : Nat → Int32) : Nat → Int32 := if x = Int32.ofNat M then f else va_cpy f (fun _ => 0) 0 0 x.toNatClampNeg
theorem e_minx {x : Int32} {M : Nat} (hx : ¬ x < 0) (hxM : x.toNatClampNeg ≤ M) (hM : M ≤ 400) : (if x < Int32.ofNat M then x else Int32.ofNat M) = x := by
  obtain ⟨j, hj, rfl⟩ := nI_of hx
  rw [nI_clamp hj] at hxM
  by_cases h : nI j < Int32.ofNat M
  · rw [if_pos h]
  · rw [if_neg h]
    have h2 : ¬ j < M := fun q => h ((nI_ltI hj (by omega)).mpr q)
    have : j = M := by omega
    subst this
    rfl
set_option maxRecDepth 100000 in
theorem m_copyOf {G : GT} {b : Nat} {c0 : Hp} {n i M : Nat} {x : Int32} {f : Nat → Int32} (hw : e_wf [i] n) (hx : ¬ x < 0) (hxM : x.toNatClampNeg ≤ M) (hM : M ≤ 400) : e_C G b yJ7_copyOf_59c91 cJ7_copyOf_59c91 3 (some (.array .int)) 1 1 400 [.ref (b + i), .int x] (e_ov [i] [aI G M f] c0) n (pD (some (.ref (b + n))) (e_ov [i, n] [aI G M f, aI G x.toNatClampNeg (e_cof M x f)] c0) (n + 1)) := by
  refine e_C.of (by decide) (Nat.le_of_ble_eq_true rfl) ?_
  refine E.iload_n 1 dJ7_copyOf_59c91_0 rfl ?_
  refine E.aload_n 0 dJ7_copyOf_59c91_1 rfl ?_
  refine E.alen (z := Int32.ofNat M) hw 0 i 0 dJ7_copyOf_59c91_2 rfl rfl rfl rfl ?_
  refine E.icmp_ne dJ7_copyOf_59c91_3 (fun h => ?_) (fun h => ?_)
  · have he : e_cof M x f = va_cpy f (fun _ => 0) 0 0 x.toNatClampNeg := if_neg h
    refine E.iload_n 1 dJ7_copyOf_59c91_14 rfl ?_
    refine E.newaI (M := x.toNatClampNeg) (kz' := [i, n]) (es' := [aI G M f, aI G x.toNatClampNeg (fun _ => 0)]) (n' := n + 1) (kc' := 1) (ks' := 0 + x.toNatClampNeg) hw dJ7_copyOf_59c91_15 (gT_in 168 (by decide +kernel) rfl) hx rfl (by omega) rfl ⟨Nat.le_of_ble_eq_true rfl, by show 0 + x.toNatClampNeg ≤ 400; omega⟩ rfl rfl rfl rfl rfl ?_
    have hw2 : e_wf [i, n] (n + 1) := hw.push
    refine E.astore_n (lv' := [(2, .ref (b + n)), (0, .ref (b + i)), (1, .int x)]) dJ7_copyOf_59c91_17 (by decide) rfl ?_
    refine E.aload_n 1 dJ7_copyOf_59c91_18 rfl ?_
    refine E.iconst (v := 0) dJ7_copyOf_59c91_19 (by decide) ?_
    refine E.aload_n 0 dJ7_copyOf_59c91_20 rfl ?_
    refine E.iconst (v := 0) dJ7_copyOf_59c91_21 (by decide) ?_
    refine E.aload_n 1 dJ7_copyOf_59c91_22 rfl ?_
    refine E.alen (z := Int32.ofNat M) hw2 0 i 0 dJ7_copyOf_59c91_23 rfl rfl rfl rfl ?_
    refine E.iload_n 2 dJ7_copyOf_59c91_24 rfl ?_
    refine E.mmin dJ7_copyOf_59c91_25 mmJ7_304 ⟨Nat.le_of_ble_eq_true rfl, Nat.le_of_ble_eq_true rfl⟩ ⟨Nat.le_of_ble_eq_true rfl, by show 0 + x.toNatClampNeg ≤ 400; omega⟩ ?_
    refine E.fold (e_minx hx hxM hM) ?_
    refine E.copyI (es' := [aI G M f, aI G x.toNatClampNeg (va_cpy f (fun _ => 0) 0 0 x.toNatClampNeg)]) (sp' := 0) (dp' := 0) (m' := x.toNatClampNeg) hw2 0 i 1 n dJ7_copyOf_59c91_28 cwJ7_150 rfl rfl rfl rfl (by decide) (by decide) hx (by decide) (by decide) rfl (by omega) (by omega) ⟨Nat.le_of_ble_eq_true rfl, Nat.le_of_ble_eq_true rfl⟩ rfl ?_
    refine E.aload_n 0 dJ7_copyOf_59c91_31 rfl ?_
    exact E.aret dJ7_copyOf_59c91_32 (Or.inr ⟨_, rfl⟩) (Or.inr ⟨_, rfl⟩) (Nat.le_of_ble_eq_true rfl) (by omega) ⟨rfl, by rw [he], rfl⟩
  · have he : e_cof M x f = f := if_pos h
    have hxm : x.toNatClampNeg = M := by rw [h]; exact nI_clamp (by omega)
    refine E.aload_n 0 dJ7_copyOf_59c91_6 rfl ?_
    refine E.cloneAny (M := M) (f := f) (kz' := [i, n]) (es' := [aI G M f, aI G M f]) (n' := n + 1) (kc' := 1) (ks' := 0 + M) hw dJ7_copyOf_59c91_7 ⟨(gT_in 756 (by decide +kernel) rfl), (gT_in 138 (by decide +kernel) rfl), (gT_in 139 (by decide +kernel) rfl), (gT_in 140 (by decide +kernel) rfl), (gT_in 141 (by decide +kernel) rfl)⟩ (e_cellW (q := 0) hw rfl rfl) rfl ⟨⟨Nat.le_of_ble_eq_true rfl, Nat.le_of_ble_eq_true rfl⟩, Nat.le_of_ble_eq_true rfl, by show 0 + M ≤ 400; omega⟩ rfl rfl rfl rfl rfl ?_
    have hw2 : e_wf [i, n] (n + 1) := hw.push
    refine E.castA hw2 1 n dJ7_copyOf_59c91_10 (gT_in 757 (by decide +kernel) rfl) rfl rfl ?_
    exact E.aret dJ7_copyOf_59c91_13 (Or.inr ⟨_, rfl⟩) (Or.inr ⟨_, rfl⟩) (Nat.le_of_ble_eq_true rfl) (by omega) ⟨rfl, by rw [he, hxm], rfl⟩
section ECO
variable {G : GT} {b : Nat} {y : MethodName} {cc : ByteArray} {nL : Nat} {ret : Option FieldType} {R : Room} {Ex : e_XT} {Z : e_ZT} {pc pc' : Nat} {lv : List (Nat × Value)} {st : List Value} {n n' : Nat} {kc ks kc' ks' index : Nat} {kz kz' : List Nat} {es es' : List va_E} {c0 : Hp}
theorem E.copyOf (rest : List Value) (q i : Nat) {M : Nat} {x : Int32} {f : Nat → Int32} (hw : e_wf kz n) (hd : decode cc pc = .ok (.invokestatic index, 3) ∧ pc + 3 = pc') (hm : e_ms y.cls index yJ7_copyOf_59c91 cJ7_copyOf_59c91 3 (some (.array .int)) 2) (hk : kz[q]? = some i) (he : es[q]? = some (aI G M f)) (hx : ¬ x < 0) (hxM : x.toNatClampNeg ≤ M) (hM : M ≤ 400) (hlen : es.length = kz.length) (hR : 2 ≤ R.frames ∧ 115 ≤ R.locals) (hr : (rest.map fun v => v.category).sum ≤ 8) (hf : kc + 1 ≤ R.cells ∧ ks + 400 ≤ R.slots) (hkz : kz ++ [n] = kz') (hes : es ++ [aI G x.toNatClampNeg (e_cof M x f)] = es') (hn' : n + 1 = n') (hkc : kc + 1 = kc') (hks : ks + 400 = ks')
    (k : E G b y cc nL ret R Ex Z pc' lv (.ref (b + n) :: rest) (e_ov kz' es' c0) n' kc' ks') : E G b y cc nL ret R Ex Z pc lv (.int x :: .ref (b + i) :: rest) (e_ov kz es c0) n kc ks := by
  subst hkc; subst hks; subst hn'; subst hkz; subst hes
  have hin := hw.sub hk
  have hC := m_copyOf (G := G) (b := b) (c0 := e_ov kz es c0) (n := n) (i := i) (f := f) ⟨List.nodup_cons.mpr ⟨List.not_mem_nil, List.nodup_nil⟩, fun k hk => by rw [List.mem_singleton.mp hk]; exact hin⟩ hx hxM hM
  have e1 : e_ov [i] [aI G M f] (e_ov kz es c0) = e_ov kz es c0 := e_ov_one (e_ov_get hw.1 hk he)
  have e2 : e_ov [i, n] [aI G M f, aI G x.toNatClampNeg (e_cof M x f)] (e_ov kz es c0) = e_ov (kz ++ [n]) (es ++ [aI G x.toNatClampNeg (e_cof M x f)]) c0 := by
    show e_up (e_up (e_ov kz es c0) n _) i _ = _
    rw [e_ov_len hlen (fun h => Nat.lt_irrefl n (hw.2 n h))]
    refine e_up_id ?_
    have hw2 := hw.push
    refine e_ov_get hw2.1 (p := q) ?_ ?_
    · rw [List.getElem?_append_left (List.getElem?_eq_some_iff.mp hk).1]; exact hk
    · rw [List.getElem?_append_left (List.getElem?_eq_some_iff.mp he).1]; exact he
  rw [e1, e2] at hC
  refine E.callS (As := [.ref (b + i), .int x]) (rest := rest) hd hm hC ⟨hR.1, hR.2⟩ rfl rfl hr hf (fun v c' n' h => ?_)
  obtain ⟨rfl, rfl, rfl⟩ := h
  exact k
end ECO
/-- the new law's cells -/
def e_nl (G : GT) (b n : Nat) (cl ln : Int32) (h t e s : Nat → Int32) : List va_E := [.inr (5, [.ref (b + (n + 1)), .ref (b + (n + 2)), .ref (b + (n + 3)), .ref (b + (n + 4))]), aI G cl.toNatClampNeg (e_cof 12 cl h), aI G cl.toNatClampNeg (e_cof 12 cl t), aI G cl.toNatClampNeg (e_cof 12 cl e), aI G ln.toNatClampNeg (e_cof 400 ln s)]
/-- what read() leaves: null, or a law behind all -/
def pRd (b n : Nat) (fl : Int32) (c1 : Hp) (new : List va_E) : Option Value → Hp → Nat → Prop := fun v c' n' => (fl = 0 ∧ v = some .null ∧ c' = c1 ∧ n' = n) ∨ (fl = 1 ∧ v = some (.ref (b + n)) ∧ c' = e_ov [n, n + 1, n + 2, n + 3, n + 4] new c1 ∧ n' = n + 5)
/-- the lengths fit -/
def gl {α : Type} (x : Int32) (M : Nat) (k : Option α) : Option α := if x < 0 ∨ M < x.toNatClampNeg then none else k
theorem gl_some {α : Type} {x : Int32} {M : Nat} {k : Option α} {r : α} (h : gl x M k = some r) : (¬ x < 0 ∧ x.toNatClampNeg ≤ M) ∧ k = some r := by
  unfold gl at h
  by_cases h1 : x < 0 ∨ M < x.toNatClampNeg
  · rw [if_pos h1] at h; cases h
  · rw [if_neg h1] at h; rw [not_or] at h1; exact ⟨⟨h1.1, by omega⟩, h⟩
theorem gl_in {α : Type} {x : Int32} {M : Nat} {k : Option α} (h1 : ¬ x < 0) (h2 : x.toNatClampNeg ≤ M) : gl x M k = k := if_neg (by rw [not_or]; exact ⟨h1, by omega⟩)
theorem e_ov_tail {kz : List Nat} {es ne : List va_E} {n : Nat} {c0 : Hp} {K : List Nat} {L : List va_E} (hw : e_wf kz n) (hK : kz ++ [n, n + 1, n + 2, n + 3, n + 4] = K) (hL : es ++ ne = L) (hl : es.length = kz.length := by rfl) (hl2 : ne.length = 5 := by rfl) : e_ov K L c0 = e_ov [n, n + 1, n + 2, n + 3, n + 4] ne (e_ov kz es c0) := by
  subst hK; subst hL
  rw [e_ov_app hl]
  symm
  refine e_ov_comm (by rw [hl2]; rfl) (fun k hk h => ?_)
  have := hw.2 k h
  simp only [List.mem_cons, List.not_mem_nil, or_false] at hk
  omega
def fX6_read_L95 (Fu : Nat) (v30_length : Int32) (a31 : Nat → Int32) (v32_clauses : Int32) (v32_length : Int32) (v32_parts : Int32) (v32_start : Int32) (v32_behind : Int32) (v32_token : Int32) (v32_number : Int32) (v32_good : Int32) (a33 : Nat → Int32) (a34 : Nat → Int32) (a35 : Nat → Int32) (a36 : Nat → Int32) (s0 : Int32) : Option (Int32 × Int32 × Int32 × Int32 × Int32 × Int32 × Int32 × Int32 × Int32 × (Nat → Int32) × (Nat → Int32) × (Nat → Int32) × (Nat → Int32)) := gb s0 (if (s0 : Int32) = (0 : Int32) then (some (0, v32_clauses, v32_length, v32_parts, v32_start, v32_behind, v32_token, v32_number, s0, a33, a34, a35, a36)) else (gl v32_clauses 12 (gl v32_length 400 (some (1, v32_clauses, v32_length, v32_parts, v32_start, v32_behind, v32_token, v32_number, s0, a33, a34, a35, a36)))))
set_option maxHeartbeats 4000000 in
set_option maxRecDepth 100000 in
theorem tX6_read_L95 {G : GT} {b : Nat} {c0 : Hp} {n : Nat} (hw : e_wf (kW85) n)  {Fu : Nat} {v30_length : Int32} {a31 : Nat → Int32} {v32_clauses : Int32} {v32_length : Int32} {v32_parts : Int32} {v32_start : Int32} {v32_behind : Int32} {v32_token : Int32} {v32_number : Int32} {v32_good : Int32} {a33 : Nat → Int32} {a34 : Nat → Int32} {a35 : Nat → Int32} {a36 : Nat → Int32} {s0 : Int32} {R : Int32 × Int32 × Int32 × Int32 × Int32 × Int32 × Int32 × Int32 × Int32 × (Nat → Int32) × (Nat → Int32) × (Nat → Int32) × (Nat → Int32)} (hf : fX6_read_L95 Fu v30_length a31 v32_clauses v32_length v32_parts v32_start v32_behind v32_token v32_number v32_good a33 a34 a35 a36 s0 = some R) : E G b yX6_read cX6_read 2 (some (.object "YardCourt$Law")) (e_rm 92 5 1604) e_X0 (e_Z G b (pRd b n R.1 (e_ov (kW85) (wW85 G b v30_length a31 R.2.1 R.2.2.1 R.2.2.2.1 R.2.2.2.2.1 R.2.2.2.2.2.1 R.2.2.2.2.2.2.1 R.2.2.2.2.2.2.2.1 R.2.2.2.2.2.2.2.2.1 R.2.2.2.2.2.2.2.2.2.1 R.2.2.2.2.2.2.2.2.2.2.1 R.2.2.2.2.2.2.2.2.2.2.2.1 R.2.2.2.2.2.2.2.2.2.2.2.2) c0) (e_nl G b n R.2.1 R.2.2.1 R.2.2.2.2.2.2.2.2.2.1 R.2.2.2.2.2.2.2.2.2.2.1 R.2.2.2.2.2.2.2.2.2.2.2.1 R.2.2.2.2.2.2.2.2.2.2.2.2)) 5 1604) 95 [(0, .ref (b + 32))] [.int s0, .ref (b + 32)] (e_ov (kW85) (wW85 G b v30_length a31 v32_clauses v32_length v32_parts v32_start v32_behind v32_token v32_number v32_good a33 a34 a35 a36) c0) n 0 0 := by
  unfold fX6_read_L95 at hf
  obtain ⟨g8, hf⟩ := gb_some hf
  refine E.put (es' := (wW85 G b v30_length a31 v32_clauses v32_length v32_parts v32_start v32_behind v32_token v32_number s0 a33 a34 a35 a36)) hw 2 32 dX6_read_95 flX6_30 ftX6 rfl rfl rfl rfl (nb01 g8) (fb01 g8) (Nat.le_of_ble_eq_true rfl) rfl ?_
  refine E.aload_n 0 dX6_read_98 rfl ?_
  refine E.get hw 2 32 dX6_read_99 flX6_30 rfl rfl rfl rfl ?_
  refine E.if_ne dX6_read_102 (fun h => ?_) (fun h => ?_)
  · have hf := e_iff hf h
    obtain ⟨gc, hf⟩ := gl_some hf
    obtain ⟨gn, hf⟩ := gl_some hf
    cases hf
    refine E.new (C := RX5) (T := TX5) (N := 4) (ty := tyX5) (ci := 5) (fs := [.null, .null, .null, .null]) (kz' := [30, 31, 32, 33, 34, 35, 36, n]) (es' := ((wW85 G b v30_length a31 v32_clauses v32_length v32_parts v32_start v32_behind v32_token v32_number s0 a33 a34 a35 a36) ++ [.inr (5, [.null, .null, .null, .null])])) (n' := n + 1) (kc' := 1) (ks' := 4) hw dX6_read_107 (gT_in 751 (by decide +kernel) rfl) (gT_in 752 (by decide +kernel) rfl) (gT_in 119 (by decide +kernel) rfl) iX5 ftX5 rfl (fun j hj => by
  match j, hj with
  | 0, _ => rfl
  | 1, _ => rfl
  | 2, _ => rfl
  | 3, _ => rfl
  | k + 4, h => exact absurd h (by omega)) rfl ⟨Nat.le_of_ble_eq_true rfl, Nat.le_of_ble_eq_true rfl⟩ rfl rfl rfl rfl rfl ?_
    have hw1 : e_wf [30, 31, 32, 33, 34, 35, 36, n] (n + 1) := hw.push
    refine E.dup dX6_read_110 rfl ?_
    refine E.aload_n 0 dX6_read_111 rfl ?_
    refine E.get hw1 2 32 dX6_read_112 flX6_17 rfl rfl rfl rfl ?_
    refine E.aload_n 0 dX6_read_115 rfl ?_
    refine E.get hw1 2 32 dX6_read_116 flX6_34 rfl rfl rfl rfl ?_
    refine E.copyOf [.ref (b + n), .ref (b + n)] 3 33 (kz' := [30, 31, 32, 33, 34, 35, 36, n, (n + 1)]) (es' := ((wW85 G b v30_length a31 v32_clauses v32_length v32_parts v32_start v32_behind v32_token v32_number s0 a33 a34 a35 a36) ++ [.inr (5, [.null, .null, .null, .null]), aI G (v32_clauses : Int32).toNatClampNeg (e_cof 12 v32_clauses a33)])) (n' := n + 2) (kc' := 2) (ks' := 404) hw1 dX6_read_119 mlX6_61 rfl rfl gc.1 gc.2 (by decide) rfl ⟨Nat.le_of_ble_eq_true rfl, Nat.le_of_ble_eq_true rfl⟩ (Nat.le_of_ble_eq_true rfl) ⟨Nat.le_of_ble_eq_true rfl, Nat.le_of_ble_eq_true rfl⟩ rfl rfl rfl rfl rfl ?_
    have hw2 : e_wf [30, 31, 32, 33, 34, 35, 36, n, (n + 1)] (n + 2) := hw1.push
    refine E.aload_n 0 dX6_read_122 rfl ?_
    refine E.get hw2 2 32 dX6_read_123 flX6_21 rfl rfl rfl rfl ?_
    refine E.aload_n 0 dX6_read_126 rfl ?_
    refine E.get hw2 2 32 dX6_read_127 flX6_34 rfl rfl rfl rfl ?_
    refine E.copyOf [.ref (b + (n + 1)), .ref (b + n), .ref (b + n)] 4 34 (kz' := [30, 31, 32, 33, 34, 35, 36, n, (n + 1), (n + 2)]) (es' := ((wW85 G b v30_length a31 v32_clauses v32_length v32_parts v32_start v32_behind v32_token v32_number s0 a33 a34 a35 a36) ++ [.inr (5, [.null, .null, .null, .null]), aI G (v32_clauses : Int32).toNatClampNeg (e_cof 12 v32_clauses a33), aI G (v32_clauses : Int32).toNatClampNeg (e_cof 12 v32_clauses a34)])) (n' := n + 3) (kc' := 3) (ks' := 804) hw2 dX6_read_130 mlX6_61 rfl rfl gc.1 gc.2 (by decide) rfl ⟨Nat.le_of_ble_eq_true rfl, Nat.le_of_ble_eq_true rfl⟩ (Nat.le_of_ble_eq_true rfl) ⟨Nat.le_of_ble_eq_true rfl, Nat.le_of_ble_eq_true rfl⟩ rfl rfl rfl rfl rfl ?_
    have hw3 : e_wf [30, 31, 32, 33, 34, 35, 36, n, (n + 1), (n + 2)] (n + 3) := hw2.push
    refine E.aload_n 0 dX6_read_133 rfl ?_
    refine E.get hw3 2 32 dX6_read_134 flX6_24 rfl rfl rfl rfl ?_
    refine E.aload_n 0 dX6_read_137 rfl ?_
    refine E.get hw3 2 32 dX6_read_138 flX6_34 rfl rfl rfl rfl ?_
    refine E.copyOf [.ref (b + (n + 2)), .ref (b + (n + 1)), .ref (b + n), .ref (b + n)] 5 35 (kz' := [30, 31, 32, 33, 34, 35, 36, n, (n + 1), (n + 2), (n + 3)]) (es' := ((wW85 G b v30_length a31 v32_clauses v32_length v32_parts v32_start v32_behind v32_token v32_number s0 a33 a34 a35 a36) ++ [.inr (5, [.null, .null, .null, .null]), aI G (v32_clauses : Int32).toNatClampNeg (e_cof 12 v32_clauses a33), aI G (v32_clauses : Int32).toNatClampNeg (e_cof 12 v32_clauses a34), aI G (v32_clauses : Int32).toNatClampNeg (e_cof 12 v32_clauses a35)])) (n' := n + 4) (kc' := 4) (ks' := 1204) hw3 dX6_read_141 mlX6_61 rfl rfl gc.1 gc.2 (by decide) rfl ⟨Nat.le_of_ble_eq_true rfl, Nat.le_of_ble_eq_true rfl⟩ (Nat.le_of_ble_eq_true rfl) ⟨Nat.le_of_ble_eq_true rfl, Nat.le_of_ble_eq_true rfl⟩ rfl rfl rfl rfl rfl ?_
    have hw4 : e_wf [30, 31, 32, 33, 34, 35, 36, n, (n + 1), (n + 2), (n + 3)] (n + 4) := hw3.push
    refine E.aload_n 0 dX6_read_144 rfl ?_
    refine E.get hw4 2 32 dX6_read_145 flX6_27 rfl rfl rfl rfl ?_
    refine E.aload_n 0 dX6_read_148 rfl ?_
    refine E.get hw4 2 32 dX6_read_149 flX6_38 rfl rfl rfl rfl ?_
    refine E.copyOf [.ref (b + (n + 3)), .ref (b + (n + 2)), .ref (b + (n + 1)), .ref (b + n), .ref (b + n)] 6 36 (kz' := [30, 31, 32, 33, 34, 35, 36, n, (n + 1), (n + 2), (n + 3), (n + 4)]) (es' := ((wW85 G b v30_length a31 v32_clauses v32_length v32_parts v32_start v32_behind v32_token v32_number s0 a33 a34 a35 a36) ++ [.inr (5, [.null, .null, .null, .null]), aI G (v32_clauses : Int32).toNatClampNeg (e_cof 12 v32_clauses a33), aI G (v32_clauses : Int32).toNatClampNeg (e_cof 12 v32_clauses a34), aI G (v32_clauses : Int32).toNatClampNeg (e_cof 12 v32_clauses a35), aI G (v32_length : Int32).toNatClampNeg (e_cof 400 v32_length a36)])) (n' := n + 5) (kc' := 5) (ks' := 1604) hw4 dX6_read_152 mlX6_61 rfl rfl gn.1 gn.2 (by decide) rfl ⟨Nat.le_of_ble_eq_true rfl, Nat.le_of_ble_eq_true rfl⟩ (Nat.le_of_ble_eq_true rfl) ⟨Nat.le_of_ble_eq_true rfl, Nat.le_of_ble_eq_true rfl⟩ rfl rfl rfl rfl rfl ?_
    have hw5 : e_wf [30, 31, 32, 33, 34, 35, 36, n, (n + 1), (n + 2), (n + 3), (n + 4)] (n + 5) := hw4.push
    refine E.callI (As := [.ref (b + (n + 1)), .ref (b + (n + 2)), .ref (b + (n + 3)), .ref (b + (n + 4))]) (rest := [.ref (b + n)]) dX6_read_155 mlX6_67 (mX5_init (i := n) (n := n + 5) (by omega) (e_ov_get hw5.1 (p := 7) rfl rfl)) ⟨Nat.le_of_ble_eq_true rfl, Nat.le_of_ble_eq_true rfl⟩ rfl rfl (Nat.le_of_ble_eq_true rfl) ⟨Nat.le_of_ble_eq_true rfl, Nat.le_of_ble_eq_true rfl⟩ (fun v c2 n2 h => ?_)
    obtain ⟨rfl, rfl, rfl⟩ := h
    refine E.aret dX6_read_158 (Or.inl ⟨_, rfl⟩) (Or.inr ⟨_, rfl⟩) (Nat.le_of_ble_eq_true rfl) (Nat.le_of_ble_eq_true rfl) (Or.inr ⟨rfl, rfl, ?_, rfl⟩)
    show e_up (e_ov [30, 31, 32, 33, 34, 35, 36, n, (n + 1), (n + 2), (n + 3), (n + 4)] ((wW85 G b v30_length a31 v32_clauses v32_length v32_parts v32_start v32_behind v32_token v32_number s0 a33 a34 a35 a36) ++ [.inr (5, [.null, .null, .null, .null]), aI G (v32_clauses : Int32).toNatClampNeg (e_cof 12 v32_clauses a33), aI G (v32_clauses : Int32).toNatClampNeg (e_cof 12 v32_clauses a34), aI G (v32_clauses : Int32).toNatClampNeg (e_cof 12 v32_clauses a35), aI G (v32_length : Int32).toNatClampNeg (e_cof 400 v32_length a36)]) c0) n _ = _
    rw [e_ov_set hw5.1 (p := 7) (e0 := .inr (5, [.null, .null, .null, .null])) rfl rfl]
    exact e_ov_tail hw rfl rfl
  · have hf := e_ift hf h
    refine E.aconst_null dX6_read_105 ?_
    cases hf
    exact E.aret dX6_read_106 (Or.inl ⟨_, rfl⟩) (Or.inl rfl) (Nat.zero_le _) (Nat.zero_le _) (Or.inl ⟨rfl, rfl, rfl, rfl⟩)
def fX6_read_L94 (Fu : Nat) (v30_length : Int32) (a31 : Nat → Int32) (v32_clauses : Int32) (v32_length : Int32) (v32_parts : Int32) (v32_start : Int32) (v32_behind : Int32) (v32_token : Int32) (v32_number : Int32) (v32_good : Int32) (a33 : Nat → Int32) (a34 : Nat → Int32) (a35 : Nat → Int32) (a36 : Nat → Int32) : Option (Int32 × Int32 × Int32 × Int32 × Int32 × Int32 × Int32 × Int32 × Int32 × (Nat → Int32) × (Nat → Int32) × (Nat → Int32) × (Nat → Int32)) := fX6_read_L95 Fu v30_length a31 v32_clauses v32_length v32_parts v32_start v32_behind v32_token v32_number v32_good a33 a34 a35 a36 0
set_option maxHeartbeats 4000000 in
set_option maxRecDepth 100000 in
theorem tX6_read_L94 {G : GT} {b : Nat} {c0 : Hp} {n : Nat} (hw : e_wf (kW85) n)  {Fu : Nat} {v30_length : Int32} {a31 : Nat → Int32} {v32_clauses : Int32} {v32_length : Int32} {v32_parts : Int32} {v32_start : Int32} {v32_behind : Int32} {v32_token : Int32} {v32_number : Int32} {v32_good : Int32} {a33 : Nat → Int32} {a34 : Nat → Int32} {a35 : Nat → Int32} {a36 : Nat → Int32} {R : Int32 × Int32 × Int32 × Int32 × Int32 × Int32 × Int32 × Int32 × Int32 × (Nat → Int32) × (Nat → Int32) × (Nat → Int32) × (Nat → Int32)} (hf : fX6_read_L94 Fu v30_length a31 v32_clauses v32_length v32_parts v32_start v32_behind v32_token v32_number v32_good a33 a34 a35 a36 = some R) : E G b yX6_read cX6_read 2 (some (.object "YardCourt$Law")) (e_rm 92 5 1604) e_X0 (e_Z G b (pRd b n R.1 (e_ov (kW85) (wW85 G b v30_length a31 R.2.1 R.2.2.1 R.2.2.2.1 R.2.2.2.2.1 R.2.2.2.2.2.1 R.2.2.2.2.2.2.1 R.2.2.2.2.2.2.2.1 R.2.2.2.2.2.2.2.2.1 R.2.2.2.2.2.2.2.2.2.1 R.2.2.2.2.2.2.2.2.2.2.1 R.2.2.2.2.2.2.2.2.2.2.2.1 R.2.2.2.2.2.2.2.2.2.2.2.2) c0) (e_nl G b n R.2.1 R.2.2.1 R.2.2.2.2.2.2.2.2.2.1 R.2.2.2.2.2.2.2.2.2.2.1 R.2.2.2.2.2.2.2.2.2.2.2.1 R.2.2.2.2.2.2.2.2.2.2.2.2)) 5 1604) 94 [(0, .ref (b + 32))] [.ref (b + 32)] (e_ov (kW85) (wW85 G b v30_length a31 v32_clauses v32_length v32_parts v32_start v32_behind v32_token v32_number v32_good a33 a34 a35 a36) c0) n 0 0 := by
  unfold fX6_read_L94 at hf
  refine E.iconst (v := 0) dX6_read_94 (by decide) ?_
  exact tX6_read_L95 hw hf
def fX6_read_L75 (Fu : Nat) (v30_length : Int32) (a31 : Nat → Int32) (v32_clauses : Int32) (v32_length : Int32) (v32_parts : Int32) (v32_start : Int32) (v32_behind : Int32) (v32_token : Int32) (v32_number : Int32) (v32_good : Int32) (a33 : Nat → Int32) (a34 : Nat → Int32) (a35 : Nat → Int32) (a36 : Nat → Int32) : Option (Int32 × Int32 × Int32 × Int32 × Int32 × Int32 × Int32 × Int32 × Int32 × (Nat → Int32) × (Nat → Int32) × (Nat → Int32) × (Nat → Int32)) := if (v32_good : Int32) = (0 : Int32) then (fX6_read_L94 Fu v30_length a31 v32_clauses v32_length v32_parts v32_start v32_behind v32_token v32_number v32_good a33 a34 a35 a36) else (if (v32_token : Int32) = (0 : Int32) then (fX6_read_L95 Fu v30_length a31 v32_clauses v32_length v32_parts v32_start v32_behind v32_token v32_number v32_good a33 a34 a35 a36 1) else (fX6_read_L94 Fu v30_length a31 v32_clauses v32_length v32_parts v32_start v32_behind v32_token v32_number v32_good a33 a34 a35 a36))
set_option maxHeartbeats 4000000 in
set_option maxRecDepth 100000 in
theorem tX6_read_L75 {G : GT} {b : Nat} {c0 : Hp} {n : Nat} (hw : e_wf (kW85) n)  {Fu : Nat} {v30_length : Int32} {a31 : Nat → Int32} {v32_clauses : Int32} {v32_length : Int32} {v32_parts : Int32} {v32_start : Int32} {v32_behind : Int32} {v32_token : Int32} {v32_number : Int32} {v32_good : Int32} {a33 : Nat → Int32} {a34 : Nat → Int32} {a35 : Nat → Int32} {a36 : Nat → Int32} {R : Int32 × Int32 × Int32 × Int32 × Int32 × Int32 × Int32 × Int32 × Int32 × (Nat → Int32) × (Nat → Int32) × (Nat → Int32) × (Nat → Int32)} (hf : fX6_read_L75 Fu v30_length a31 v32_clauses v32_length v32_parts v32_start v32_behind v32_token v32_number v32_good a33 a34 a35 a36 = some R) : E G b yX6_read cX6_read 2 (some (.object "YardCourt$Law")) (e_rm 92 5 1604) e_X0 (e_Z G b (pRd b n R.1 (e_ov (kW85) (wW85 G b v30_length a31 R.2.1 R.2.2.1 R.2.2.2.1 R.2.2.2.2.1 R.2.2.2.2.2.1 R.2.2.2.2.2.2.1 R.2.2.2.2.2.2.2.1 R.2.2.2.2.2.2.2.2.1 R.2.2.2.2.2.2.2.2.2.1 R.2.2.2.2.2.2.2.2.2.2.1 R.2.2.2.2.2.2.2.2.2.2.2.1 R.2.2.2.2.2.2.2.2.2.2.2.2) c0) (e_nl G b n R.2.1 R.2.2.1 R.2.2.2.2.2.2.2.2.2.1 R.2.2.2.2.2.2.2.2.2.2.1 R.2.2.2.2.2.2.2.2.2.2.2.1 R.2.2.2.2.2.2.2.2.2.2.2.2)) 5 1604) 75 [(0, .ref (b + 32))] [] (e_ov (kW85) (wW85 G b v30_length a31 v32_clauses v32_length v32_parts v32_start v32_behind v32_token v32_number v32_good a33 a34 a35 a36) c0) n 0 0 := by
  unfold fX6_read_L75 at hf
  refine E.aload_n 0 dX6_read_75 rfl ?_
  refine E.aload_n 0 dX6_read_76 rfl ?_
  refine E.get hw 2 32 dX6_read_77 flX6_30 rfl rfl rfl rfl ?_
  refine E.if_eq dX6_read_80 (fun h => ?_) (fun h => ?_)
  · have hf := e_ift hf h
    exact tX6_read_L94 hw hf
  · have hf := e_iff hf h
    refine E.aload_n 0 dX6_read_83 rfl ?_
    refine E.get hw 2 32 dX6_read_84 flX6_58 rfl rfl rfl rfl ?_
    refine E.if_ne dX6_read_87 (fun h => ?_) (fun h => ?_)
    · have hf := e_iff hf h
      exact tX6_read_L94 hw hf
    · have hf := e_ift hf h
      refine E.iconst (v := 1) dX6_read_90 (by decide) ?_
      refine E.goto dX6_read_91 ?_
      exact tX6_read_L95 hw hf
def fX6_read_L34 (Fu : Nat) : Nat → Int32 → (Nat → Int32) → Int32 → Int32 → Int32 → Int32 → Int32 → Int32 → Int32 → Int32 → (Nat → Int32) → (Nat → Int32) → (Nat → Int32) → (Nat → Int32) → Int32 → Option (Int32 × Int32 × Int32 × Int32 × Int32 × Int32 × Int32 × Int32 × Int32 × (Nat → Int32) × (Nat → Int32) × (Nat → Int32) × (Nat → Int32))
  | 0, _, _, _, _, _, _, _, _, _, _, _, _, _, _, _ => none
  | k + 1, v30_length, a31, v32_clauses, v32_length, v32_parts, v32_start, v32_behind, v32_token, v32_number, v32_good, a33, a34, a35, a36, x1 => if (400 : Int32) ≤ (x1 : Int32) then (fX6_read_L75 Fu v30_length a31 v32_clauses v32_length v32_parts v32_start v32_behind v32_token v32_number v32_good a33 a34 a35 a36) else (if (v32_good : Int32) = (0 : Int32) then (fX6_read_L75 Fu v30_length a31 v32_clauses v32_length v32_parts v32_start v32_behind v32_token v32_number v32_good a33 a34 a35 a36) else ((fX6_isSign v30_length a31 v32_start v32_token 59).bind fun r4 => (if (r4 : Int32) = (0 : Int32) then (fX6_read_L75 Fu v30_length a31 v32_clauses v32_length v32_parts v32_start v32_behind v32_token v32_number v32_good a33 a34 a35 a36) else ((fX6_advance Fu v30_length a31 v32_start v32_behind v32_token v32_number).bind fun r5 => ((fX6_readClause Fu v30_length a31 v32_clauses v32_length v32_parts r5.1 r5.2.1 r5.2.2.1 r5.2.2.2 a33 a34 a35 a36).bind fun r6 => (gb r6.1 ((fX6_read_L34 Fu k) v30_length a31 r6.2.1 r6.2.2.1 r6.2.2.2.1 r6.2.2.2.2.1 r6.2.2.2.2.2.1 r6.2.2.2.2.2.2.1 r6.2.2.2.2.2.2.2.1 r6.1 r6.2.2.2.2.2.2.2.2.1 r6.2.2.2.2.2.2.2.2.2.1 r6.2.2.2.2.2.2.2.2.2.2.1 r6.2.2.2.2.2.2.2.2.2.2.2 (x1 + 1))))))))
set_option maxHeartbeats 4000000 in
set_option maxRecDepth 100000 in
theorem tX6_read_L34 {G : GT} {b : Nat} {c0 : Hp} {n : Nat} (hw : e_wf (kW85) n)  {Fu : Nat} : ∀ (k : Nat) {v30_length : Int32} {a31 : Nat → Int32} {v32_clauses : Int32} {v32_length : Int32} {v32_parts : Int32} {v32_start : Int32} {v32_behind : Int32} {v32_token : Int32} {v32_number : Int32} {v32_good : Int32} {a33 : Nat → Int32} {a34 : Nat → Int32} {a35 : Nat → Int32} {a36 : Nat → Int32} {x1 : Int32} {R : Int32 × Int32 × Int32 × Int32 × Int32 × Int32 × Int32 × Int32 × Int32 × (Nat → Int32) × (Nat → Int32) × (Nat → Int32) × (Nat → Int32)}, fX6_read_L34 Fu k v30_length a31 v32_clauses v32_length v32_parts v32_start v32_behind v32_token v32_number v32_good a33 a34 a35 a36 x1 = some R → E G b yX6_read cX6_read 2 (some (.object "YardCourt$Law")) (e_rm 92 5 1604) e_X0 (e_Z G b (pRd b n R.1 (e_ov (kW85) (wW85 G b v30_length a31 R.2.1 R.2.2.1 R.2.2.2.1 R.2.2.2.2.1 R.2.2.2.2.2.1 R.2.2.2.2.2.2.1 R.2.2.2.2.2.2.2.1 R.2.2.2.2.2.2.2.2.1 R.2.2.2.2.2.2.2.2.2.1 R.2.2.2.2.2.2.2.2.2.2.1 R.2.2.2.2.2.2.2.2.2.2.2.1 R.2.2.2.2.2.2.2.2.2.2.2.2) c0) (e_nl G b n R.2.1 R.2.2.1 R.2.2.2.2.2.2.2.2.2.1 R.2.2.2.2.2.2.2.2.2.2.1 R.2.2.2.2.2.2.2.2.2.2.2.1 R.2.2.2.2.2.2.2.2.2.2.2.2)) 5 1604) 34 [(0, .ref (b + 32)), (1, .int x1)] [] (e_ov (kW85) (wW85 G b v30_length a31 v32_clauses v32_length v32_parts v32_start v32_behind v32_token v32_number v32_good a33 a34 a35 a36) c0) n 0 0 := by
  intro k
  induction k with
  | zero =>
    intro _ _ _ _ _ _ _ _ _ _ _ _ _ _ _ _ hf
    have hf : (none : Option (Int32 × Int32 × Int32 × Int32 × Int32 × Int32 × Int32 × Int32 × Int32 × (Nat → Int32) × (Nat → Int32) × (Nat → Int32) × (Nat → Int32))) = some _ := hf
    cases hf
  | succ k ih =>
    intro v30_length a31 v32_clauses v32_length v32_parts v32_start v32_behind v32_token v32_number v32_good a33 a34 a35 a36 x1 R hf
    rw [fX6_read_L34] at hf
    refine E.iload_n 1 dX6_read_34 rfl ?_
    refine E.sipush (v := 400) dX6_read_35 (by decide) ?_
    refine E.icmp_ge dX6_read_38 (fun h => ?_) (fun h => ?_)
    · have hf := e_ift hf h
      refine E.locals [0] rfl ?_
      exact tX6_read_L75 hw hf
    · have hf := e_iff hf h
      refine E.aload_n 0 dX6_read_41 rfl ?_
      refine E.get hw 2 32 dX6_read_42 flX6_30 rfl rfl rfl rfl ?_
      refine E.if_eq dX6_read_45 (fun h => ?_) (fun h => ?_)
      · have hf := e_ift hf h
        refine E.locals [0] rfl ?_
        exact tX6_read_L75 hw hf
      · have hf := e_iff hf h
        refine E.aload_n 0 dX6_read_48 rfl ?_
        refine E.bipush (v := 59) dX6_read_49 (by decide) ?_
        obtain ⟨r4, hc4, hf⟩ := e_bind hf
        refine E.callVDs (es' := (wW85 G b v30_length a31 v32_clauses v32_length v32_parts v32_start v32_behind v32_token v32_number v32_good a33 a34 a35 a36)) [] [0, 1, 2] 2 32 dX6_read_51 mlX6_54 hw rfl rfl rfl rfl (mX6_isSign (hw.pick2 [0, 1, 2] rfl (by decide)) hc4) rfl rfl rfl rfl ⟨Nat.le_of_ble_eq_true rfl, Nat.le_of_ble_eq_true rfl⟩ rfl rfl (Nat.le_of_ble_eq_true rfl) ⟨Nat.le_of_ble_eq_true rfl, Nat.le_of_ble_eq_true rfl⟩ rfl ?_
        refine E.if_eq dX6_read_54 (fun h => ?_) (fun h => ?_)
        · have hf := e_ift hf h
          refine E.locals [0] rfl ?_
          exact tX6_read_L75 hw hf
        · have hf := e_iff hf h
          refine E.aload_n 0 dX6_read_57 rfl ?_
          obtain ⟨r5, hc5, hf⟩ := e_bind hf
          refine E.callVDs (es' := (wW85 G b v30_length a31 v32_clauses v32_length v32_parts r5.1 r5.2.1 r5.2.2.1 r5.2.2.2 v32_good a33 a34 a35 a36)) [] [0, 1, 2] 2 32 dX6_read_58 mlX6_47 hw rfl rfl rfl rfl (mX6_advance (hw.pick2 [0, 1, 2] rfl (by decide)) hc5) rfl rfl rfl rfl ⟨Nat.le_of_ble_eq_true rfl, Nat.le_of_ble_eq_true rfl⟩ rfl rfl (Nat.le_of_ble_eq_true rfl) ⟨Nat.le_of_ble_eq_true rfl, Nat.le_of_ble_eq_true rfl⟩ rfl ?_
          refine E.aload_n 0 dX6_read_61 rfl ?_
          refine E.aload_n 0 dX6_read_62 rfl ?_
          obtain ⟨r6, hc6, hf⟩ := e_bind hf
          refine E.callVD [.ref (b + 32)] dX6_read_63 mlX6_50 ⟨hw.sub (p := 2) rfl, e_ov_get hw.1 (p := 2) rfl rfl⟩ rfl rfl (mX6_readClause hw hc6) ⟨Nat.le_of_ble_eq_true rfl, Nat.le_of_ble_eq_true rfl⟩ rfl rfl (Nat.le_of_ble_eq_true rfl) ⟨Nat.le_of_ble_eq_true rfl, Nat.le_of_ble_eq_true rfl⟩ rfl ?_
          obtain ⟨g7, hf⟩ := gb_some hf
          refine E.put (es' := (wW85 G b v30_length a31 r6.2.1 r6.2.2.1 r6.2.2.2.1 r6.2.2.2.2.1 r6.2.2.2.2.2.1 r6.2.2.2.2.2.2.1 r6.2.2.2.2.2.2.2.1 r6.1 r6.2.2.2.2.2.2.2.2.1 r6.2.2.2.2.2.2.2.2.2.1 r6.2.2.2.2.2.2.2.2.2.2.1 r6.2.2.2.2.2.2.2.2.2.2.2)) hw 2 32 dX6_read_66 flX6_30 ftX6 rfl rfl rfl rfl (nb01 g7) (fb01 g7) (Nat.le_of_ble_eq_true rfl) rfl ?_
          refine E.iinc (q := 1) (v := (x1 + 1)) (lv' := [(1, .int (x1 + 1)), (0, .ref (b + 32))]) dX6_read_69 rfl rfl (by decide) rfl ?_
          refine E.goto dX6_read_72 ?_
          refine E.locals [1, 0] rfl ?_
          exact ih hf
def fX6_read (Fu : Nat) (v30_length : Int32) (a31 : Nat → Int32) (v32_clauses : Int32) (v32_length : Int32) (v32_parts : Int32) (v32_start : Int32) (v32_behind : Int32) (v32_token : Int32) (v32_number : Int32) (v32_good : Int32) (a33 : Nat → Int32) (a34 : Nat → Int32) (a35 : Nat → Int32) (a36 : Nat → Int32) : Option (Int32 × Int32 × Int32 × Int32 × Int32 × Int32 × Int32 × Int32 × Int32 × (Nat → Int32) × (Nat → Int32) × (Nat → Int32) × (Nat → Int32)) := (fX6_advance Fu v30_length a31 v32_start 0 v32_token v32_number).bind fun r1 => ((fX6_readClause Fu v30_length a31 0 0 0 r1.1 r1.2.1 r1.2.2.1 r1.2.2.2 a33 a34 a35 a36).bind fun r2 => (gb r2.1 (fX6_read_L34 Fu Fu v30_length a31 r2.2.1 r2.2.2.1 r2.2.2.2.1 r2.2.2.2.2.1 r2.2.2.2.2.2.1 r2.2.2.2.2.2.2.1 r2.2.2.2.2.2.2.2.1 r2.1 r2.2.2.2.2.2.2.2.2.1 r2.2.2.2.2.2.2.2.2.2.1 r2.2.2.2.2.2.2.2.2.2.2.1 r2.2.2.2.2.2.2.2.2.2.2.2 0)))
set_option maxHeartbeats 4000000 in
set_option maxRecDepth 100000 in
theorem tX6_read {G : GT} {b : Nat} {c0 : Hp} {n : Nat} (hw : e_wf (kW85) n)  {Fu : Nat} {v30_length : Int32} {a31 : Nat → Int32} {v32_clauses : Int32} {v32_length : Int32} {v32_parts : Int32} {v32_start : Int32} {v32_behind : Int32} {v32_token : Int32} {v32_number : Int32} {v32_good : Int32} {a33 : Nat → Int32} {a34 : Nat → Int32} {a35 : Nat → Int32} {a36 : Nat → Int32} {R : Int32 × Int32 × Int32 × Int32 × Int32 × Int32 × Int32 × Int32 × Int32 × (Nat → Int32) × (Nat → Int32) × (Nat → Int32) × (Nat → Int32)} (hf : fX6_read Fu v30_length a31 v32_clauses v32_length v32_parts v32_start v32_behind v32_token v32_number v32_good a33 a34 a35 a36 = some R) : E G b yX6_read cX6_read 2 (some (.object "YardCourt$Law")) (e_rm 92 5 1604) e_X0 (e_Z G b (pRd b n R.1 (e_ov (kW85) (wW85 G b v30_length a31 R.2.1 R.2.2.1 R.2.2.2.1 R.2.2.2.2.1 R.2.2.2.2.2.1 R.2.2.2.2.2.2.1 R.2.2.2.2.2.2.2.1 R.2.2.2.2.2.2.2.2.1 R.2.2.2.2.2.2.2.2.2.1 R.2.2.2.2.2.2.2.2.2.2.1 R.2.2.2.2.2.2.2.2.2.2.2.1 R.2.2.2.2.2.2.2.2.2.2.2.2) c0) (e_nl G b n R.2.1 R.2.2.1 R.2.2.2.2.2.2.2.2.2.1 R.2.2.2.2.2.2.2.2.2.2.1 R.2.2.2.2.2.2.2.2.2.2.2.1 R.2.2.2.2.2.2.2.2.2.2.2.2)) 5 1604) 0 [(0, .ref (b + 32))] [] (e_ov (kW85) (wW85 G b v30_length a31 v32_clauses v32_length v32_parts v32_start v32_behind v32_token v32_number v32_good a33 a34 a35 a36) c0) n 0 0 := by
  unfold fX6_read at hf
  refine E.aload_n 0 dX6_read_0 rfl ?_
  refine E.iconst (v := 0) dX6_read_1 (by decide) ?_
  refine E.put (es' := (wW85 G b v30_length a31 0 v32_length v32_parts v32_start v32_behind v32_token v32_number v32_good a33 a34 a35 a36)) hw 2 32 dX6_read_2 flX6_34 ftX6 rfl rfl rfl rfl rfl rfl (Nat.le_of_ble_eq_true rfl) rfl ?_
  refine E.aload_n 0 dX6_read_5 rfl ?_
  refine E.iconst (v := 0) dX6_read_6 (by decide) ?_
  refine E.put (es' := (wW85 G b v30_length a31 0 0 v32_parts v32_start v32_behind v32_token v32_number v32_good a33 a34 a35 a36)) hw 2 32 dX6_read_7 flX6_38 ftX6 rfl rfl rfl rfl rfl rfl (Nat.le_of_ble_eq_true rfl) rfl ?_
  refine E.aload_n 0 dX6_read_10 rfl ?_
  refine E.iconst (v := 0) dX6_read_11 (by decide) ?_
  refine E.put (es' := (wW85 G b v30_length a31 0 0 0 v32_start v32_behind v32_token v32_number v32_good a33 a34 a35 a36)) hw 2 32 dX6_read_12 flX6_41 ftX6 rfl rfl rfl rfl rfl rfl (Nat.le_of_ble_eq_true rfl) rfl ?_
  refine E.aload_n 0 dX6_read_15 rfl ?_
  refine E.iconst (v := 0) dX6_read_16 (by decide) ?_
  refine E.put (es' := (wW85 G b v30_length a31 0 0 0 v32_start 0 v32_token v32_number v32_good a33 a34 a35 a36)) hw 2 32 dX6_read_17 flX6_44 ftX6 rfl rfl rfl rfl rfl rfl (Nat.le_of_ble_eq_true rfl) rfl ?_
  refine E.aload_n 0 dX6_read_20 rfl ?_
  obtain ⟨r1, hc1, hf⟩ := e_bind hf
  refine E.callVDs (es' := (wW85 G b v30_length a31 0 0 0 r1.1 r1.2.1 r1.2.2.1 r1.2.2.2 v32_good a33 a34 a35 a36)) [] [0, 1, 2] 2 32 dX6_read_21 mlX6_47 hw rfl rfl rfl rfl (mX6_advance (hw.pick2 [0, 1, 2] rfl (by decide)) hc1) rfl rfl rfl rfl ⟨Nat.le_of_ble_eq_true rfl, Nat.le_of_ble_eq_true rfl⟩ rfl rfl (Nat.le_of_ble_eq_true rfl) ⟨Nat.le_of_ble_eq_true rfl, Nat.le_of_ble_eq_true rfl⟩ rfl ?_
  refine E.aload_n 0 dX6_read_24 rfl ?_
  refine E.aload_n 0 dX6_read_25 rfl ?_
  obtain ⟨r2, hc2, hf⟩ := e_bind hf
  refine E.callVD [.ref (b + 32)] dX6_read_26 mlX6_50 ⟨hw.sub (p := 2) rfl, e_ov_get hw.1 (p := 2) rfl rfl⟩ rfl rfl (mX6_readClause hw hc2) ⟨Nat.le_of_ble_eq_true rfl, Nat.le_of_ble_eq_true rfl⟩ rfl rfl (Nat.le_of_ble_eq_true rfl) ⟨Nat.le_of_ble_eq_true rfl, Nat.le_of_ble_eq_true rfl⟩ rfl ?_
  obtain ⟨g3, hf⟩ := gb_some hf
  refine E.put (es' := (wW85 G b v30_length a31 r2.2.1 r2.2.2.1 r2.2.2.2.1 r2.2.2.2.2.1 r2.2.2.2.2.2.1 r2.2.2.2.2.2.2.1 r2.2.2.2.2.2.2.2.1 r2.1 r2.2.2.2.2.2.2.2.2.1 r2.2.2.2.2.2.2.2.2.2.1 r2.2.2.2.2.2.2.2.2.2.2.1 r2.2.2.2.2.2.2.2.2.2.2.2)) hw 2 32 dX6_read_29 flX6_30 ftX6 rfl rfl rfl rfl (nb01 g3) (fb01 g3) (Nat.le_of_ble_eq_true rfl) rfl ?_
  refine E.iconst (v := 0) dX6_read_32 (by decide) ?_
  refine E.istore_n (lv' := [(1, .int 0), (0, .ref (b + 32))]) dX6_read_33 (by decide) rfl ?_
  refine E.locals [1, 0] rfl ?_
  exact tX6_read_L34 hw _ hf
set_option maxRecDepth 100000 in
theorem mX6_read {G : GT} {b : Nat} {c0 : Hp} {n : Nat} (hw : e_wf (kW85) n)  {Fu : Nat} {v30_length : Int32} {a31 : Nat → Int32} {v32_clauses : Int32} {v32_length : Int32} {v32_parts : Int32} {v32_start : Int32} {v32_behind : Int32} {v32_token : Int32} {v32_number : Int32} {v32_good : Int32} {a33 : Nat → Int32} {a34 : Nat → Int32} {a35 : Nat → Int32} {a36 : Nat → Int32} {R : Int32 × Int32 × Int32 × Int32 × Int32 × Int32 × Int32 × Int32 × Int32 × (Nat → Int32) × (Nat → Int32) × (Nat → Int32) × (Nat → Int32)} (hf : fX6_read Fu v30_length a31 v32_clauses v32_length v32_parts v32_start v32_behind v32_token v32_number v32_good a33 a34 a35 a36 = some R) : e_C G b yX6_read cX6_read 2 (some (.object "YardCourt$Law")) 92 5 1604 [.ref (b + 32)] (e_ov (kW85) (wW85 G b v30_length a31 v32_clauses v32_length v32_parts v32_start v32_behind v32_token v32_number v32_good a33 a34 a35 a36) c0) n (pRd b n R.1 (e_ov (kW85) (wW85 G b v30_length a31 R.2.1 R.2.2.1 R.2.2.2.1 R.2.2.2.2.1 R.2.2.2.2.2.1 R.2.2.2.2.2.2.1 R.2.2.2.2.2.2.2.1 R.2.2.2.2.2.2.2.2.1 R.2.2.2.2.2.2.2.2.2.1 R.2.2.2.2.2.2.2.2.2.2.1 R.2.2.2.2.2.2.2.2.2.2.2.1 R.2.2.2.2.2.2.2.2.2.2.2.2) c0) (e_nl G b n R.2.1 R.2.2.1 R.2.2.2.2.2.2.2.2.2.1 R.2.2.2.2.2.2.2.2.2.2.1 R.2.2.2.2.2.2.2.2.2.2.2.1 R.2.2.2.2.2.2.2.2.2.2.2.2)) := e_C.of (by decide) (Nat.le_of_ble_eq_true rfl) (tX6_read hw hf)
