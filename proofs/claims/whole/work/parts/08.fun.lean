/-! ===== what the printed functions are made of: guards, and how a proof takes them apart ===== -/
/-- an index is within -/
def gd {α : Type} (i : Int32) (n : Nat) (k : Option α) : Option α := if i < 0 ∨ n ≤ i.toNatClampNeg then none else k
theorem gd_some {α : Type} {i : Int32} {n : Nat} {k : Option α} {r : α} (h : gd i n k = some r) : vp_in i n ∧ k = some r := by
  unfold gd at h
  by_cases h1 : i < 0 ∨ n ≤ i.toNatClampNeg
  · rw [if_pos h1] at h; cases h
  · rw [if_neg h1] at h; exact ⟨h1, h⟩
theorem gd_in {α : Type} {i : Int32} {n : Nat} {k : Option α} (h : vp_in i n) : gd i n k = k := if_neg h
/-- a divisor is not 0 -/
def gz {α : Type} (x : Int32) (k : Option α) : Option α := if x = 0 then none else k
theorem gz_some {α : Type} {x : Int32} {k : Option α} {r : α} (h : gz x k = some r) : ¬ x = 0 ∧ k = some r := by
  unfold gz at h
  by_cases h1 : x = 0
  · rw [if_pos h1] at h; cases h
  · rw [if_neg h1] at h; exact ⟨h1, h⟩
theorem gz_in {α : Type} {x : Int32} {k : Option α} (h : ¬ x = 0) : gz x k = k := if_neg h
def gzl {α : Type} (x : Int64) (k : Option α) : Option α := if x = 0 then none else k
theorem gzl_some {α : Type} {x : Int64} {k : Option α} {r : α} (h : gzl x k = some r) : ¬ x = 0 ∧ k = some r := by
  unfold gzl at h
  by_cases h1 : x = 0
  · rw [if_pos h1] at h; cases h
  · rw [if_neg h1] at h; exact ⟨h1, h⟩
theorem gzl_in {α : Type} {x : Int64} {k : Option α} (h : ¬ x = 0) : gzl x k = k := if_neg h
/-- a boolean is 0 or 1 -/
def gb {α : Type} (x : Int32) (k : Option α) : Option α := if x = 0 ∨ x = 1 then k else none
theorem gb_some {α : Type} {x : Int32} {k : Option α} {r : α} (h : gb x k = some r) : (x = 0 ∨ x = 1) ∧ k = some r := by
  unfold gb at h
  by_cases h1 : x = 0 ∨ x = 1
  · rw [if_pos h1] at h; exact ⟨h1, h⟩
  · rw [if_neg h1] at h; cases h
theorem gb_in {α : Type} {x : Int32} {k : Option α} (h : x = 0 ∨ x = 1) : gb x k = k := if_pos h
theorem nb01 {x : Int32} (h : x = 0 ∨ x = 1) : narrow .boolean (.int x) = .int x := by
  rcases h with rfl | rfl <;> rfl
theorem fb01 {x : Int32} (h : x = 0 ∨ x = 1) : fits .boolean (.int x) = true := by
  rcases h with rfl | rfl <;> rfl
theorem e_ift {α : Type} {c : Prop} [Decidable c] {A B : Option α} {r : α} (h : (if c then A else B) = some r) (hc : c) : A = some r := by rw [if_pos hc] at h; exact h
theorem e_iff {α : Type} {c : Prop} [Decidable c] {A B : Option α} {r : α} (h : (if c then A else B) = some r) (hc : ¬ c) : B = some r := by rw [if_neg hc] at h; exact h
theorem e_bind {α β : Type} {x : Option α} {f : α → Option β} {r : β} (h : x.bind f = some r) : ∃ a, x = some a ∧ f a = some r := Option.bind_eq_some_iff.mp h
/-- one answer, one heap -/
def pD (v : Option Value) (c1 : Hp) (n1 : Nat) : Option Value → Hp → Nat → Prop := fun v' c' n' => v' = v ∧ c' = c1 ∧ n' = n1
theorem pD_rf (v : Option Value) (c1 : Hp) (n1 : Nat) : pD v c1 n1 v c1 n1 := ⟨rfl, rfl, rfl⟩
section EDET
variable {G : GT} {b : Nat} {y : MethodName} {cc : ByteArray} {nL : Nat} {ret : Option FieldType} {R : Room} {Ex : e_XT} {Z : e_ZT} {pc pc' : Nat} {lv : List (Nat × Value)} {st st' : List Value} {c c2 : Hp} {n n2 : Nat} {kc ks : Nat}
variable {y2 : MethodName} {cc2 : ByteArray} {nL2 : Nat} {ret2 : Option FieldType} {d2 a index : Nat} {As : List Value} {v2 : Option Value}
theorem E.callSD (rest : List Value) (hd : decode cc pc = .ok (.invokestatic index, 3) ∧ pc + 3 = pc') (hm : e_ms y.cls index y2 cc2 nL2 ret2 a) (hC : e_C G b y2 cc2 nL2 ret2 d2 0 0 As c n (pD v2 c2 n2)) (hR : d2 + 1 ≤ R.frames ∧ 64 * d2 + 51 ≤ R.locals) (hn : As.length = a) (hst : As.reverse ++ rest = st) (hr : (rest.map fun v => v.category).sum ≤ 8) (hf : kc ≤ R.cells ∧ ks ≤ R.slots) (hst' : v2.toList ++ rest = st')
    (k : E G b y cc nL ret R Ex Z pc' lv st' c2 n2 kc ks) : E G b y cc nL ret R Ex Z pc lv st c n kc ks := by
  refine E.callS hd hm hC hR hn hst hr hf (fun v c' n' h => ?_)
  obtain ⟨rfl, rfl, rfl⟩ := h
  rw [hst']
  exact k
theorem E.callVD (rest : List Value) {i ci : Nat} {fs : List Value} {r : vw_C} (hd : decode cc pc = .ok (.invokevirtual index, 3) ∧ pc + 3 = pc') (hm : e_mv y.cls index y2 cc2 nL2 ret2 a) (hi : i < n ∧ c i = .inr (ci, fs)) (hci : cls13[ci]? = some r) (hy : r.1 = y2.cls) (hC : e_C G b y2 cc2 nL2 ret2 d2 0 0 (.ref (b + i) :: As) c n (pD v2 c2 n2)) (hR : d2 + 1 ≤ R.frames ∧ 64 * d2 + 51 ≤ R.locals) (hn : As.length = a) (hst : As.reverse ++ .ref (b + i) :: rest = st) (hr : (rest.map fun v => v.category).sum ≤ 8) (hf : kc ≤ R.cells ∧ ks ≤ R.slots) (hst' : v2.toList ++ rest = st')
    (k : E G b y cc nL ret R Ex Z pc' lv st' c2 n2 kc ks) : E G b y cc nL ret R Ex Z pc lv st c n kc ks := by
  refine E.callV hd hm hi hci hy hC hR hn hst hr hf (fun v c' n' h => ?_)
  obtain ⟨rfl, rfl, rfl⟩ := h
  rw [hst']
  exact k
/-- lcmp and the branch behind it -/
theorem lg_lt {x z : Int64} : lg_cmp x z < 0 ↔ x < z := by
  unfold lg_cmp
  simp only [gt_iff_lt]
  by_cases h1 : z < x
  · simp only [h1, if_true]
    exact ⟨fun h => absurd h (by decide), fun h => absurd (Int64.lt_trans h h1) (Int64.lt_irrefl)⟩
  · simp only [h1, if_false]
    by_cases h2 : x = z
    · simp only [h2, if_true]
      exact ⟨fun h => absurd h (by decide), fun h => absurd h (Int64.lt_irrefl)⟩
    · simp only [h2, if_false]
      refine ⟨fun _ => ?_, fun _ => by decide⟩
      exact Int64.lt_of_le_of_ne (Int64.not_lt.mp h1) h2
theorem lg_eq {x z : Int64} : lg_cmp x z = 0 ↔ x = z := by
  unfold lg_cmp
  simp only [gt_iff_lt]
  by_cases h1 : z < x
  · simp only [h1, if_true]
    exact ⟨fun h => absurd h (by decide), fun h => absurd h1 (by rw [h]; exact Int64.lt_irrefl)⟩
  · simp only [h1, if_false]
    by_cases h2 : x = z
    · simp only [h2, if_true]
    · simp only [h2, if_false]
      exact ⟨fun h => absurd h (by decide), fun h => h.elim⟩
theorem lg_gt {x z : Int64} : 0 < lg_cmp x z ↔ z < x := by
  unfold lg_cmp
  simp only [gt_iff_lt]
  by_cases h1 : z < x
  · simp only [h1, if_true]
    exact ⟨fun _ => trivial, fun _ => by decide⟩
  · simp only [h1, if_false]
    by_cases h2 : x = z
    · simp only [h2, if_true]
      exact ⟨fun h => absurd h (by decide), fun h => h.elim⟩
    · simp only [h2, if_false]
      exact ⟨fun h => absurd h (by decide), fun h => h.elim⟩
theorem lg_ge {x z : Int64} : 0 ≤ lg_cmp x z ↔ z ≤ x := by
  rw [← Int32.not_lt, lg_lt, Int64.not_lt]
theorem lg_le {x z : Int64} : lg_cmp x z ≤ 0 ↔ x ≤ z := by
  rw [← Int32.not_lt, lg_gt, Int64.not_lt]
variable {pc1 tgt : Nat} {off : Int} {x z : Int64}
theorem E.lc_lt (hd : decode cc pc = .ok (.lcmp, 1) ∧ pc + 1 = pc1) (hd2 : decode cc pc1 = .ok (.ifCond .lt off, 3) ∧ pc1 + 3 = pc' ∧ (pc1 : Int) + off = (tgt : Int)) (kt : x < z → E G b y cc nL ret R Ex Z tgt lv st c n kc ks) (kf : ¬ x < z → E G b y cc nL ret R Ex Z pc' lv st c n kc ks) : E G b y cc nL ret R Ex Z pc lv (.long z :: .long x :: st) c n kc ks :=
  E.lcmp hd (E.if_lt hd2 (fun h => kt (lg_lt.mp h)) (fun h => kf (fun q => h (lg_lt.mpr q))))
theorem E.lc_ge (hd : decode cc pc = .ok (.lcmp, 1) ∧ pc + 1 = pc1) (hd2 : decode cc pc1 = .ok (.ifCond .ge off, 3) ∧ pc1 + 3 = pc' ∧ (pc1 : Int) + off = (tgt : Int)) (kt : z ≤ x → E G b y cc nL ret R Ex Z tgt lv st c n kc ks) (kf : ¬ z ≤ x → E G b y cc nL ret R Ex Z pc' lv st c n kc ks) : E G b y cc nL ret R Ex Z pc lv (.long z :: .long x :: st) c n kc ks :=
  E.lcmp hd (E.if_ge hd2 (fun h => kt (lg_ge.mp h)) (fun h => kf (fun q => h (lg_ge.mpr q))))
theorem E.lc_gt (hd : decode cc pc = .ok (.lcmp, 1) ∧ pc + 1 = pc1) (hd2 : decode cc pc1 = .ok (.ifCond .gt off, 3) ∧ pc1 + 3 = pc' ∧ (pc1 : Int) + off = (tgt : Int)) (kt : z < x → E G b y cc nL ret R Ex Z tgt lv st c n kc ks) (kf : ¬ z < x → E G b y cc nL ret R Ex Z pc' lv st c n kc ks) : E G b y cc nL ret R Ex Z pc lv (.long z :: .long x :: st) c n kc ks :=
  E.lcmp hd (E.if_gt hd2 (fun h => kt (lg_gt.mp h)) (fun h => kf (fun q => h (lg_gt.mpr q))))
theorem E.lc_le (hd : decode cc pc = .ok (.lcmp, 1) ∧ pc + 1 = pc1) (hd2 : decode cc pc1 = .ok (.ifCond .le off, 3) ∧ pc1 + 3 = pc' ∧ (pc1 : Int) + off = (tgt : Int)) (kt : x ≤ z → E G b y cc nL ret R Ex Z tgt lv st c n kc ks) (kf : ¬ x ≤ z → E G b y cc nL ret R Ex Z pc' lv st c n kc ks) : E G b y cc nL ret R Ex Z pc lv (.long z :: .long x :: st) c n kc ks :=
  E.lcmp hd (E.if_le hd2 (fun h => kt (lg_le.mp h)) (fun h => kf (fun q => h (lg_le.mpr q))))
theorem E.lc_eq (hd : decode cc pc = .ok (.lcmp, 1) ∧ pc + 1 = pc1) (hd2 : decode cc pc1 = .ok (.ifCond .eq off, 3) ∧ pc1 + 3 = pc' ∧ (pc1 : Int) + off = (tgt : Int)) (kt : x = z → E G b y cc nL ret R Ex Z tgt lv st c n kc ks) (kf : ¬ x = z → E G b y cc nL ret R Ex Z pc' lv st c n kc ks) : E G b y cc nL ret R Ex Z pc lv (.long z :: .long x :: st) c n kc ks :=
  E.lcmp hd (E.if_eq hd2 (fun h => kt (lg_eq.mp h)) (fun h => kf (fun q => h (lg_eq.mpr q))))
theorem E.lc_ne (hd : decode cc pc = .ok (.lcmp, 1) ∧ pc + 1 = pc1) (hd2 : decode cc pc1 = .ok (.ifCond .ne off, 3) ∧ pc1 + 3 = pc' ∧ (pc1 : Int) + off = (tgt : Int)) (kt : ¬ x = z → E G b y cc nL ret R Ex Z tgt lv st c n kc ks) (kf : x = z → E G b y cc nL ret R Ex Z pc' lv st c n kc ks) : E G b y cc nL ret R Ex Z pc lv (.long z :: .long x :: st) c n kc ks :=
  E.lcmp hd (E.if_ne hd2 (fun h => kt (fun q => h (lg_eq.mpr q))) (fun h => kf (lg_eq.mp h)))
/-- a table of targets -/
theorem E.tswI {dflt lo hi : Int} {offs : Array Int} {len : Nat} {v w : Int32} (hd : decode cc pc = .ok (.tableswitch dflt lo hi offs, len)) (h : v = w) (h1 : ¬ w.toInt < lo) (h2 : ¬ hi < w.toInt) {o2 : Int} (ho : offs[(w.toInt - lo).toNat]? = some o2) (ht : (pc : Int) + o2 = (tgt : Int)) (k : E G b y cc nL ret R Ex Z tgt lv st c n kc ks) : E G b y cc nL ret R Ex Z pc lv (.int v :: st) c n kc ks := by
  subst h
  intro p l e s m args below meth cd H locs ls hc hS hH hl
  exact lv_tableIn hc.1 hc.2.1 hd h1 h2 ho ht (k p l e s m args below meth cd H locs ls hc hS hH hl)
theorem E.tswO {dflt lo hi : Int} {offs : Array Int} {len : Nat} {v : Int32} (hd : decode cc pc = .ok (.tableswitch dflt lo hi offs, len)) (h : v.toInt < lo ∨ hi < v.toInt) (ht : (pc : Int) + dflt = (tgt : Int)) (k : E G b y cc nL ret R Ex Z tgt lv st c n kc ks) : E G b y cc nL ret R Ex Z pc lv (.int v :: st) c n kc ks := by
  intro p l e s m args below meth cd H locs ls hc hS hH hl
  exact lv_tableOut hc.1 hc.2.1 hd h ht (k p l e s m args below meth cd H locs ls hc hS hH hl)
end EDET
theorem ne_toInt {x w : Int32} {k : Int} (h : ¬ x = w) (e : w.toInt = k) : x.toInt ≠ k := fun q => h (Int32.toInt_inj.mp (q.trans e.symm))
theorem e_st0 {x lo : Int} (h : ¬ x < lo) : lo + 0 ≤ x := by omega
theorem e_stN {x lo hi j : Int} (h : lo + (j + 1) ≤ x) (e : hi = lo + j) : hi < x := by omega
theorem e_st1 {x k lo j : Int} (h : x ≠ k) (e : k = lo + j) (g : lo + j ≤ x) : lo + (j + 1) ≤ x := by omega
theorem e_tsw_6 {x : Int32} {lo hi k0 k1 k2 k3 k4 k5 : Int} (h0 : x.toInt ≠ k0) (h1 : x.toInt ≠ k1) (h2 : x.toInt ≠ k2) (h3 : x.toInt ≠ k3) (h4 : x.toInt ≠ k4) (h5 : x.toInt ≠ k5) (eh : hi = lo + 5) (e0 : k0 = lo + 0) (e1 : k1 = lo + 1) (e2 : k2 = lo + 2) (e3 : k3 = lo + 3) (e4 : k4 = lo + 4) (e5 : k5 = lo + 5) : x.toInt < lo ∨ hi < x.toInt := by
  by_cases a : x.toInt < lo
  · exact Or.inl a
  have a0 : lo + 0 ≤ x.toInt := e_st0 a
  have a1 : lo + 1 ≤ x.toInt := e_st1 h0 e0 a0
  have a2 : lo + 2 ≤ x.toInt := e_st1 h1 e1 a1
  have a3 : lo + 3 ≤ x.toInt := e_st1 h2 e2 a2
  have a4 : lo + 4 ≤ x.toInt := e_st1 h3 e3 a3
  have a5 : lo + 5 ≤ x.toInt := e_st1 h4 e4 a4
  have a6 : lo + 6 ≤ x.toInt := e_st1 h5 e5 a5
  exact Or.inr (e_stN (j := 5) a6 eh)
theorem e_tsw_12 {x : Int32} {lo hi k0 k1 k2 k3 k4 k5 k6 k7 k8 k9 k10 k11 : Int} (h0 : x.toInt ≠ k0) (h1 : x.toInt ≠ k1) (h2 : x.toInt ≠ k2) (h3 : x.toInt ≠ k3) (h4 : x.toInt ≠ k4) (h5 : x.toInt ≠ k5) (h6 : x.toInt ≠ k6) (h7 : x.toInt ≠ k7) (h8 : x.toInt ≠ k8) (h9 : x.toInt ≠ k9) (h10 : x.toInt ≠ k10) (h11 : x.toInt ≠ k11) (eh : hi = lo + 11) (e0 : k0 = lo + 0) (e1 : k1 = lo + 1) (e2 : k2 = lo + 2) (e3 : k3 = lo + 3) (e4 : k4 = lo + 4) (e5 : k5 = lo + 5) (e6 : k6 = lo + 6) (e7 : k7 = lo + 7) (e8 : k8 = lo + 8) (e9 : k9 = lo + 9) (e10 : k10 = lo + 10) (e11 : k11 = lo + 11) : x.toInt < lo ∨ hi < x.toInt := by
  by_cases a : x.toInt < lo
  · exact Or.inl a
  have a0 : lo + 0 ≤ x.toInt := e_st0 a
  have a1 : lo + 1 ≤ x.toInt := e_st1 h0 e0 a0
  have a2 : lo + 2 ≤ x.toInt := e_st1 h1 e1 a1
  have a3 : lo + 3 ≤ x.toInt := e_st1 h2 e2 a2
  have a4 : lo + 4 ≤ x.toInt := e_st1 h3 e3 a3
  have a5 : lo + 5 ≤ x.toInt := e_st1 h4 e4 a4
  have a6 : lo + 6 ≤ x.toInt := e_st1 h5 e5 a5
  have a7 : lo + 7 ≤ x.toInt := e_st1 h6 e6 a6
  have a8 : lo + 8 ≤ x.toInt := e_st1 h7 e7 a7
  have a9 : lo + 9 ≤ x.toInt := e_st1 h8 e8 a8
  have a10 : lo + 10 ≤ x.toInt := e_st1 h9 e9 a9
  have a11 : lo + 11 ≤ x.toInt := e_st1 h10 e10 a10
  have a12 : lo + 12 ≤ x.toInt := e_st1 h11 e11 a11
  exact Or.inr (e_stN (j := 11) a12 eh)
theorem e_tsw_43 {x : Int32} {lo hi k0 k1 k2 k3 k4 k5 k6 k7 k8 k9 k10 k11 k12 k13 k14 k15 k16 k17 k18 k19 k20 k21 k22 k23 k24 k25 k26 k27 k28 k29 k30 k31 k32 k33 k34 k35 k36 k37 k38 k39 k40 k41 k42 : Int} (h0 : x.toInt ≠ k0) (h1 : x.toInt ≠ k1) (h2 : x.toInt ≠ k2) (h3 : x.toInt ≠ k3) (h4 : x.toInt ≠ k4) (h5 : x.toInt ≠ k5) (h6 : x.toInt ≠ k6) (h7 : x.toInt ≠ k7) (h8 : x.toInt ≠ k8) (h9 : x.toInt ≠ k9) (h10 : x.toInt ≠ k10) (h11 : x.toInt ≠ k11) (h12 : x.toInt ≠ k12) (h13 : x.toInt ≠ k13) (h14 : x.toInt ≠ k14) (h15 : x.toInt ≠ k15) (h16 : x.toInt ≠ k16) (h17 : x.toInt ≠ k17) (h18 : x.toInt ≠ k18) (h19 : x.toInt ≠ k19) (h20 : x.toInt ≠ k20) (h21 : x.toInt ≠ k21) (h22 : x.toInt ≠ k22) (h23 : x.toInt ≠ k23) (h24 : x.toInt ≠ k24) (h25 : x.toInt ≠ k25) (h26 : x.toInt ≠ k26) (h27 : x.toInt ≠ k27) (h28 : x.toInt ≠ k28) (h29 : x.toInt ≠ k29) (h30 : x.toInt ≠ k30) (h31 : x.toInt ≠ k31) (h32 : x.toInt ≠ k32) (h33 : x.toInt ≠ k33) (h34 : x.toInt ≠ k34) (h35 : x.toInt ≠ k35) (h36 : x.toInt ≠ k36) (h37 : x.toInt ≠ k37) (h38 : x.toInt ≠ k38) (h39 : x.toInt ≠ k39) (h40 : x.toInt ≠ k40) (h41 : x.toInt ≠ k41) (h42 : x.toInt ≠ k42) (eh : hi = lo + 42) (e0 : k0 = lo + 0) (e1 : k1 = lo + 1) (e2 : k2 = lo + 2) (e3 : k3 = lo + 3) (e4 : k4 = lo + 4) (e5 : k5 = lo + 5) (e6 : k6 = lo + 6) (e7 : k7 = lo + 7) (e8 : k8 = lo + 8) (e9 : k9 = lo + 9) (e10 : k10 = lo + 10) (e11 : k11 = lo + 11) (e12 : k12 = lo + 12) (e13 : k13 = lo + 13) (e14 : k14 = lo + 14) (e15 : k15 = lo + 15) (e16 : k16 = lo + 16) (e17 : k17 = lo + 17) (e18 : k18 = lo + 18) (e19 : k19 = lo + 19) (e20 : k20 = lo + 20) (e21 : k21 = lo + 21) (e22 : k22 = lo + 22) (e23 : k23 = lo + 23) (e24 : k24 = lo + 24) (e25 : k25 = lo + 25) (e26 : k26 = lo + 26) (e27 : k27 = lo + 27) (e28 : k28 = lo + 28) (e29 : k29 = lo + 29) (e30 : k30 = lo + 30) (e31 : k31 = lo + 31) (e32 : k32 = lo + 32) (e33 : k33 = lo + 33) (e34 : k34 = lo + 34) (e35 : k35 = lo + 35) (e36 : k36 = lo + 36) (e37 : k37 = lo + 37) (e38 : k38 = lo + 38) (e39 : k39 = lo + 39) (e40 : k40 = lo + 40) (e41 : k41 = lo + 41) (e42 : k42 = lo + 42) : x.toInt < lo ∨ hi < x.toInt := by
  by_cases a : x.toInt < lo
  · exact Or.inl a
  have a0 : lo + 0 ≤ x.toInt := e_st0 a
  have a1 : lo + 1 ≤ x.toInt := e_st1 h0 e0 a0
  have a2 : lo + 2 ≤ x.toInt := e_st1 h1 e1 a1
  have a3 : lo + 3 ≤ x.toInt := e_st1 h2 e2 a2
  have a4 : lo + 4 ≤ x.toInt := e_st1 h3 e3 a3
  have a5 : lo + 5 ≤ x.toInt := e_st1 h4 e4 a4
  have a6 : lo + 6 ≤ x.toInt := e_st1 h5 e5 a5
  have a7 : lo + 7 ≤ x.toInt := e_st1 h6 e6 a6
  have a8 : lo + 8 ≤ x.toInt := e_st1 h7 e7 a7
  have a9 : lo + 9 ≤ x.toInt := e_st1 h8 e8 a8
  have a10 : lo + 10 ≤ x.toInt := e_st1 h9 e9 a9
  have a11 : lo + 11 ≤ x.toInt := e_st1 h10 e10 a10
  have a12 : lo + 12 ≤ x.toInt := e_st1 h11 e11 a11
  have a13 : lo + 13 ≤ x.toInt := e_st1 h12 e12 a12
  have a14 : lo + 14 ≤ x.toInt := e_st1 h13 e13 a13
  have a15 : lo + 15 ≤ x.toInt := e_st1 h14 e14 a14
  have a16 : lo + 16 ≤ x.toInt := e_st1 h15 e15 a15
  have a17 : lo + 17 ≤ x.toInt := e_st1 h16 e16 a16
  have a18 : lo + 18 ≤ x.toInt := e_st1 h17 e17 a17
  have a19 : lo + 19 ≤ x.toInt := e_st1 h18 e18 a18
  have a20 : lo + 20 ≤ x.toInt := e_st1 h19 e19 a19
  have a21 : lo + 21 ≤ x.toInt := e_st1 h20 e20 a20
  have a22 : lo + 22 ≤ x.toInt := e_st1 h21 e21 a21
  have a23 : lo + 23 ≤ x.toInt := e_st1 h22 e22 a22
  have a24 : lo + 24 ≤ x.toInt := e_st1 h23 e23 a23
  have a25 : lo + 25 ≤ x.toInt := e_st1 h24 e24 a24
  have a26 : lo + 26 ≤ x.toInt := e_st1 h25 e25 a25
  have a27 : lo + 27 ≤ x.toInt := e_st1 h26 e26 a26
  have a28 : lo + 28 ≤ x.toInt := e_st1 h27 e27 a27
  have a29 : lo + 29 ≤ x.toInt := e_st1 h28 e28 a28
  have a30 : lo + 30 ≤ x.toInt := e_st1 h29 e29 a29
  have a31 : lo + 31 ≤ x.toInt := e_st1 h30 e30 a30
  have a32 : lo + 32 ≤ x.toInt := e_st1 h31 e31 a31
  have a33 : lo + 33 ≤ x.toInt := e_st1 h32 e32 a32
  have a34 : lo + 34 ≤ x.toInt := e_st1 h33 e33 a33
  have a35 : lo + 35 ≤ x.toInt := e_st1 h34 e34 a34
  have a36 : lo + 36 ≤ x.toInt := e_st1 h35 e35 a35
  have a37 : lo + 37 ≤ x.toInt := e_st1 h36 e36 a36
  have a38 : lo + 38 ≤ x.toInt := e_st1 h37 e37 a37
  have a39 : lo + 39 ≤ x.toInt := e_st1 h38 e38 a38
  have a40 : lo + 40 ≤ x.toInt := e_st1 h39 e39 a39
  have a41 : lo + 41 ≤ x.toInt := e_st1 h40 e40 a40
  have a42 : lo + 42 ≤ x.toInt := e_st1 h41 e41 a41
  have a43 : lo + 43 ≤ x.toInt := e_st1 h42 e42 a42
  exact Or.inr (e_stN (j := 42) a43 eh)
