/-! ===== the invariant ===== -/
abbrev kX : List Nat := [0, 1, 2, 3, 4, 5, 6, 7, 8, 9, 10, 11, 12, 13, 14, 15, 16, 17, 18, 19, 20, 21, 22, 23, 24, 25, 26, 27, 28, 29, 30, 31, 32, 33, 34, 35, 36, 37, 38, 39, 40, 41, 42, 43, 44, 45, 46, 47, 48, 49, 50, 51, 52, 53, 54, 55, 56, 57, 58, 59, 60, 61, 62, 63, 64, 65, 66, 67, 68, 69, 70, 71, 72, 73, 74, 75, 76, 77, 78]
abbrev wX (G : GT) (b : Nat) (xi : Nat → Int32) (xj : Nat → Int64) (xa : Nat → Nat → Int32) (xb : Nat → Nat → Int64) (xq : Nat → Nat → Option Nat) : List va_E := [.inr (11, [.ref (b + 1), .ref (b + 10), .ref (b + 29), .ref (b + 30), .ref (b + 32), .ref (b + 37), .ref (b + 40), .ref (b + 42), .ref (b + 69), .ref (b + 73), .ref (b + 74), .ref (b + 76), .ref (b + 78), .int (xi 0), .int (xi 1), .int (xi 2)]), .inr (10, [.ref (b + 2), .ref (b + 3), .ref (b + 4), .ref (b + 5), .ref (b + 6), .int (xi 3), .int (xi 4), .int (xi 5), .int (xi 6), .int (xi 7)]), aI G 48 (xa 0), aI G 8 (xa 1), aI G 6 (xa 2), aQ G 4 6 (xq 0), .inr (2, [.ref (b + 7), .ref (b + 8), .ref (b + 9), .int (xi 8)]), aI G 20 (xa 3), aI G 20 (xa 4), aI G 20 (xa 5), aQ G 3 2 (e_imQ b), .inr (10, [.ref (b + 12), .ref (b + 13), .ref (b + 14), .ref (b + 15), .ref (b + 16), .int (xi 9), .int (xi 10), .int (xi 11), .int (xi 12), .int (xi 13)]), aI G 48 (xa 6), aI G 8 (xa 7), aI G 6 (xa 8), aQ G 4 6 (xq 1), .inr (2, [.ref (b + 17), .ref (b + 18), .ref (b + 19), .int (xi 14)]), aI G 20 (xa 9), aI G 20 (xa 10), aI G 20 (xa 11), .inr (10, [.ref (b + 21), .ref (b + 22), .ref (b + 23), .ref (b + 24), .ref (b + 25), .int (xi 15), .int (xi 16), .int (xi 17), .int (xi 18), .int (xi 19)]), aI G 48 (xa 12), aI G 8 (xa 13), aI G 6 (xa 14), aQ G 4 6 (xq 2), .inr (2, [.ref (b + 26), .ref (b + 27), .ref (b + 28), .int (xi 20)]), aI G 20 (xa 15), aI G 20 (xa 16), aI G 20 (xa 17), aZ G 2 (xa 18), .inr (9, [.ref (b + 31), .int (xi 21)]), aI G 400 (xa 19), .inr (6, [.ref (b + 30), .ref (b + 33), .ref (b + 34), .ref (b + 35), .ref (b + 36), .int (xi 22), .int (xi 23), .int (xi 24), .int (xi 25), .int (xi 26), .int (xi 27), .int (xi 28), .int (xi 29)]), aI G 12 (xa 20), aI G 12 (xa 21), aI G 12 (xa 22), aI G 400 (xa 23), .inr (0, [.ref (b + 38), .ref (b + 39), .int (xi 30), .long (xj 0)]), aI G 10 (xa 24), aJ G 51 (xb 0), .inr (8, [.ref (b + 41), .int (xi 31)]), aJ G 9 (xb 1), .inr (1, [.ref (b + 43), .ref (b + 44), .ref (b + 45), .ref (b + 46), .ref (b + 47), .ref (b + 48), .ref (b + 49), .ref (b + 50), .ref (b + 67), .int (xi 32), .int (xi 33), .int (xi 34), .int (xi 35), .int (xi 36), .int (xi 37), .int (xi 38), .int (xi 39), .long (xj 1)]), aI G 32 (xa 25), aI G 8 (xa 26), aI G 16 (xa 27), aI G 512 (xa 28), aI G 2 (xa 29), aJ G 512 (xb 2), aI G 8 (xa 30), aQ G 5 8 (e_tlQ b), .inr (8, [.ref (b + 52), .int (xi 40)]), aJ G 9 (xb 3), .inr (8, [.ref (b + 54), .int (xi 41)]), aJ G 9 (xb 4), .inr (8, [.ref (b + 56), .int (xi 42)]), aJ G 9 (xb 5), .inr (8, [.ref (b + 58), .int (xi 43)]), aJ G 9 (xb 6), .inr (8, [.ref (b + 60), .int (xi 44)]), aJ G 9 (xb 7), .inr (8, [.ref (b + 62), .int (xi 45)]), aJ G 9 (xb 8), .inr (8, [.ref (b + 64), .int (xi 46)]), aJ G 9 (xb 9), .inr (8, [.ref (b + 66), .int (xi 47)]), aJ G 9 (xb 10), .inr (8, [.ref (b + 68), .int (xi 48)]), aJ G 9 (xb 11), .inr (7, [.ref (b + 70), .ref (b + 71), .ref (b + 72), .int (xi 49), .int (xi 50), .int (xi 51)]), aI G 8 (xa 31), aI G 8 (xa 32), aI G 2 (xa 33), .inr (3, [.long (xj 2), .long (xj 3)]), .inr (4, [.ref (b + 75)]), aJ G 48 (xb 12), .inr (4, [.ref (b + 77)]), aJ G 48 (xb 13), aI G 7 (xa 34)]
abbrev wMM (G : GT) (b : Nat) (mi : Nat → Int32) (mj : Nat → Int64) (ma : Nat → Nat → Int32) (mb : Nat → Nat → Int64) : List va_E := wM G b 79 (mi 0) (mi 1) (ma 0) (ma 1) (ma 2) (ma 3) (ma 4) (mi 2) (mi 3) (mi 4) (mi 5) (mj 0) (mi 6) (mi 7) (mi 8) (ma 5) (mi 9) (ma 6) (ma 7) (mi 10) (ma 8) (ma 9) (mi 11) (mi 12) (mb 0) (mb 1) (mi 13) (mb 2) (mb 3) (mi 14) (mj 1) (mj 2) (ma 10) (mb 4) (ma 11) (mb 5) (ma 12) (mj 3) (mb 6) (mb 7) (mj 4) (mi 15) (mi 16) (mi 17) (ma 13) (ma 14) (ma 15) (ma 16) (mi 18) (mj 5)
abbrev kL (q : Nat) : List Nat := [q, (q + 1), (q + 2), (q + 3), (q + 4)]
abbrev wL (G : GT) (b q nh nt ne ns : Nat) (aL1 aL2 aL3 aL4 : Nat → Int32) : List va_E := [.inr (5, [.ref (b + (q + 1)), .ref (b + (q + 2)), .ref (b + (q + 3)), .ref (b + (q + 4))]), aI G nh aL1, aI G nt aL2, aI G ne aL3, aI G ns aL4]
set_option maxRecDepth 100000 in
theorem kX_nd : kX.Nodup := by decide
theorem kX_lt : ∀ k, k ∈ kX → k < 79 := by decide
set_option maxRecDepth 100000 in
theorem kM_nd : (kM 79).Nodup := by decide
theorem kM_in : ∀ k, k ∈ kM 79 → 79 ≤ k ∧ k < 105 := by decide
theorem kL_in {q k : Nat} (h : k ∈ kL q) : q ≤ k ∧ k < q + 5 := by
  simp only [List.mem_cons, List.not_mem_nil, or_false] at h
  omega
theorem kL_nd (q : Nat) : (kL q).Nodup := by
  simp only [List.nodup_cons, List.mem_cons, List.not_mem_nil, or_false, List.nodup_nil, and_true, not_or, not_false_eq_true]
  omega
theorem kXL_nd {q : Nat} (hq : 105 ≤ q) : (kX ++ kL q).Nodup := by
  rw [List.nodup_append]
  refine ⟨kX_nd, kL_nd q, fun a ha b hb h => ?_⟩
  have h1 := kX_lt a ha
  have h2 := kL_in hb
  omega
theorem e_wf_X {n : Nat} (h : 79 ≤ n) : e_wf kX n := ⟨kX_nd, fun k hk => by have := kX_lt k hk; omega⟩
theorem e_wf_M {n : Nat} (h : 105 ≤ n) : e_wf (kM 79) n := ⟨kM_nd, fun k hk => by have := kM_in k hk; omega⟩
theorem e_wf_XL {n q : Nat} (h1 : 105 ≤ q) (h : q + 5 ≤ n) : e_wf (kX ++ kL q) n := ⟨kXL_nd h1, fun k hk => by
  rcases List.mem_append.mp hk with hk | hk
  · have := kX_lt k hk; omega
  · have := kL_in hk; omega⟩
theorem M_no_X : ∀ k, k ∈ kM 79 → k ∉ kX := fun k h1 h2 => by
  have := kM_in k h1; have := kX_lt k h2; omega
theorem X_no_M : ∀ k, k ∈ kX → k ∉ kM 79 := fun k h1 h2 => by
  have := kM_in k h2; have := kX_lt k h1; omega
theorem L_no_X {q : Nat} (hq : 105 ≤ q) : ∀ k, k ∈ kL q → k ∉ kX := fun k h1 h2 => by
  have := kL_in h1; have := kX_lt k h2; omega
theorem L_no_M {q : Nat} (hq : 105 ≤ q) : ∀ k, k ∈ kL q → k ∉ kM 79 := fun k h1 h2 => by
  have := kL_in h1; have := kM_in k h2; omega
/-- the laws that have been made -/
def LAWS (G : GT) (b : Nat) (c : Hp) (nl : Nat) (LL : Nat → LwS) : Prop := ∀ j, j < nl → ∃ (nh nt ne ns : Nat) (aL1 aL2 aL3 aL4 : Nat → Int32), HAS (kL (105 + 5 * j)) (wL G b (105 + 5 * j) nh nt ne ns aL1 aL2 aL3 aL4) c ∧ LX (LL j) nh nt ne ns aL1 aL2 aL3 aL4
theorem LAWS.outX {G : GT} {b : Nat} {c : Hp} {nl : Nat} {LL : Nat → LwS} {es : List va_E} (h : LAWS G b c nl LL) : LAWS G b (e_ov kX es c) nl LL := fun j hj => by
  obtain ⟨nh, nt, ne, ns, a1, a2, a3, a4, g1, g2⟩ := h j hj
  exact ⟨nh, nt, ne, ns, a1, a2, a3, a4, g1.out (L_no_X (by omega)), g2⟩
theorem LAWS.outM {G : GT} {b : Nat} {c : Hp} {nl : Nat} {LL : Nat → LwS} {es : List va_E} (h : LAWS G b c nl LL) : LAWS G b (e_ov (kM 79) es c) nl LL := fun j hj => by
  obtain ⟨nh, nt, ne, ns, a1, a2, a3, a4, g1, g2⟩ := h j hj
  exact ⟨nh, nt, ne, ns, a1, a2, a3, a4, g1.out (L_no_M (by omega)), g2⟩
/-- the books of a yard -/
def BKS (b nl : Nat) (LL : Nat → LwS) (y : Nat → Int) (a5 : Nat → Option Nat) : Prop := ∀ i : Nat, (i : Int) < y 2 → ∃ j, j < nl ∧ a5 i = some (b + (105 + 5 * j)) ∧ LM (LL j) y (170 + 900 * i)
def LOK (b nl : Nat) (LL : Nat → LwS) (y : Nat → Int) (LO : Option LwS) (a5 : Nat → Option Nat) : Prop := LO = none ∧ y 3 = -1 ∨ ∃ j, j < nl ∧ LO = some (LL j) ∧ 0 ≤ y 3 ∧ a5 (y 3).toNat = some (b + (105 + 5 * j)) ∧ LM (LL j) y (170 + 900 * (y 3).toNat)
theorem LOK.mo {b nl : Nat} {LL : Nat → LwS} {y : Nat → Int} {LO : Option LwS} {a5 : Nat → Option Nat} (h : LOK b nl LL y LO a5) : MO y LO := by
  rcases h with h | ⟨j, -, h1, h2, -, h3⟩
  · exact Or.inl h
  · exact Or.inr ⟨LL j, h1, h2, h3⟩
theorem LOK.of {b nl : Nat} {LL : Nat → LwS} {y : Nat → Int} {a5 : Nat → Option Nat} (hW : WF y) (h : BKS b nl LL y a5) : ∃ LO, LOK b nl LL y LO a5 := by
  have h2 := hW.2.2.1
  have h3 := hW.2.2.2.1
  by_cases c : y 3 = -1
  · exact ⟨none, Or.inl ⟨rfl, c⟩⟩
  · obtain ⟨j, g1, g2, g3⟩ := h (y 3).toNat (by omega)
    exact ⟨some (LL j), Or.inr ⟨j, g1, rfl, by omega, g2, g3⟩⟩
theorem BKS.eqL {b nl : Nat} {LL : Nat → LwS} {y y' : Nat → Int} {a5 : Nat → Option Nat} (h : BKS b nl LL y a5) (he : EqL y y') : BKS b nl LL y' a5 := fun i hi => by
  rw [he.1] at hi
  obtain ⟨j, g1, g2, g3⟩ := h i hi
  exact ⟨j, g1, g2, g3.same fun k hk _ => he.2 k (by omega)⟩
theorem BKS.ext {b nl : Nat} {LL : Nat → LwS} : ∀ y a a', (WF y → BKS b nl LL y a) → (∀ k, k < 6 → a' k = a k) → (WF y → BKS b nl LL y a') := fun y a a' h he hW i hi => by
  have := hW.2.2.1
  obtain ⟨j, g1, g2, g3⟩ := h hW i hi
  exact ⟨j, g1, by rw [he i (by omega)]; exact g2, g3⟩
theorem BKS.more {b nl : Nat} {LL LL' : Nat → LwS} {y : Nat → Int} {a5 : Nat → Option Nat} (h : BKS b nl LL y a5) (hl : ∀ j, j < nl → LL' j = LL j) : BKS b (nl + 1) LL' y a5 := fun i hi => by
  obtain ⟨j, g1, g2, g3⟩ := h i hi
  exact ⟨j, by omega, g2, by rw [hl j g1]; exact g3⟩
theorem nxtLO {b nl : Nat} {LL : Nat → LwS} {y y' : Nat → Int} {a5 a5' : Nat → Option Nat} {LO : Option LwS} {vb vs vsd vq kn kn' sv : Int32} {a43 a44 a46 a47 a49 : Nat → Int32} {a48 : Nat → Int64} (hW : WF y') (hB : BKS b nl LL y' a5') (h : kn' = 0 ∨ kn' = kn ∧ y' = y ∧ a5' = a5) (hL : LOK b nl LL y LO a5) (hC : CI y LO vb vs vsd vq kn sv a43 a44 a46 a47 a48 a49) : ∃ LO', LOK b nl LL y' LO' a5' ∧ CI y' LO' vb vs vsd vq kn' sv a43 a44 a46 a47 a48 a49 := by
  rcases h with h | ⟨h1, h2, h3⟩
  · obtain ⟨LO', g⟩ := LOK.of hW hB
    exact ⟨LO', g, Or.inl h⟩
  · subst h1 h2 h3
    exact ⟨LO, hL, hC⟩
/-- books hold laws that have been made -/
def QA (b nl : Nat) (f : Nat → Option Nat) : Prop := ∀ i a, f i = some a → ∃ j, j < nl ∧ a = b + (105 + 5 * j)
theorem QA.more {b nl : Nat} {f : Nat → Option Nat} (h : QA b nl f) : QA b (nl + 1) f := fun i a hi => by
  obtain ⟨j, h1, h2⟩ := h i a hi
  exact ⟨j, by omega, h2⟩
theorem QA.qs {G : GT} {b nl n : Nat} {f : Nat → Option Nat} {c : Hp} {LL : Nat → LwS} {kz : List Nat} (h : QA b nl f) (hL : LAWS G b c nl LL) (hn : n = 105 + 5 * nl) (hk : ∀ k, k ∈ kz → k < 105) : e_Qs b n kz c f := fun i a hi => by
  obtain ⟨j, h1, h2⟩ := h i a hi
  obtain ⟨nh, nt, ne, ns, a1, a2, a3, a4, g1, -⟩ := hL j h1
  exact ⟨105 + 5 * j, _, h2, by omega, fun hq => by have := hk _ hq; omega, g1 0 (105 + 5 * j) _ rfl rfl⟩
theorem becL_Q {Q : Nat → Prop} {Fu : Nat} : ∀ (f : Nat) {v1 v2 v3 v4 v5 : Int32} {a1 a2 a3 : Nat → Int32} {a4 : Nat → Option Nat} {v6 : Int32} {a6 a7 a8 : Nat → Int32} {u1 u2 u3 u4 u5 : Int32} {c1 c2 c3 : Nat → Int32} {c4 : Nat → Option Nat} {u6 : Int32} {c6 c7 c8 : Nat → Int32} {x : Int32} {r}, fX10_become_L56 Fu f v1 v2 v3 v4 v5 a1 a2 a3 a4 v6 a6 a7 a8 u1 u2 u3 u4 u5 c1 c2 c3 c4 u6 c6 c7 c8 x = some r → (∀ i a, a4 i = some a → Q a) → (∀ i a, c4 i = some a → Q a) → ∀ i a, r.2.2.2.2.2.2.2.2.1 i = some a → Q a := by
  intro f
  induction f with
  | zero =>
    intro v1 v2 v3 v4 v5 a1 a2 a3 a4 v6 a6 a7 a8 u1 u2 u3 u4 u5 c1 c2 c3 c4 u6 c6 c7 c8 x r h
    rw [fX10_become_L56] at h
    cases h
  | succ f ih =>
    intro v1 v2 v3 v4 v5 a1 a2 a3 a4 v6 a6 a7 a8 u1 u2 u3 u4 u5 c1 c2 c3 c4 u6 c6 c7 c8 x r h hT hU
    rw [fX10_become_L56] at h
    split at h
    · obtain ⟨r1, -, h⟩ := Option.bind_eq_some_iff.mp h
      rw [← Option.some.inj h]
      exact hT
    · refine ih (gd_some (gd_some h).2).2 ?_ hU
      intro i a hi
      by_cases e : i = x.toNatClampNeg
      · rw [e, va_up_at] at hi
        exact hU _ _ hi
      · rw [va_up_ne _ _ e] at hi
        exact hT i a hi
theorem bec_Q {Q : Nat → Prop} {Fu : Nat} {vT0_beasts : Int32} {vT0_meals : Int32} {vT0_seats : Int32} {vT0_laws : Int32} {vT0_inForce : Int32} {aT1 : Nat → Int32} {aT2 : Nat → Int32} {aT3 : Nat → Int32} {aT4 : Nat → Option Nat} {vT5_cases : Int32} {aT6 : Nat → Int32} {aT7 : Nat → Int32} {aT8 : Nat → Int32} {vU0_beasts : Int32} {vU0_meals : Int32} {vU0_seats : Int32} {vU0_laws : Int32} {vU0_inForce : Int32} {aU1 : Nat → Int32} {aU2 : Nat → Int32} {aU3 : Nat → Int32} {aU4 : Nat → Option Nat} {vU5_cases : Int32} {aU6 : Nat → Int32} {aU7 : Nat → Int32} {aU8 : Nat → Int32} {R} (h : fX10_become Fu vT0_beasts vT0_meals vT0_seats vT0_laws vT0_inForce aT1 aT2 aT3 aT4 vT5_cases aT6 aT7 aT8 vU0_beasts vU0_meals vU0_seats vU0_laws vU0_inForce aU1 aU2 aU3 aU4 vU5_cases aU6 aU7 aU8 = some R) (hT : ∀ i a, aT4 i = some a → Q a) (hU : ∀ i a, aU4 i = some a → Q a) : ∀ i a, R.2.2.2.2.2.2.2.2.1 i = some a → Q a := by
  unfold fX10_become at h
  exact becL_Q _ h hT hU
theorem image_Q {Q : Nat → Prop} {Fu : Nat} {v0_lastRefusal : Int32} {v1_beasts : Int32} {v1_meals : Int32} {v1_seats : Int32} {v1_laws : Int32} {v1_inForce : Int32} {a2 : Nat → Int32} {a3 : Nat → Int32} {a4 : Nat → Int32} {a5 : Nat → Option Nat} {v6_cases : Int32} {a7 : Nat → Int32} {a8 : Nat → Int32} {a9 : Nat → Int32} {v11_beasts : Int32} {v11_meals : Int32} {v11_seats : Int32} {v11_laws : Int32} {v11_inForce : Int32} {a12 : Nat → Int32} {a13 : Nat → Int32} {a14 : Nat → Int32} {a15 : Nat → Option Nat} {v16_cases : Int32} {a17 : Nat → Int32} {a18 : Nat → Int32} {a19 : Nat → Int32} {v20_beasts : Int32} {v20_meals : Int32} {v20_seats : Int32} {v20_laws : Int32} {v20_inForce : Int32} {a21 : Nat → Int32} {a22 : Nat → Int32} {a23 : Nat → Int32} {a24 : Nat → Option Nat} {v25_cases : Int32} {a26 : Nat → Int32} {a27 : Nat → Int32} {a28 : Nat → Int32} {a29 : Nat → Int32} {v42_known : Int32} {a78 : Nat → Int32} {x1 : Int32} {R} (h : fX11_image Fu v0_lastRefusal v1_beasts v1_meals v1_seats v1_laws v1_inForce a2 a3 a4 a5 v6_cases a7 a8 a9 v11_beasts v11_meals v11_seats v11_laws v11_inForce a12 a13 a14 a15 v16_cases a17 a18 a19 v20_beasts v20_meals v20_seats v20_laws v20_inForce a21 a22 a23 a24 v25_cases a26 a27 a28 a29 v42_known a78 x1 = some R) (h0 : ∀ i a, a5 i = some a → Q a) (h1 : ∀ i a, a15 i = some a → Q a) (h2 : ∀ i a, a24 i = some a → Q a) : (∀ i a, R.2.2.2.2.2.2.2.2.2.2.1 i = some a → Q a) ∧ (∀ i a, R.2.2.2.2.2.2.2.2.2.2.2.2.2.2.2.2.2.2.2.2.2.2.2.1 i = some a → Q a) := by
  unfold fX11_image at h
  obtain ⟨r1, -, h⟩ := Option.bind_eq_some_iff.mp h
  split at h
  · obtain ⟨r9, -, h⟩ := Option.bind_eq_some_iff.mp h
    rw [← Option.some.inj h]
    exact ⟨h1, h2⟩
  split at h
  · obtain ⟨r3, hb, h⟩ := Option.bind_eq_some_iff.mp h
    obtain ⟨r5, -, h⟩ := Option.bind_eq_some_iff.mp (gd_some h).2
    rw [← Option.some.inj h]
    exact ⟨bec_Q hb h1 h0, h2⟩
  split at h
  · obtain ⟨r3, hb, h⟩ := Option.bind_eq_some_iff.mp h
    obtain ⟨r5, -, h⟩ := Option.bind_eq_some_iff.mp (gd_some h).2
    rw [← Option.some.inj h]
    exact ⟨h1, bec_Q hb h2 h0⟩
  cases h
theorem back_Q {Q : Nat → Prop} {Fu : Nat} {v0_lastRefusal : Int32} {v1_beasts : Int32} {v1_meals : Int32} {v1_seats : Int32} {v1_laws : Int32} {v1_inForce : Int32} {a2 : Nat → Int32} {a3 : Nat → Int32} {a4 : Nat → Int32} {a5 : Nat → Option Nat} {v6_cases : Int32} {a7 : Nat → Int32} {a8 : Nat → Int32} {a9 : Nat → Int32} {v11_beasts : Int32} {v11_meals : Int32} {v11_seats : Int32} {v11_laws : Int32} {v11_inForce : Int32} {a12 : Nat → Int32} {a13 : Nat → Int32} {a14 : Nat → Int32} {a15 : Nat → Option Nat} {v16_cases : Int32} {a17 : Nat → Int32} {a18 : Nat → Int32} {a19 : Nat → Int32} {v20_beasts : Int32} {v20_meals : Int32} {v20_seats : Int32} {v20_laws : Int32} {v20_inForce : Int32} {a21 : Nat → Int32} {a22 : Nat → Int32} {a23 : Nat → Int32} {a24 : Nat → Option Nat} {v25_cases : Int32} {a26 : Nat → Int32} {a27 : Nat → Int32} {a28 : Nat → Int32} {a29 : Nat → Int32} {v42_known : Int32} {a78 : Nat → Int32} {x1 : Int32} {R} (h : fX11_back Fu v0_lastRefusal v1_beasts v1_meals v1_seats v1_laws v1_inForce a2 a3 a4 a5 v6_cases a7 a8 a9 v11_beasts v11_meals v11_seats v11_laws v11_inForce a12 a13 a14 a15 v16_cases a17 a18 a19 v20_beasts v20_meals v20_seats v20_laws v20_inForce a21 a22 a23 a24 v25_cases a26 a27 a28 a29 v42_known a78 x1 = some R) (h0 : ∀ i a, a5 i = some a → Q a) (h1 : ∀ i a, a15 i = some a → Q a) (h2 : ∀ i a, a24 i = some a → Q a) : ∀ i a, R.2.2.2.2.2.2.2.2.2.2.1 i = some a → Q a := by
  unfold fX11_back at h
  obtain ⟨r1, -, h⟩ := Option.bind_eq_some_iff.mp h
  split at h
  · obtain ⟨r9, -, h⟩ := Option.bind_eq_some_iff.mp h
    rw [← Option.some.inj h]
    exact h0
  replace h := (gd_some h).2
  split at h
  · obtain ⟨r9, -, h⟩ := Option.bind_eq_some_iff.mp h
    rw [← Option.some.inj h]
    exact h0
  split at h
  · obtain ⟨r3, hb, h⟩ := Option.bind_eq_some_iff.mp h
    obtain ⟨r5, -, h⟩ := Option.bind_eq_some_iff.mp h
    rw [← Option.some.inj h]
    exact bec_Q hb h0 h1
  split at h
  · obtain ⟨r3, hb, h⟩ := Option.bind_eq_some_iff.mp h
    obtain ⟨r5, -, h⟩ := Option.bind_eq_some_iff.mp h
    rw [← Option.some.inj h]
    exact bec_Q hb h0 h2
  cases h
def INV (G : GT) (b : Nat) (c : Hp) (n : Nat) : Prop := ∃ (xi : Nat → Int32) (xj : Nat → Int64) (xa : Nat → Nat → Int32) (xb : Nat → Nat → Int64) (xq : Nat → Nat → Option Nat) (mi : Nat → Int32) (mj : Nat → Int64) (ma : Nat → Nat → Int32) (mb : Nat → Nat → Int64) (nl : Nat) (LL : Nat → LwS) (y : Nat → Int) (LO : Option LwS), HAS kX (wX G b xi xj xa xb xq) c ∧ HAS (kM 79) (wMM G b mi mj ma mb) c ∧ n = 105 + 5 * nl ∧ LAWS G b c nl LL ∧ RM y (ma 1) ∧ WF y ∧ RX y (xi 3) (xi 4) (xi 5) (xi 6) (xi 7) (xa 0) (xa 1) (xa 2) (xi 8) (xa 3) (xa 4) (xa 5) ∧ BKS b nl LL y (xq 0) ∧ LOK b nl LL y LO (xq 0) ∧ IMG (fun y a => WF y → BKS b nl LL y a) ((xa 18) 0) 0 (ma 2) (xi 9) (xi 10) (xi 11) (xi 12) (xi 13) (xa 6) (xa 7) (xa 8) (xq 1) (xi 14) (xa 9) (xa 10) (xa 11) ∧ IMG (fun y a => WF y → BKS b nl LL y a) ((xa 18) 1) 1 (ma 2) (xi 15) (xi 16) (xi 17) (xi 18) (xi 19) (xa 12) (xa 13) (xa 14) (xq 2) (xi 20) (xa 15) (xa 16) (xa 17) ∧ (∀ i, i < 2 → (xa 18) i = (ma 3) i) ∧ RR (xi 2) (xa 34) (mi 1) (ma 0) ∧ Tp (xi 21) (xa 19) (ma 4) (mi 2) ∧ (xi 0) = (mi 6) ∧ (xi 1) = (mi 16) ∧ LYs (xi 49) (xi 50) (xa 31) (xa 32) (ma 15) (ma 16) (mi 18) ∧ CI y LO (xi 32) (xi 33) (xi 34) (xi 35) (xi 36) (xi 37) (xa 25) (xa 26) (xa 28) (xa 29) (xb 2) (xa 30) ∧ (mi 17) = -1 ∧ WDS (mb 0) ∧ HWS (mb 1) ∧ QA b nl (xq 0) ∧ QA b nl (xq 1) ∧ QA b nl (xq 2)
