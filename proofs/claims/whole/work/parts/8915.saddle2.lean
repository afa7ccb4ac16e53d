section SADDLE2
variable {y : Nat → Int} {row : Nat → Int32} {beasts meals seats laws inForce cases : Int32} {tr mh te rs ju vo : Nat → Int32} {Fu : Nat} {LO : Option LwS}
theorem c_saddle_N (hFu : 6000 ≤ Fu) {a5 : Nat → Option Nat} (hW : WF y) (hX : RX y beasts meals seats laws inForce tr mh te cases rs ju vo) (hH : HN y LO) {vb vs vsd vq kn sv : Int32} {a43 a44 a45 a46 a47 a49 : Nat → Int32} {a48 : Nat → Int64} (hC : CI y LO vb vs vsd vq kn sv a43 a44 a46 a47 a48 a49) (a38 : Nat → Int32) (t0 : Int32) (w0 : Nat → Int64) (t1 : Int32) (w1 : Nat → Int64) (t2 : Int32) (w2 : Nat → Int64) (t3 : Int32) (w3 : Nat → Int64) (t4 : Int32) (w4 : Nat → Int64) (t5 : Int32) (w5 : Nat → Int64) (t6 : Int32) (w6 : Nat → Int64) (t7 : Int32) (w7 : Nat → Int64) {w : Int} (v1 : -2147483648 ≤ w) (v2 : w ≤ 2147483647) :
    Rt (fX11_saddle_N Fu beasts seats laws inForce tr mh te a5 a38 vb vs vsd vq kn sv a43 a44 a45 a46 a47 a48 a49 t0 w0 t1 w1 t2 w2 t3 w3 t4 w4 t5 w5 t6 w6 t7 w7 (i32 w)) (fun r => r.1 = i32 (saddleS y LO w) ∧ CI y LO r.2.2.1 r.2.2.2.1 r.2.2.2.2.1 r.2.2.2.2.2.1 r.2.2.2.2.2.2.1 r.2.2.2.2.2.2.2.1 r.2.2.2.2.2.2.2.2.1 r.2.2.2.2.2.2.2.2.2.1 r.2.2.2.2.2.2.2.2.2.2.2.1 r.2.2.2.2.2.2.2.2.2.2.2.2.1 r.2.2.2.2.2.2.2.2.2.2.2.2.2.1 r.2.2.2.2.2.2.2.2.2.2.2.2.2.2.1) := by
  have eN : ¬ (0 ≤ w ∧ w ≤ 2) → saddleS y LO w = -1 := fun q => if_neg q
  have eY : (0 ≤ w ∧ w ≤ 2) → saddleS y LO w = (if w = 2 then cntP (pZ y LO) 256 * cntP (pO y LO) 256 else if cntP (pZ y LO) 256 * cntP (pO y LO) 256 = 0 then -1 else if w = 0 then fstP (pZ y LO) 256 else fstP (pO y LO) 256) := fun q => if_pos q
  unfold fX11_saddle_N
  by_cases cw : 0 ≤ w ∧ w ≤ 2
  · refine Rt.iff (by rw [i32_litN 0, i32_lt (by omega) (by omega) (by omega) (by omega)]; omega) (Rt.ift (by rw [i32_litN 2, i32_le (by omega) (by omega) (by omega) (by omega)]; omega) ?_)
    rw [eY cw]
    obtain ⟨s0, f0, k0, u0⟩ := sf_i32 (LO := LO) hW (sd := 0) (by omega)
    obtain ⟨s1, f1, k1, u1⟩ := sf_i32 (LO := LO) hW (sd := 1) (by omega)
    rw [V0_eq] at u0
    rw [V1_eq] at u1
    have hseat : (y 4).toNat + 1 < Fu := by obtain ⟨t, n, e4, e0, hn, hs1, hs, hb⟩ := hW.seats; omega
    refine Rt.bind (x_learnB_N (Q := fun sv => sv = 0 ∨ sv = 1 ∧ SV y LO a48) hFu hW hX hH a38 hC (Or.inl rfl)) (fun r hr => ?_)
    obtain ⟨g1, g2, g3⟩ := hr
    refine Rt.bind (x_safest hFu hW g3 g2 t0 w0 t1 w1 t2 w2 t3 w3 t4 w4 t5 w5 t6 w6 t7 w7 (sd := 0) (by omega)) (fun r2 h2 => ?_)
    have xl := x_left hFu hW g3 h2.2 r2.2.2.2.1 r2.2.2.2.2.1 r2.2.2.2.2.2.1 r2.2.2.2.2.2.2.1 r2.2.2.2.2.2.2.2.1 r2.2.2.2.2.2.2.2.2.1 r2.2.2.2.2.2.2.2.2.2.1 r2.2.2.2.2.2.2.2.2.2.2.1 r2.2.2.2.2.2.2.2.2.2.2.2.1 r2.2.2.2.2.2.2.2.2.2.2.2.2.1 r2.2.2.2.2.2.2.2.2.2.2.2.2.2.1 r2.2.2.2.2.2.2.2.2.2.2.2.2.2.2.1 r2.2.2.2.2.2.2.2.2.2.2.2.2.2.2.2.1 r2.2.2.2.2.2.2.2.2.2.2.2.2.2.2.2.2.1 r2.2.2.2.2.2.2.2.2.2.2.2.2.2.2.2.2.2.1 r2.2.2.2.2.2.2.2.2.2.2.2.2.2.2.2.2.2.2 (sd := 0) (by omega) k0
    rw [← f0, ← h2.1, u0] at xl
    refine Rt.bind xl (fun r3 h3 => ?_)
    refine Rt.bind (x_safest hFu hW g3 (Or.inr h3.2) r3.2.2.2.1 r3.2.2.2.2.1 r3.2.2.2.2.2.1 r3.2.2.2.2.2.2.1 r3.2.2.2.2.2.2.2.1 r3.2.2.2.2.2.2.2.2.1 r3.2.2.2.2.2.2.2.2.2.1 r3.2.2.2.2.2.2.2.2.2.2.1 r3.2.2.2.2.2.2.2.2.2.2.2.1 r3.2.2.2.2.2.2.2.2.2.2.2.2.1 r3.2.2.2.2.2.2.2.2.2.2.2.2.2.1 r3.2.2.2.2.2.2.2.2.2.2.2.2.2.2.1 r3.2.2.2.2.2.2.2.2.2.2.2.2.2.2.2.1 r3.2.2.2.2.2.2.2.2.2.2.2.2.2.2.2.2.1 r3.2.2.2.2.2.2.2.2.2.2.2.2.2.2.2.2.2.1 r3.2.2.2.2.2.2.2.2.2.2.2.2.2.2.2.2.2.2 (sd := 1) (by omega)) (fun r4 h4 => ?_)
    have xl2 := x_left hFu hW g3 h4.2 r4.2.2.2.1 r4.2.2.2.2.1 r4.2.2.2.2.2.1 r4.2.2.2.2.2.2.1 r4.2.2.2.2.2.2.2.1 r4.2.2.2.2.2.2.2.2.1 r4.2.2.2.2.2.2.2.2.2.1 r4.2.2.2.2.2.2.2.2.2.2.1 r4.2.2.2.2.2.2.2.2.2.2.2.1 r4.2.2.2.2.2.2.2.2.2.2.2.2.1 r4.2.2.2.2.2.2.2.2.2.2.2.2.2.1 r4.2.2.2.2.2.2.2.2.2.2.2.2.2.2.1 r4.2.2.2.2.2.2.2.2.2.2.2.2.2.2.2.1 r4.2.2.2.2.2.2.2.2.2.2.2.2.2.2.2.2.1 r4.2.2.2.2.2.2.2.2.2.2.2.2.2.2.2.2.2.1 r4.2.2.2.2.2.2.2.2.2.2.2.2.2.2.2.2.2.2 (sd := 1) (by omega) k1
    rw [← f1, ← h4.1, u1] at xl2
    refine Rt.bind xl2 (fun r5 h5 => ?_)
    have e3 : r3.1 = i64 (V0 y LO) := h3.1
    have e5 : r5.1 = i64 (V1 y LO) := h5.1
    rw [e3, e5]
    by_cases cv : i64 (V0 y LO) = i64 (V1 y LO)
    · refine Rt.ift cv ?_
      by_cases c2 : w = 2
      · subst c2
        rw [if_pos rfl]
        refine Rt.ift rfl ?_
        unfold fX1_leaving
        have xv := x_leavL hFu hW g3 (sd := 0) (by omega) (v := V0 y LO) (V0_rng (LO := LO) hW).1 (V0_rng (LO := LO) hW).2 ((y 4).toNat + 1) Fu 0 r5.2.1 r5.2.2.1 r5.2.2.2.1 r5.2.2.2.2.1 r5.2.2.2.2.2.1 r5.2.2.2.2.2.2.1 r5.2.2.2.2.2.2.2.1 r5.2.2.2.2.2.2.2.2.1 r5.2.2.2.2.2.2.2.2.2.1 r5.2.2.2.2.2.2.2.2.2.2.1 r5.2.2.2.2.2.2.2.2.2.2.2.1 r5.2.2.2.2.2.2.2.2.2.2.2.2.1 r5.2.2.2.2.2.2.2.2.2.2.2.2.2.1 r5.2.2.2.2.2.2.2.2.2.2.2.2.2.2.1 r5.2.2.2.2.2.2.2.2.2.2.2.2.2.2.2.1 r5.2.2.2.2.2.2.2.2.2.2.2.2.2.2.2.2.1 r5.2.2.2.2.2.2.2.2.2.2.2.2.2.2.2.2.2.1 r5.2.2.2.2.2.2.2.2.2.2.2.2.2.2.2.2.2.2 (by omega) hseat (Or.inr h5.2)
        rw [cnt_0] at xv
        refine Rt.bind xv (fun r7 h7 => ?_)
        have xv := x_leavL hFu hW g3 (sd := 1) (by omega) (v := V0 y LO) (V0_rng (LO := LO) hW).1 (V0_rng (LO := LO) hW).2 ((y 4).toNat + 1) Fu 0 r7.2.1 r7.2.2.1 r7.2.2.2.1 r7.2.2.2.2.1 r7.2.2.2.2.2.1 r7.2.2.2.2.2.2.1 r7.2.2.2.2.2.2.2.1 r7.2.2.2.2.2.2.2.2.1 r7.2.2.2.2.2.2.2.2.2.1 r7.2.2.2.2.2.2.2.2.2.2.1 r7.2.2.2.2.2.2.2.2.2.2.2.1 r7.2.2.2.2.2.2.2.2.2.2.2.2.1 r7.2.2.2.2.2.2.2.2.2.2.2.2.2.1 r7.2.2.2.2.2.2.2.2.2.2.2.2.2.2.1 r7.2.2.2.2.2.2.2.2.2.2.2.2.2.2.2.1 r7.2.2.2.2.2.2.2.2.2.2.2.2.2.2.2.2.1 r7.2.2.2.2.2.2.2.2.2.2.2.2.2.2.2.2.2.1 r7.2.2.2.2.2.2.2.2.2.2.2.2.2.2.2.2.2.2 (by omega) hseat h7.2
        rw [cnt_0] at xv
        refine Rt.bind xv (fun r8 h8 => Rt.ret ⟨?_, Or.inr ⟨g1, g3, h8.2⟩⟩)
        show r7.1 * r8.1 = _
        rw [h7.1, h8.1, pL_Z ((V_i64 hW).mp cv), pL_O ((V_i64 hW).mp cv), i32_mul]
      · rw [if_neg c2]
        refine Rt.iff (by rw [i32_litN 2, i32_eq (by omega) (by omega) (by omega) (by omega)]; exact c2) ?_
        rw [if_neg (sad_ne hW ((V_i64 hW).mp cv))]
        unfold fX1_firstLeaving
        by_cases c0 : w = 0
        · subst c0
          rw [if_pos rfl]
          refine Rt.bind (x_firstL hFu hW g3 (sd := 0) (by omega) (v := V0 y LO) (V0_rng (LO := LO) hW).1 (V0_rng (LO := LO) hW).2 ((y 4).toNat + 1) Fu 0 r5.2.1 r5.2.2.1 r5.2.2.2.1 r5.2.2.2.2.1 r5.2.2.2.2.2.1 r5.2.2.2.2.2.2.1 r5.2.2.2.2.2.2.2.1 r5.2.2.2.2.2.2.2.2.1 r5.2.2.2.2.2.2.2.2.2.1 r5.2.2.2.2.2.2.2.2.2.2.1 r5.2.2.2.2.2.2.2.2.2.2.2.1 r5.2.2.2.2.2.2.2.2.2.2.2.2.1 r5.2.2.2.2.2.2.2.2.2.2.2.2.2.1 r5.2.2.2.2.2.2.2.2.2.2.2.2.2.2.1 r5.2.2.2.2.2.2.2.2.2.2.2.2.2.2.2.1 r5.2.2.2.2.2.2.2.2.2.2.2.2.2.2.2.2.1 r5.2.2.2.2.2.2.2.2.2.2.2.2.2.2.2.2.2.1 r5.2.2.2.2.2.2.2.2.2.2.2.2.2.2.2.2.2.2 (by omega) hseat fst_0 (Or.inr h5.2)) (fun r7 h7 => Rt.ret ⟨?_, Or.inr ⟨g1, g3, h7.2⟩⟩)
          rw [← pL_Z ((V_i64 hW).mp cv)]; exact h7.1
        · obtain rfl : w = 1 := by omega
          rw [if_neg c0]
          refine Rt.bind (x_firstL hFu hW g3 (sd := 1) (by omega) (v := V0 y LO) (V0_rng (LO := LO) hW).1 (V0_rng (LO := LO) hW).2 ((y 4).toNat + 1) Fu 0 r5.2.1 r5.2.2.1 r5.2.2.2.1 r5.2.2.2.2.1 r5.2.2.2.2.2.1 r5.2.2.2.2.2.2.1 r5.2.2.2.2.2.2.2.1 r5.2.2.2.2.2.2.2.2.1 r5.2.2.2.2.2.2.2.2.2.1 r5.2.2.2.2.2.2.2.2.2.2.1 r5.2.2.2.2.2.2.2.2.2.2.2.1 r5.2.2.2.2.2.2.2.2.2.2.2.2.1 r5.2.2.2.2.2.2.2.2.2.2.2.2.2.1 r5.2.2.2.2.2.2.2.2.2.2.2.2.2.2.1 r5.2.2.2.2.2.2.2.2.2.2.2.2.2.2.2.1 r5.2.2.2.2.2.2.2.2.2.2.2.2.2.2.2.2.1 r5.2.2.2.2.2.2.2.2.2.2.2.2.2.2.2.2.2.1 r5.2.2.2.2.2.2.2.2.2.2.2.2.2.2.2.2.2.2 (by omega) hseat fst_0 (Or.inr h5.2)) (fun r7 h7 => Rt.ret ⟨?_, Or.inr ⟨g1, g3, h7.2⟩⟩)
          rw [← pL_O ((V_i64 hW).mp cv)]; exact h7.1
    · refine Rt.iff cv ?_
      rw [pZ_no (fun q => cv ((V_i64 hW).mpr q)), Int.zero_mul]
      by_cases c2 : w = 2
      · subst c2
        rw [if_pos rfl]
        exact Rt.ift rfl (Rt.ret ⟨rfl, Or.inr ⟨g1, g3, Or.inr h5.2⟩⟩)
      · rw [if_neg c2, if_pos rfl]
        exact Rt.iff (by rw [i32_litN 2, i32_eq (by omega) (by omega) (by omega) (by omega)]; exact c2) (Rt.ret ⟨rfl, Or.inr ⟨g1, g3, Or.inr h5.2⟩⟩)
  · rw [eN cw]
    refine Rt.ite (fun _ => Rt.ret ⟨rfl, hC⟩) (fun c => Rt.iff ?_ (Rt.ret ⟨rfl, hC⟩))
    rw [i32_litN 0, i32_lt (by omega) (by omega) (by omega) (by omega)] at c
    rw [i32_litN 2, i32_le (by omega) (by omega) (by omega) (by omega)]; omega
theorem c_saddle_L (hFu : 6000 ≤ Fu) {nh nt ne ns bb q : Nat} {a5 : Nat → Option Nat} {aL1 aL2 aL3 aL4 : Nat → Int32} (hW : WF y) (hX : RX y beasts meals seats laws inForce tr mh te cases rs ju vo) (hH : HL y LO nh nt ne ns bb q a5 aL1 aL2 aL3 aL4) {vb vs vsd vq kn sv : Int32} {a43 a44 a45 a46 a47 a49 : Nat → Int32} {a48 : Nat → Int64} (hC : CI y LO vb vs vsd vq kn sv a43 a44 a46 a47 a48 a49) (ht : Int32) (an : Int64) (a38 : Nat → Int32) (a39 : Nat → Int64) (t0 : Int32) (w0 : Nat → Int64) (t1 : Int32) (w1 : Nat → Int64) (t2 : Int32) (w2 : Nat → Int64) (t3 : Int32) (w3 : Nat → Int64) (t4 : Int32) (w4 : Nat → Int64) (t5 : Int32) (w5 : Nat → Int64) (t6 : Int32) (w6 : Nat → Int64) (t7 : Int32) (w7 : Nat → Int64) {w : Int} (v1 : -2147483648 ≤ w) (v2 : w ≤ 2147483647) :
    Rt (fX11_saddle_L Fu nh nt ne ns bb q beasts seats laws inForce tr mh te a5 ht an a38 a39 vb vs vsd vq kn sv a43 a44 a45 a46 a47 a48 a49 t0 w0 t1 w1 t2 w2 t3 w3 t4 w4 t5 w5 t6 w6 t7 w7 aL1 aL2 aL3 aL4 (i32 w)) (fun r => r.1 = i32 (saddleS y LO w) ∧ CI y LO r.2.2.2.2.2.1 r.2.2.2.2.2.2.1 r.2.2.2.2.2.2.2.1 r.2.2.2.2.2.2.2.2.1 r.2.2.2.2.2.2.2.2.2.1 r.2.2.2.2.2.2.2.2.2.2.1 r.2.2.2.2.2.2.2.2.2.2.2.1 r.2.2.2.2.2.2.2.2.2.2.2.2.1 r.2.2.2.2.2.2.2.2.2.2.2.2.2.2.1 r.2.2.2.2.2.2.2.2.2.2.2.2.2.2.2.1 r.2.2.2.2.2.2.2.2.2.2.2.2.2.2.2.2.1 r.2.2.2.2.2.2.2.2.2.2.2.2.2.2.2.2.2.1) := by
  have eN : ¬ (0 ≤ w ∧ w ≤ 2) → saddleS y LO w = -1 := fun q => if_neg q
  have eY : (0 ≤ w ∧ w ≤ 2) → saddleS y LO w = (if w = 2 then cntP (pZ y LO) 256 * cntP (pO y LO) 256 else if cntP (pZ y LO) 256 * cntP (pO y LO) 256 = 0 then -1 else if w = 0 then fstP (pZ y LO) 256 else fstP (pO y LO) 256) := fun q => if_pos q
  unfold fX11_saddle_L
  by_cases cw : 0 ≤ w ∧ w ≤ 2
  · refine Rt.iff (by rw [i32_litN 0, i32_lt (by omega) (by omega) (by omega) (by omega)]; omega) (Rt.ift (by rw [i32_litN 2, i32_le (by omega) (by omega) (by omega) (by omega)]; omega) ?_)
    rw [eY cw]
    obtain ⟨s0, f0, k0, u0⟩ := sf_i32 (LO := LO) hW (sd := 0) (by omega)
    obtain ⟨s1, f1, k1, u1⟩ := sf_i32 (LO := LO) hW (sd := 1) (by omega)
    rw [V0_eq] at u0
    rw [V1_eq] at u1
    have hseat : (y 4).toNat + 1 < Fu := by obtain ⟨t, n, e4, e0, hn, hs1, hs, hb⟩ := hW.seats; omega
    refine Rt.bind (x_learnB_L (Q := fun sv => sv = 0 ∨ sv = 1 ∧ SV y LO a48) hFu hW hX hH ht an a38 a39 hC (Or.inl rfl)) (fun r hr => ?_)
    obtain ⟨g1, g2, g3⟩ := hr
    refine Rt.bind (x_safest hFu hW g3 g2 t0 w0 t1 w1 t2 w2 t3 w3 t4 w4 t5 w5 t6 w6 t7 w7 (sd := 0) (by omega)) (fun r2 h2 => ?_)
    have xl := x_left hFu hW g3 h2.2 r2.2.2.2.1 r2.2.2.2.2.1 r2.2.2.2.2.2.1 r2.2.2.2.2.2.2.1 r2.2.2.2.2.2.2.2.1 r2.2.2.2.2.2.2.2.2.1 r2.2.2.2.2.2.2.2.2.2.1 r2.2.2.2.2.2.2.2.2.2.2.1 r2.2.2.2.2.2.2.2.2.2.2.2.1 r2.2.2.2.2.2.2.2.2.2.2.2.2.1 r2.2.2.2.2.2.2.2.2.2.2.2.2.2.1 r2.2.2.2.2.2.2.2.2.2.2.2.2.2.2.1 r2.2.2.2.2.2.2.2.2.2.2.2.2.2.2.2.1 r2.2.2.2.2.2.2.2.2.2.2.2.2.2.2.2.2.1 r2.2.2.2.2.2.2.2.2.2.2.2.2.2.2.2.2.2.1 r2.2.2.2.2.2.2.2.2.2.2.2.2.2.2.2.2.2.2 (sd := 0) (by omega) k0
    rw [← f0, ← h2.1, u0] at xl
    refine Rt.bind xl (fun r3 h3 => ?_)
    refine Rt.bind (x_safest hFu hW g3 (Or.inr h3.2) r3.2.2.2.1 r3.2.2.2.2.1 r3.2.2.2.2.2.1 r3.2.2.2.2.2.2.1 r3.2.2.2.2.2.2.2.1 r3.2.2.2.2.2.2.2.2.1 r3.2.2.2.2.2.2.2.2.2.1 r3.2.2.2.2.2.2.2.2.2.2.1 r3.2.2.2.2.2.2.2.2.2.2.2.1 r3.2.2.2.2.2.2.2.2.2.2.2.2.1 r3.2.2.2.2.2.2.2.2.2.2.2.2.2.1 r3.2.2.2.2.2.2.2.2.2.2.2.2.2.2.1 r3.2.2.2.2.2.2.2.2.2.2.2.2.2.2.2.1 r3.2.2.2.2.2.2.2.2.2.2.2.2.2.2.2.2.1 r3.2.2.2.2.2.2.2.2.2.2.2.2.2.2.2.2.2.1 r3.2.2.2.2.2.2.2.2.2.2.2.2.2.2.2.2.2.2 (sd := 1) (by omega)) (fun r4 h4 => ?_)
    have xl2 := x_left hFu hW g3 h4.2 r4.2.2.2.1 r4.2.2.2.2.1 r4.2.2.2.2.2.1 r4.2.2.2.2.2.2.1 r4.2.2.2.2.2.2.2.1 r4.2.2.2.2.2.2.2.2.1 r4.2.2.2.2.2.2.2.2.2.1 r4.2.2.2.2.2.2.2.2.2.2.1 r4.2.2.2.2.2.2.2.2.2.2.2.1 r4.2.2.2.2.2.2.2.2.2.2.2.2.1 r4.2.2.2.2.2.2.2.2.2.2.2.2.2.1 r4.2.2.2.2.2.2.2.2.2.2.2.2.2.2.1 r4.2.2.2.2.2.2.2.2.2.2.2.2.2.2.2.1 r4.2.2.2.2.2.2.2.2.2.2.2.2.2.2.2.2.1 r4.2.2.2.2.2.2.2.2.2.2.2.2.2.2.2.2.2.1 r4.2.2.2.2.2.2.2.2.2.2.2.2.2.2.2.2.2.2 (sd := 1) (by omega) k1
    rw [← f1, ← h4.1, u1] at xl2
    refine Rt.bind xl2 (fun r5 h5 => ?_)
    have e3 : r3.1 = i64 (V0 y LO) := h3.1
    have e5 : r5.1 = i64 (V1 y LO) := h5.1
    rw [e3, e5]
    by_cases cv : i64 (V0 y LO) = i64 (V1 y LO)
    · refine Rt.ift cv ?_
      by_cases c2 : w = 2
      · subst c2
        rw [if_pos rfl]
        refine Rt.ift rfl ?_
        unfold fX1_leaving
        have xv := x_leavL hFu hW g3 (sd := 0) (by omega) (v := V0 y LO) (V0_rng (LO := LO) hW).1 (V0_rng (LO := LO) hW).2 ((y 4).toNat + 1) Fu 0 r5.2.1 r5.2.2.1 r5.2.2.2.1 r5.2.2.2.2.1 r5.2.2.2.2.2.1 r5.2.2.2.2.2.2.1 r5.2.2.2.2.2.2.2.1 r5.2.2.2.2.2.2.2.2.1 r5.2.2.2.2.2.2.2.2.2.1 r5.2.2.2.2.2.2.2.2.2.2.1 r5.2.2.2.2.2.2.2.2.2.2.2.1 r5.2.2.2.2.2.2.2.2.2.2.2.2.1 r5.2.2.2.2.2.2.2.2.2.2.2.2.2.1 r5.2.2.2.2.2.2.2.2.2.2.2.2.2.2.1 r5.2.2.2.2.2.2.2.2.2.2.2.2.2.2.2.1 r5.2.2.2.2.2.2.2.2.2.2.2.2.2.2.2.2.1 r5.2.2.2.2.2.2.2.2.2.2.2.2.2.2.2.2.2.1 r5.2.2.2.2.2.2.2.2.2.2.2.2.2.2.2.2.2.2 (by omega) hseat (Or.inr h5.2)
        rw [cnt_0] at xv
        refine Rt.bind xv (fun r7 h7 => ?_)
        have xv := x_leavL hFu hW g3 (sd := 1) (by omega) (v := V0 y LO) (V0_rng (LO := LO) hW).1 (V0_rng (LO := LO) hW).2 ((y 4).toNat + 1) Fu 0 r7.2.1 r7.2.2.1 r7.2.2.2.1 r7.2.2.2.2.1 r7.2.2.2.2.2.1 r7.2.2.2.2.2.2.1 r7.2.2.2.2.2.2.2.1 r7.2.2.2.2.2.2.2.2.1 r7.2.2.2.2.2.2.2.2.2.1 r7.2.2.2.2.2.2.2.2.2.2.1 r7.2.2.2.2.2.2.2.2.2.2.2.1 r7.2.2.2.2.2.2.2.2.2.2.2.2.1 r7.2.2.2.2.2.2.2.2.2.2.2.2.2.1 r7.2.2.2.2.2.2.2.2.2.2.2.2.2.2.1 r7.2.2.2.2.2.2.2.2.2.2.2.2.2.2.2.1 r7.2.2.2.2.2.2.2.2.2.2.2.2.2.2.2.2.1 r7.2.2.2.2.2.2.2.2.2.2.2.2.2.2.2.2.2.1 r7.2.2.2.2.2.2.2.2.2.2.2.2.2.2.2.2.2.2 (by omega) hseat h7.2
        rw [cnt_0] at xv
        refine Rt.bind xv (fun r8 h8 => Rt.ret ⟨?_, Or.inr ⟨g1, g3, h8.2⟩⟩)
        show r7.1 * r8.1 = _
        rw [h7.1, h8.1, pL_Z ((V_i64 hW).mp cv), pL_O ((V_i64 hW).mp cv), i32_mul]
      · rw [if_neg c2]
        refine Rt.iff (by rw [i32_litN 2, i32_eq (by omega) (by omega) (by omega) (by omega)]; exact c2) ?_
        rw [if_neg (sad_ne hW ((V_i64 hW).mp cv))]
        unfold fX1_firstLeaving
        by_cases c0 : w = 0
        · subst c0
          rw [if_pos rfl]
          refine Rt.bind (x_firstL hFu hW g3 (sd := 0) (by omega) (v := V0 y LO) (V0_rng (LO := LO) hW).1 (V0_rng (LO := LO) hW).2 ((y 4).toNat + 1) Fu 0 r5.2.1 r5.2.2.1 r5.2.2.2.1 r5.2.2.2.2.1 r5.2.2.2.2.2.1 r5.2.2.2.2.2.2.1 r5.2.2.2.2.2.2.2.1 r5.2.2.2.2.2.2.2.2.1 r5.2.2.2.2.2.2.2.2.2.1 r5.2.2.2.2.2.2.2.2.2.2.1 r5.2.2.2.2.2.2.2.2.2.2.2.1 r5.2.2.2.2.2.2.2.2.2.2.2.2.1 r5.2.2.2.2.2.2.2.2.2.2.2.2.2.1 r5.2.2.2.2.2.2.2.2.2.2.2.2.2.2.1 r5.2.2.2.2.2.2.2.2.2.2.2.2.2.2.2.1 r5.2.2.2.2.2.2.2.2.2.2.2.2.2.2.2.2.1 r5.2.2.2.2.2.2.2.2.2.2.2.2.2.2.2.2.2.1 r5.2.2.2.2.2.2.2.2.2.2.2.2.2.2.2.2.2.2 (by omega) hseat fst_0 (Or.inr h5.2)) (fun r7 h7 => Rt.ret ⟨?_, Or.inr ⟨g1, g3, h7.2⟩⟩)
          rw [← pL_Z ((V_i64 hW).mp cv)]; exact h7.1
        · obtain rfl : w = 1 := by omega
          rw [if_neg c0]
          refine Rt.bind (x_firstL hFu hW g3 (sd := 1) (by omega) (v := V0 y LO) (V0_rng (LO := LO) hW).1 (V0_rng (LO := LO) hW).2 ((y 4).toNat + 1) Fu 0 r5.2.1 r5.2.2.1 r5.2.2.2.1 r5.2.2.2.2.1 r5.2.2.2.2.2.1 r5.2.2.2.2.2.2.1 r5.2.2.2.2.2.2.2.1 r5.2.2.2.2.2.2.2.2.1 r5.2.2.2.2.2.2.2.2.2.1 r5.2.2.2.2.2.2.2.2.2.2.1 r5.2.2.2.2.2.2.2.2.2.2.2.1 r5.2.2.2.2.2.2.2.2.2.2.2.2.1 r5.2.2.2.2.2.2.2.2.2.2.2.2.2.1 r5.2.2.2.2.2.2.2.2.2.2.2.2.2.2.1 r5.2.2.2.2.2.2.2.2.2.2.2.2.2.2.2.1 r5.2.2.2.2.2.2.2.2.2.2.2.2.2.2.2.2.1 r5.2.2.2.2.2.2.2.2.2.2.2.2.2.2.2.2.2.1 r5.2.2.2.2.2.2.2.2.2.2.2.2.2.2.2.2.2.2 (by omega) hseat fst_0 (Or.inr h5.2)) (fun r7 h7 => Rt.ret ⟨?_, Or.inr ⟨g1, g3, h7.2⟩⟩)
          rw [← pL_O ((V_i64 hW).mp cv)]; exact h7.1
    · refine Rt.iff cv ?_
      rw [pZ_no (fun q => cv ((V_i64 hW).mpr q)), Int.zero_mul]
      by_cases c2 : w = 2
      · subst c2
        rw [if_pos rfl]
        exact Rt.ift rfl (Rt.ret ⟨rfl, Or.inr ⟨g1, g3, Or.inr h5.2⟩⟩)
      · rw [if_neg c2, if_pos rfl]
        exact Rt.iff (by rw [i32_litN 2, i32_eq (by omega) (by omega) (by omega) (by omega)]; exact c2) (Rt.ret ⟨rfl, Or.inr ⟨g1, g3, Or.inr h5.2⟩⟩)
  · rw [eN cw]
    refine Rt.ite (fun _ => Rt.ret ⟨rfl, hC⟩) (fun c => Rt.iff ?_ (Rt.ret ⟨rfl, hC⟩))
    rw [i32_litN 0, i32_lt (by omega) (by omega) (by omega) (by omega)] at c
    rw [i32_litN 2, i32_le (by omega) (by omega) (by omega) (by omega)]; omega
end SADDLE2
