set_option maxHeartbeats 4000000 in
set_option maxRecDepth 100000 in
theorem s_beast {G : GT} {b : Nat} : S0 G b (INV G b) := by
  intro p1 p2 p3 p4 p5
  intro c n hI
  obtain ⟨xi, xj, xa, xb, xq, mi, mj, ma, mb, nl, LL, y, LO, hX, hM, hn, hLw, hRM, hWF, hRX, hB, hLO, hI0, hI1, hK, hRR, hTP, hFP, hQU, hLY, hCI, hBT, hWD, hHW, hQ0, hQ1, hQ2⟩ := hI
  obtain ⟨Fu, hFu⟩ : ∃ Fu : Nat, 6000 ≤ Fu := ⟨6000, Nat.le_refl _⟩
  obtain ⟨Rx, Rm, y', hfx, hfm, hv, hr, h1, hW2, hx2, hE, hk⟩ := q_beast (known := (xi 36)) (thrown := (mi 0)) hRM hWF hRX hRR p1 p2 p3 p4 p5
  have hB2 := hB.eqL hE
  obtain ⟨LO2, hLO2, hCI2⟩ := nxtLO hW2 hB2 (hk.imp id (fun h => ⟨h.1, h.2.1, rfl⟩)) hLO hCI
  have hC := mX11_beast (G := G) (b := b) (c0 := c) (n := n) (v0_faultPlace := (xi 0)) (v0_quashedRows := (xi 1)) (v1_meals := (xi 4)) (v1_seats := (xi 5)) (v1_laws := (xi 6)) (v1_inForce := (xi 7)) (v42_beasts := (xi 32)) (v42_seats := (xi 33)) (v42_seated := (xi 34)) (v42_quota := (xi 35)) (v42_surveyed := (xi 37)) (v42_steadyBench := (xi 38)) (v42_steadyWays := (xi 39)) (v42_steadySwing := (xj 1)) (v0_lastRefusal := (xi 2)) (v1_beasts := (xi 3)) (a2 := (xa 0)) (v42_known := (xi 36)) (a78 := (xa 34)) ((e_wf_X (by omega)).pick [0, 1, 2, 42, 78] rfl (by decide)) hfx
  rw [hX.sub kX_nd [0, 1, 2, 42, 78] rfl rfl, hX.back kX_nd rfl [0, 1, 2, 42, 78] rfl (wF' := (wX G b (va_up (va_up (va_up xi 2 Rx.2.1) 3 Rx.2.2.1) 36 Rx.2.2.2.2.1) xj (va_up (va_up xa 0 Rx.2.2.2.1) 34 Rx.2.2.2.2.2) xb xq)) rfl] at hC
  refine ⟨2, by decide, _, hC, ?_⟩
  rintro v C1 n1 ⟨rfl, hC1, rfl⟩
  have hX1 : HAS kX (wX G b (va_up (va_up (va_up xi 2 Rx.2.1) 3 Rx.2.2.1) 36 Rx.2.2.2.2.1) xj (va_up (va_up xa 0 Rx.2.2.2.1) 34 Rx.2.2.2.2.2) xb xq) C1 := by rw [hC1]; exact HAS.of kX_nd
  have hM1 : HAS (kM 79) (wMM G b mi mj ma mb) C1 := by rw [hC1]; exact hM.out M_no_X
  have hLw1 : LAWS G b C1 nl LL := by rw [hC1]; exact hLw.outX
  have hCm := mX12_beast (G := G) (b := b) (o := 79) (c0 := C1) (n := n1) (a_images := (ma 2)) (a_isKept := (ma 3)) (a_tape := (ma 4)) (v_taped := (mi 2)) (v_from := (mi 3)) (v_to := (mi 4)) (v_sort := (mi 5)) (v_worth := (mj 0)) (v_fault := (mi 6)) (v_bad := (mi 7)) (v_nClauses := (mi 8)) (a_nClause := (ma 5)) (v_nCode := (mi 9)) (a_nOp := (ma 6)) (a_nArg := (ma 7)) (v_nLeaves := (mi 10)) (a_pile := (ma 8)) (a_pileAt := (ma 9)) (v_piled := (mi 11)) (v_opened := (mi 12)) (a_words := (mb 0)) (a_headWords := (mb 1)) (v_law := (mi 13)) (a_set := (mb 2)) (a_rest := (mb 3)) (v_broken := (mi 14)) (v_value := (mj 1)) (v_sum := (mj 2)) (a_chances := (ma 10)) (a_votes := (mb 4)) (a_costs := (ma 11)) (a_table := (mb 5)) (a_prices := (ma 12)) (v_surely := (mj 3)) (a_mostBy := (mb 6)) (a_leastBy := (mb 7)) (v_between := (mj 4)) (v_steadyWays := (mi 15)) (v_quashed := (mi 16)) (v_but := (mi 17)) (a_figures := (ma 13)) (a_all := (ma 14)) (a_lies := (ma 15)) (a_since := (ma 16)) (v_last := (mi 18)) (v_state := (mj 5)) (v_thrown := (mi 0)) (v_status := (mi 1)) (a_refusals := (ma 0)) (a_row := (ma 1)) (e_wf_M (by omega)) hfm
  rw [hM1.ov] at hCm
  refine ⟨⟨by omega, _, hM1 0 79 _ rfl rfl⟩, ⟨_, rfl⟩, _, hCm, ?_⟩
  rintro v2 C2 n2 ⟨rfl, hC2, rfl⟩
  have hX2 : HAS kX (wX G b (va_up (va_up (va_up xi 2 Rx.2.1) 3 Rx.2.2.1) 36 Rx.2.2.2.2.1) xj (va_up (va_up xa 0 Rx.2.2.2.1) 34 Rx.2.2.2.2.2) xb xq) C2 := by rw [hC2]; exact hX1.out X_no_M
  have hM2 : HAS (kM 79) (wMM G b (va_up (va_up mi 0 Rm.2.1) 1 Rm.2.2.1) mj (va_up (va_up ma 0 Rm.2.2.2.1) 1 Rm.2.2.2.2) mb) C2 := by rw [hC2]; exact HAS.of kM_nd
  have hLw2 : LAWS G b C2 nl LL := by rw [hC2]; exact hLw1.outM
  exact ⟨congrArg (fun z => some (Value.int z)) hv.symm, (va_up (va_up (va_up xi 2 Rx.2.1) 3 Rx.2.2.1) 36 Rx.2.2.2.2.1), xj, (va_up (va_up xa 0 Rx.2.2.2.1) 34 Rx.2.2.2.2.2), xb, xq, (va_up (va_up mi 0 Rm.2.1) 1 Rm.2.2.1), mj, (va_up (va_up ma 0 Rm.2.2.2.1) 1 Rm.2.2.2.2), mb, nl, LL, y', LO2, hX2, hM2, hn, hLw2, h1, hW2, hx2, hB2, hLO2, hI0, hI1, hK, hr, hTP, hFP, hQU, hLY, hCI2, hBT, hWD, hHW, hQ0, hQ1, hQ2⟩
set_option maxHeartbeats 4000000 in
set_option maxRecDepth 100000 in
theorem s_put {G : GT} {b : Nat} : S1 G b (INV G b) := by
  intro p1 p2 p3
  intro c n hI
  obtain ⟨xi, xj, xa, xb, xq, mi, mj, ma, mb, nl, LL, y, LO, hX, hM, hn, hLw, hRM, hWF, hRX, hB, hLO, hI0, hI1, hK, hRR, hTP, hFP, hQU, hLY, hCI, hBT, hWD, hHW, hQ0, hQ1, hQ2⟩ := hI
  obtain ⟨Fu, hFu⟩ : ∃ Fu : Nat, 6000 ≤ Fu := ⟨6000, Nat.le_refl _⟩
  obtain ⟨Rx, Rm, y', hfx, hfm, hv, hr, h1, hW2, hx2, hE, hk⟩ := q_put (known := (xi 36)) (thrown := (mi 0)) hRM hWF hRX hRR p1 p2 p3
  have hB2 := hB.eqL hE
  obtain ⟨LO2, hLO2, hCI2⟩ := nxtLO hW2 hB2 (hk.imp id (fun h => ⟨h.1, h.2.1, rfl⟩)) hLO hCI
  have hC := mX11_put (G := G) (b := b) (c0 := c) (n := n) (v0_faultPlace := (xi 0)) (v0_quashedRows := (xi 1)) (v1_meals := (xi 4)) (v1_seats := (xi 5)) (v1_laws := (xi 6)) (v1_inForce := (xi 7)) (v42_beasts := (xi 32)) (v42_seats := (xi 33)) (v42_seated := (xi 34)) (v42_quota := (xi 35)) (v42_surveyed := (xi 37)) (v42_steadyBench := (xi 38)) (v42_steadyWays := (xi 39)) (v42_steadySwing := (xj 1)) (v0_lastRefusal := (xi 2)) (v1_beasts := (xi 3)) (a2 := (xa 0)) (v42_known := (xi 36)) (a78 := (xa 34)) ((e_wf_X (by omega)).pick [0, 1, 2, 42, 78] rfl (by decide)) hfx
  rw [hX.sub kX_nd [0, 1, 2, 42, 78] rfl rfl, hX.back kX_nd rfl [0, 1, 2, 42, 78] rfl (wF' := (wX G b (va_up (va_up xi 2 Rx.2.1) 36 Rx.2.2.2.1) xj (va_up (va_up xa 0 Rx.2.2.1) 34 Rx.2.2.2.2) xb xq)) rfl] at hC
  refine ⟨2, by decide, _, hC, ?_⟩
  rintro v C1 n1 ⟨rfl, hC1, rfl⟩
  have hX1 : HAS kX (wX G b (va_up (va_up xi 2 Rx.2.1) 36 Rx.2.2.2.1) xj (va_up (va_up xa 0 Rx.2.2.1) 34 Rx.2.2.2.2) xb xq) C1 := by rw [hC1]; exact HAS.of kX_nd
  have hM1 : HAS (kM 79) (wMM G b mi mj ma mb) C1 := by rw [hC1]; exact hM.out M_no_X
  have hLw1 : LAWS G b C1 nl LL := by rw [hC1]; exact hLw.outX
  have hCm := mX12_put (G := G) (b := b) (o := 79) (c0 := C1) (n := n1) (a_images := (ma 2)) (a_isKept := (ma 3)) (a_tape := (ma 4)) (v_taped := (mi 2)) (v_from := (mi 3)) (v_to := (mi 4)) (v_sort := (mi 5)) (v_worth := (mj 0)) (v_fault := (mi 6)) (v_bad := (mi 7)) (v_nClauses := (mi 8)) (a_nClause := (ma 5)) (v_nCode := (mi 9)) (a_nOp := (ma 6)) (a_nArg := (ma 7)) (v_nLeaves := (mi 10)) (a_pile := (ma 8)) (a_pileAt := (ma 9)) (v_piled := (mi 11)) (v_opened := (mi 12)) (a_words := (mb 0)) (a_headWords := (mb 1)) (v_law := (mi 13)) (a_set := (mb 2)) (a_rest := (mb 3)) (v_broken := (mi 14)) (v_value := (mj 1)) (v_sum := (mj 2)) (a_chances := (ma 10)) (a_votes := (mb 4)) (a_costs := (ma 11)) (a_table := (mb 5)) (a_prices := (ma 12)) (v_surely := (mj 3)) (a_mostBy := (mb 6)) (a_leastBy := (mb 7)) (v_between := (mj 4)) (v_steadyWays := (mi 15)) (v_quashed := (mi 16)) (v_but := (mi 17)) (a_figures := (ma 13)) (a_all := (ma 14)) (a_lies := (ma 15)) (a_since := (ma 16)) (v_last := (mi 18)) (v_state := (mj 5)) (v_thrown := (mi 0)) (v_status := (mi 1)) (a_refusals := (ma 0)) (a_row := (ma 1)) (e_wf_M (by omega)) hfm
  rw [hM1.ov] at hCm
  refine ⟨⟨by omega, _, hM1 0 79 _ rfl rfl⟩, ⟨_, rfl⟩, _, hCm, ?_⟩
  rintro v2 C2 n2 ⟨rfl, hC2, rfl⟩
  have hX2 : HAS kX (wX G b (va_up (va_up xi 2 Rx.2.1) 36 Rx.2.2.2.1) xj (va_up (va_up xa 0 Rx.2.2.1) 34 Rx.2.2.2.2) xb xq) C2 := by rw [hC2]; exact hX1.out X_no_M
  have hM2 : HAS (kM 79) (wMM G b (va_up (va_up mi 0 Rm.2.1) 1 Rm.2.2.1) mj (va_up (va_up ma 0 Rm.2.2.2.1) 1 Rm.2.2.2.2) mb) C2 := by rw [hC2]; exact HAS.of kM_nd
  have hLw2 : LAWS G b C2 nl LL := by rw [hC2]; exact hLw1.outM
  exact ⟨congrArg (fun z => some (Value.int z)) hv.symm, (va_up (va_up xi 2 Rx.2.1) 36 Rx.2.2.2.1), xj, (va_up (va_up xa 0 Rx.2.2.1) 34 Rx.2.2.2.2), xb, xq, (va_up (va_up mi 0 Rm.2.1) 1 Rm.2.2.1), mj, (va_up (va_up ma 0 Rm.2.2.2.1) 1 Rm.2.2.2.2), mb, nl, LL, y', LO2, hX2, hM2, hn, hLw2, h1, hW2, hx2, hB2, hLO2, hI0, hI1, hK, hr, hTP, hFP, hQU, hLY, hCI2, hBT, hWD, hHW, hQ0, hQ1, hQ2⟩
set_option maxHeartbeats 4000000 in
set_option maxRecDepth 100000 in
theorem s_meal {G : GT} {b : Nat} : S3 G b (INV G b) := by
  intro p1 p2
  intro c n hI
  obtain ⟨xi, xj, xa, xb, xq, mi, mj, ma, mb, nl, LL, y, LO, hX, hM, hn, hLw, hRM, hWF, hRX, hB, hLO, hI0, hI1, hK, hRR, hTP, hFP, hQU, hLY, hCI, hBT, hWD, hHW, hQ0, hQ1, hQ2⟩ := hI
  obtain ⟨Fu, hFu⟩ : ∃ Fu : Nat, 6000 ≤ Fu := ⟨6000, Nat.le_refl _⟩
  obtain ⟨Rx, Rm, y', hfx, hfm, hv, hr, h1, hW2, hx2, hE, hk⟩ := q_meal (known := (xi 36)) (thrown := (mi 0)) hRM hWF hRX hRR p1 p2
  have hB2 := hB.eqL hE
  obtain ⟨LO2, hLO2, hCI2⟩ := nxtLO hW2 hB2 (hk.imp id (fun h => ⟨h.1, h.2.1, rfl⟩)) hLO hCI
  have hC := mX11_meal (G := G) (b := b) (c0 := c) (n := n) (v0_faultPlace := (xi 0)) (v0_quashedRows := (xi 1)) (v1_seats := (xi 5)) (v1_laws := (xi 6)) (v1_inForce := (xi 7)) (v42_beasts := (xi 32)) (v42_seats := (xi 33)) (v42_seated := (xi 34)) (v42_quota := (xi 35)) (v42_surveyed := (xi 37)) (v42_steadyBench := (xi 38)) (v42_steadyWays := (xi 39)) (v42_steadySwing := (xj 1)) (v0_lastRefusal := (xi 2)) (v1_beasts := (xi 3)) (v1_meals := (xi 4)) (a3 := (xa 1)) (v42_known := (xi 36)) (a78 := (xa 34)) ((e_wf_X (by omega)).pick [0, 1, 3, 42, 78] rfl (by decide)) hfx
  rw [hX.sub kX_nd [0, 1, 3, 42, 78] rfl rfl, hX.back kX_nd rfl [0, 1, 3, 42, 78] rfl (wF' := (wX G b (va_up (va_up (va_up xi 2 Rx.2.1) 4 Rx.2.2.1) 36 Rx.2.2.2.2.1) xj (va_up (va_up xa 1 Rx.2.2.2.1) 34 Rx.2.2.2.2.2) xb xq)) rfl] at hC
  refine ⟨2, by decide, _, hC, ?_⟩
  rintro v C1 n1 ⟨rfl, hC1, rfl⟩
  have hX1 : HAS kX (wX G b (va_up (va_up (va_up xi 2 Rx.2.1) 4 Rx.2.2.1) 36 Rx.2.2.2.2.1) xj (va_up (va_up xa 1 Rx.2.2.2.1) 34 Rx.2.2.2.2.2) xb xq) C1 := by rw [hC1]; exact HAS.of kX_nd
  have hM1 : HAS (kM 79) (wMM G b mi mj ma mb) C1 := by rw [hC1]; exact hM.out M_no_X
  have hLw1 : LAWS G b C1 nl LL := by rw [hC1]; exact hLw.outX
  have hCm := mX12_meal (G := G) (b := b) (o := 79) (c0 := C1) (n := n1) (a_images := (ma 2)) (a_isKept := (ma 3)) (a_tape := (ma 4)) (v_taped := (mi 2)) (v_from := (mi 3)) (v_to := (mi 4)) (v_sort := (mi 5)) (v_worth := (mj 0)) (v_fault := (mi 6)) (v_bad := (mi 7)) (v_nClauses := (mi 8)) (a_nClause := (ma 5)) (v_nCode := (mi 9)) (a_nOp := (ma 6)) (a_nArg := (ma 7)) (v_nLeaves := (mi 10)) (a_pile := (ma 8)) (a_pileAt := (ma 9)) (v_piled := (mi 11)) (v_opened := (mi 12)) (a_words := (mb 0)) (a_headWords := (mb 1)) (v_law := (mi 13)) (a_set := (mb 2)) (a_rest := (mb 3)) (v_broken := (mi 14)) (v_value := (mj 1)) (v_sum := (mj 2)) (a_chances := (ma 10)) (a_votes := (mb 4)) (a_costs := (ma 11)) (a_table := (mb 5)) (a_prices := (ma 12)) (v_surely := (mj 3)) (a_mostBy := (mb 6)) (a_leastBy := (mb 7)) (v_between := (mj 4)) (v_steadyWays := (mi 15)) (v_quashed := (mi 16)) (v_but := (mi 17)) (a_figures := (ma 13)) (a_all := (ma 14)) (a_lies := (ma 15)) (a_since := (ma 16)) (v_last := (mi 18)) (v_state := (mj 5)) (v_thrown := (mi 0)) (v_status := (mi 1)) (a_refusals := (ma 0)) (a_row := (ma 1)) (e_wf_M (by omega)) hfm
  rw [hM1.ov] at hCm
  refine ⟨⟨by omega, _, hM1 0 79 _ rfl rfl⟩, ⟨_, rfl⟩, _, hCm, ?_⟩
  rintro v2 C2 n2 ⟨rfl, hC2, rfl⟩
  have hX2 : HAS kX (wX G b (va_up (va_up (va_up xi 2 Rx.2.1) 4 Rx.2.2.1) 36 Rx.2.2.2.2.1) xj (va_up (va_up xa 1 Rx.2.2.2.1) 34 Rx.2.2.2.2.2) xb xq) C2 := by rw [hC2]; exact hX1.out X_no_M
  have hM2 : HAS (kM 79) (wMM G b (va_up (va_up mi 0 Rm.2.1) 1 Rm.2.2.1) mj (va_up (va_up ma 0 Rm.2.2.2.1) 1 Rm.2.2.2.2) mb) C2 := by rw [hC2]; exact HAS.of kM_nd
  have hLw2 : LAWS G b C2 nl LL := by rw [hC2]; exact hLw1.outM
  exact ⟨congrArg (fun z => some (Value.int z)) hv.symm, (va_up (va_up (va_up xi 2 Rx.2.1) 4 Rx.2.2.1) 36 Rx.2.2.2.2.1), xj, (va_up (va_up xa 1 Rx.2.2.2.1) 34 Rx.2.2.2.2.2), xb, xq, (va_up (va_up mi 0 Rm.2.1) 1 Rm.2.2.1), mj, (va_up (va_up ma 0 Rm.2.2.2.1) 1 Rm.2.2.2.2), mb, nl, LL, y', LO2, hX2, hM2, hn, hLw2, h1, hW2, hx2, hB2, hLO2, hI0, hI1, hK, hr, hTP, hFP, hQU, hLY, hCI2, hBT, hWD, hHW, hQ0, hQ1, hQ2⟩
set_option maxHeartbeats 4000000 in
set_option maxRecDepth 100000 in
theorem s_bench {G : GT} {b : Nat} : S6 G b (INV G b) := by
  intro p1
  intro c n hI
  obtain ⟨xi, xj, xa, xb, xq, mi, mj, ma, mb, nl, LL, y, LO, hX, hM, hn, hLw, hRM, hWF, hRX, hB, hLO, hI0, hI1, hK, hRR, hTP, hFP, hQU, hLY, hCI, hBT, hWD, hHW, hQ0, hQ1, hQ2⟩ := hI
  obtain ⟨Fu, hFu⟩ : ∃ Fu : Nat, 6000 ≤ Fu := ⟨6000, Nat.le_refl _⟩
  obtain ⟨Rx, Rm, y', hfx, hfm, hv, hr, h1, hW2, hx2, hE, hk⟩ := q_bench (known := (xi 36)) (thrown := (mi 0)) hRM hWF hRX hRR p1
  have hB2 := hB.eqL hE
  obtain ⟨LO2, hLO2, hCI2⟩ := nxtLO hW2 hB2 (hk.imp id (fun h => ⟨h.1, h.2.1, rfl⟩)) hLO hCI
  have hC := mX11_bench (G := G) (b := b) (c0 := c) (n := n) (v0_faultPlace := (xi 0)) (v0_quashedRows := (xi 1)) (v1_meals := (xi 4)) (v1_laws := (xi 6)) (v1_inForce := (xi 7)) (v42_beasts := (xi 32)) (v42_seats := (xi 33)) (v42_seated := (xi 34)) (v42_quota := (xi 35)) (v42_surveyed := (xi 37)) (v42_steadyBench := (xi 38)) (v42_steadyWays := (xi 39)) (v42_steadySwing := (xj 1)) (v0_lastRefusal := (xi 2)) (v1_beasts := (xi 3)) (v1_seats := (xi 5)) (v42_known := (xi 36)) (a78 := (xa 34)) ((e_wf_X (by omega)).pick [0, 1, 42, 78] rfl (by decide)) hfx
  rw [hX.sub kX_nd [0, 1, 42, 78] rfl rfl, hX.back kX_nd rfl [0, 1, 42, 78] rfl (wF' := (wX G b (va_up (va_up (va_up xi 2 Rx.2.1) 5 Rx.2.2.1) 36 Rx.2.2.2.1) xj (va_up xa 34 Rx.2.2.2.2) xb xq)) rfl] at hC
  refine ⟨2, by decide, _, hC, ?_⟩
  rintro v C1 n1 ⟨rfl, hC1, rfl⟩
  have hX1 : HAS kX (wX G b (va_up (va_up (va_up xi 2 Rx.2.1) 5 Rx.2.2.1) 36 Rx.2.2.2.1) xj (va_up xa 34 Rx.2.2.2.2) xb xq) C1 := by rw [hC1]; exact HAS.of kX_nd
  have hM1 : HAS (kM 79) (wMM G b mi mj ma mb) C1 := by rw [hC1]; exact hM.out M_no_X
  have hLw1 : LAWS G b C1 nl LL := by rw [hC1]; exact hLw.outX
  have hCm := mX12_bench (G := G) (b := b) (o := 79) (c0 := C1) (n := n1) (a_images := (ma 2)) (a_isKept := (ma 3)) (a_tape := (ma 4)) (v_taped := (mi 2)) (v_from := (mi 3)) (v_to := (mi 4)) (v_sort := (mi 5)) (v_worth := (mj 0)) (v_fault := (mi 6)) (v_bad := (mi 7)) (v_nClauses := (mi 8)) (a_nClause := (ma 5)) (v_nCode := (mi 9)) (a_nOp := (ma 6)) (a_nArg := (ma 7)) (v_nLeaves := (mi 10)) (a_pile := (ma 8)) (a_pileAt := (ma 9)) (v_piled := (mi 11)) (v_opened := (mi 12)) (a_words := (mb 0)) (a_headWords := (mb 1)) (v_law := (mi 13)) (a_set := (mb 2)) (a_rest := (mb 3)) (v_broken := (mi 14)) (v_value := (mj 1)) (v_sum := (mj 2)) (a_chances := (ma 10)) (a_votes := (mb 4)) (a_costs := (ma 11)) (a_table := (mb 5)) (a_prices := (ma 12)) (v_surely := (mj 3)) (a_mostBy := (mb 6)) (a_leastBy := (mb 7)) (v_between := (mj 4)) (v_steadyWays := (mi 15)) (v_quashed := (mi 16)) (v_but := (mi 17)) (a_figures := (ma 13)) (a_all := (ma 14)) (a_lies := (ma 15)) (a_since := (ma 16)) (v_last := (mi 18)) (v_state := (mj 5)) (v_thrown := (mi 0)) (v_status := (mi 1)) (a_refusals := (ma 0)) (a_row := (ma 1)) (e_wf_M (by omega)) hfm
  rw [hM1.ov] at hCm
  refine ⟨⟨by omega, _, hM1 0 79 _ rfl rfl⟩, ⟨_, rfl⟩, _, hCm, ?_⟩
  rintro v2 C2 n2 ⟨rfl, hC2, rfl⟩
  have hX2 : HAS kX (wX G b (va_up (va_up (va_up xi 2 Rx.2.1) 5 Rx.2.2.1) 36 Rx.2.2.2.1) xj (va_up xa 34 Rx.2.2.2.2) xb xq) C2 := by rw [hC2]; exact hX1.out X_no_M
  have hM2 : HAS (kM 79) (wMM G b (va_up (va_up mi 0 Rm.2.1) 1 Rm.2.2.1) mj (va_up (va_up ma 0 Rm.2.2.2.1) 1 Rm.2.2.2.2) mb) C2 := by rw [hC2]; exact HAS.of kM_nd
  have hLw2 : LAWS G b C2 nl LL := by rw [hC2]; exact hLw1.outM
  exact ⟨congrArg (fun z => some (Value.int z)) hv.symm, (va_up (va_up (va_up xi 2 Rx.2.1) 5 Rx.2.2.1) 36 Rx.2.2.2.1), xj, (va_up xa 34 Rx.2.2.2.2), xb, xq, (va_up (va_up mi 0 Rm.2.1) 1 Rm.2.2.1), mj, (va_up (va_up ma 0 Rm.2.2.2.1) 1 Rm.2.2.2.2), mb, nl, LL, y', LO2, hX2, hM2, hn, hLw2, h1, hW2, hx2, hB2, hLO2, hI0, hI1, hK, hr, hTP, hFP, hQU, hLY, hCI2, hBT, hWD, hHW, hQ0, hQ1, hQ2⟩
set_option maxHeartbeats 4000000 in
set_option maxRecDepth 100000 in
theorem s_terms {G : GT} {b : Nat} : S7 G b (INV G b) := by
  intro p1 p2
  intro c n hI
  obtain ⟨xi, xj, xa, xb, xq, mi, mj, ma, mb, nl, LL, y, LO, hX, hM, hn, hLw, hRM, hWF, hRX, hB, hLO, hI0, hI1, hK, hRR, hTP, hFP, hQU, hLY, hCI, hBT, hWD, hHW, hQ0, hQ1, hQ2⟩ := hI
  obtain ⟨Fu, hFu⟩ : ∃ Fu : Nat, 6000 ≤ Fu := ⟨6000, Nat.le_refl _⟩
  obtain ⟨Rx, Rm, y', hfx, hfm, hv, hr, h1, hW2, hx2, hE, hk⟩ := q_terms (known := (xi 36)) (thrown := (mi 0)) hRM hWF hRX hRR p1 p2
  have hB2 := hB.eqL hE
  obtain ⟨LO2, hLO2, hCI2⟩ := nxtLO hW2 hB2 (hk.imp id (fun h => ⟨h.1, h.2.1, rfl⟩)) hLO hCI
  have hC := mX11_terms (G := G) (b := b) (c0 := c) (n := n) (v0_faultPlace := (xi 0)) (v0_quashedRows := (xi 1)) (v1_beasts := (xi 3)) (v1_meals := (xi 4)) (v1_seats := (xi 5)) (v1_laws := (xi 6)) (v1_inForce := (xi 7)) (v42_beasts := (xi 32)) (v42_seats := (xi 33)) (v42_seated := (xi 34)) (v42_quota := (xi 35)) (v42_surveyed := (xi 37)) (v42_steadyBench := (xi 38)) (v42_steadyWays := (xi 39)) (v42_steadySwing := (xj 1)) (v0_lastRefusal := (xi 2)) (a4 := (xa 2)) (v42_known := (xi 36)) (a78 := (xa 34)) ((e_wf_X (by omega)).pick [0, 1, 4, 42, 78] rfl (by decide)) hfx
  rw [hX.sub kX_nd [0, 1, 4, 42, 78] rfl rfl, hX.back kX_nd rfl [0, 1, 4, 42, 78] rfl (wF' := (wX G b (va_up (va_up xi 2 Rx.2.1) 36 Rx.2.2.2.1) xj (va_up (va_up xa 2 Rx.2.2.1) 34 Rx.2.2.2.2) xb xq)) rfl] at hC
  refine ⟨2, by decide, _, hC, ?_⟩
  rintro v C1 n1 ⟨rfl, hC1, rfl⟩
  have hX1 : HAS kX (wX G b (va_up (va_up xi 2 Rx.2.1) 36 Rx.2.2.2.1) xj (va_up (va_up xa 2 Rx.2.2.1) 34 Rx.2.2.2.2) xb xq) C1 := by rw [hC1]; exact HAS.of kX_nd
  have hM1 : HAS (kM 79) (wMM G b mi mj ma mb) C1 := by rw [hC1]; exact hM.out M_no_X
  have hLw1 : LAWS G b C1 nl LL := by rw [hC1]; exact hLw.outX
  have hCm := mX12_terms (G := G) (b := b) (o := 79) (c0 := C1) (n := n1) (a_images := (ma 2)) (a_isKept := (ma 3)) (a_tape := (ma 4)) (v_taped := (mi 2)) (v_from := (mi 3)) (v_to := (mi 4)) (v_sort := (mi 5)) (v_worth := (mj 0)) (v_fault := (mi 6)) (v_bad := (mi 7)) (v_nClauses := (mi 8)) (a_nClause := (ma 5)) (v_nCode := (mi 9)) (a_nOp := (ma 6)) (a_nArg := (ma 7)) (v_nLeaves := (mi 10)) (a_pile := (ma 8)) (a_pileAt := (ma 9)) (v_piled := (mi 11)) (v_opened := (mi 12)) (a_words := (mb 0)) (a_headWords := (mb 1)) (v_law := (mi 13)) (a_set := (mb 2)) (a_rest := (mb 3)) (v_broken := (mi 14)) (v_value := (mj 1)) (v_sum := (mj 2)) (a_chances := (ma 10)) (a_votes := (mb 4)) (a_costs := (ma 11)) (a_table := (mb 5)) (a_prices := (ma 12)) (v_surely := (mj 3)) (a_mostBy := (mb 6)) (a_leastBy := (mb 7)) (v_between := (mj 4)) (v_steadyWays := (mi 15)) (v_quashed := (mi 16)) (v_but := (mi 17)) (a_figures := (ma 13)) (a_all := (ma 14)) (a_lies := (ma 15)) (a_since := (ma 16)) (v_last := (mi 18)) (v_state := (mj 5)) (v_thrown := (mi 0)) (v_status := (mi 1)) (a_refusals := (ma 0)) (a_row := (ma 1)) (e_wf_M (by omega)) hfm
  rw [hM1.ov] at hCm
  refine ⟨⟨by omega, _, hM1 0 79 _ rfl rfl⟩, ⟨_, rfl⟩, _, hCm, ?_⟩
  rintro v2 C2 n2 ⟨rfl, hC2, rfl⟩
  have hX2 : HAS kX (wX G b (va_up (va_up xi 2 Rx.2.1) 36 Rx.2.2.2.1) xj (va_up (va_up xa 2 Rx.2.2.1) 34 Rx.2.2.2.2) xb xq) C2 := by rw [hC2]; exact hX1.out X_no_M
  have hM2 : HAS (kM 79) (wMM G b (va_up (va_up mi 0 Rm.2.1) 1 Rm.2.2.1) mj (va_up (va_up ma 0 Rm.2.2.2.1) 1 Rm.2.2.2.2) mb) C2 := by rw [hC2]; exact HAS.of kM_nd
  have hLw2 : LAWS G b C2 nl LL := by rw [hC2]; exact hLw1.outM
  exact ⟨congrArg (fun z => some (Value.int z)) hv.symm, (va_up (va_up xi 2 Rx.2.1) 36 Rx.2.2.2.1), xj, (va_up (va_up xa 2 Rx.2.2.1) 34 Rx.2.2.2.2), xb, xq, (va_up (va_up mi 0 Rm.2.1) 1 Rm.2.2.1), mj, (va_up (va_up ma 0 Rm.2.2.2.1) 1 Rm.2.2.2.2), mb, nl, LL, y', LO2, hX2, hM2, hn, hLw2, h1, hW2, hx2, hB2, hLO2, hI0, hI1, hK, hr, hTP, hFP, hQU, hLY, hCI2, hBT, hWD, hHW, hQ0, hQ1, hQ2⟩
set_option maxHeartbeats 4000000 in
set_option maxRecDepth 100000 in
theorem s_force {G : GT} {b : Nat} : S14 G b (INV G b) := by
  intro p1
  intro c n hI
  obtain ⟨xi, xj, xa, xb, xq, mi, mj, ma, mb, nl, LL, y, LO, hX, hM, hn, hLw, hRM, hWF, hRX, hB, hLO, hI0, hI1, hK, hRR, hTP, hFP, hQU, hLY, hCI, hBT, hWD, hHW, hQ0, hQ1, hQ2⟩ := hI
  obtain ⟨Fu, hFu⟩ : ∃ Fu : Nat, 6000 ≤ Fu := ⟨6000, Nat.le_refl _⟩
  obtain ⟨Rx, Rm, y', hfx, hfm, hv, hr, h1, hW2, hx2, hE, hk⟩ := q_force (known := (xi 36)) (thrown := (mi 0)) hRM hWF hRX hRR p1
  have hB2 := hB.eqL hE
  obtain ⟨LO2, hLO2, hCI2⟩ := nxtLO hW2 hB2 (hk.imp id (fun h => ⟨h.1, h.2.1, rfl⟩)) hLO hCI
  have hC := mX11_force (G := G) (b := b) (c0 := c) (n := n) (v0_faultPlace := (xi 0)) (v0_quashedRows := (xi 1)) (v1_beasts := (xi 3)) (v1_meals := (xi 4)) (v1_seats := (xi 5)) (v42_beasts := (xi 32)) (v42_seats := (xi 33)) (v42_seated := (xi 34)) (v42_quota := (xi 35)) (v42_surveyed := (xi 37)) (v42_steadyBench := (xi 38)) (v42_steadyWays := (xi 39)) (v42_steadySwing := (xj 1)) (v0_lastRefusal := (xi 2)) (v1_laws := (xi 6)) (v1_inForce := (xi 7)) (v42_known := (xi 36)) (a78 := (xa 34)) ((e_wf_X (by omega)).pick [0, 1, 42, 78] rfl (by decide)) hfx
  rw [hX.sub kX_nd [0, 1, 42, 78] rfl rfl, hX.back kX_nd rfl [0, 1, 42, 78] rfl (wF' := (wX G b (va_up (va_up (va_up xi 2 Rx.2.1) 7 Rx.2.2.1) 36 Rx.2.2.2.1) xj (va_up xa 34 Rx.2.2.2.2) xb xq)) rfl] at hC
  refine ⟨2, by decide, _, hC, ?_⟩
  rintro v C1 n1 ⟨rfl, hC1, rfl⟩
  have hX1 : HAS kX (wX G b (va_up (va_up (va_up xi 2 Rx.2.1) 7 Rx.2.2.1) 36 Rx.2.2.2.1) xj (va_up xa 34 Rx.2.2.2.2) xb xq) C1 := by rw [hC1]; exact HAS.of kX_nd
  have hM1 : HAS (kM 79) (wMM G b mi mj ma mb) C1 := by rw [hC1]; exact hM.out M_no_X
  have hLw1 : LAWS G b C1 nl LL := by rw [hC1]; exact hLw.outX
  have hCm := mX12_force (G := G) (b := b) (o := 79) (c0 := C1) (n := n1) (a_images := (ma 2)) (a_isKept := (ma 3)) (a_tape := (ma 4)) (v_taped := (mi 2)) (v_from := (mi 3)) (v_to := (mi 4)) (v_sort := (mi 5)) (v_worth := (mj 0)) (v_fault := (mi 6)) (v_bad := (mi 7)) (v_nClauses := (mi 8)) (a_nClause := (ma 5)) (v_nCode := (mi 9)) (a_nOp := (ma 6)) (a_nArg := (ma 7)) (v_nLeaves := (mi 10)) (a_pile := (ma 8)) (a_pileAt := (ma 9)) (v_piled := (mi 11)) (v_opened := (mi 12)) (a_words := (mb 0)) (a_headWords := (mb 1)) (v_law := (mi 13)) (a_set := (mb 2)) (a_rest := (mb 3)) (v_broken := (mi 14)) (v_value := (mj 1)) (v_sum := (mj 2)) (a_chances := (ma 10)) (a_votes := (mb 4)) (a_costs := (ma 11)) (a_table := (mb 5)) (a_prices := (ma 12)) (v_surely := (mj 3)) (a_mostBy := (mb 6)) (a_leastBy := (mb 7)) (v_between := (mj 4)) (v_steadyWays := (mi 15)) (v_quashed := (mi 16)) (v_but := (mi 17)) (a_figures := (ma 13)) (a_all := (ma 14)) (a_lies := (ma 15)) (a_since := (ma 16)) (v_last := (mi 18)) (v_state := (mj 5)) (v_thrown := (mi 0)) (v_status := (mi 1)) (a_refusals := (ma 0)) (a_row := (ma 1)) (e_wf_M (by omega)) hfm
  rw [hM1.ov] at hCm
  refine ⟨⟨by omega, _, hM1 0 79 _ rfl rfl⟩, ⟨_, rfl⟩, _, hCm, ?_⟩
  rintro v2 C2 n2 ⟨rfl, hC2, rfl⟩
  have hX2 : HAS kX (wX G b (va_up (va_up (va_up xi 2 Rx.2.1) 7 Rx.2.2.1) 36 Rx.2.2.2.1) xj (va_up xa 34 Rx.2.2.2.2) xb xq) C2 := by rw [hC2]; exact hX1.out X_no_M
  have hM2 : HAS (kM 79) (wMM G b (va_up (va_up mi 0 Rm.2.1) 1 Rm.2.2.1) mj (va_up (va_up ma 0 Rm.2.2.2.1) 1 Rm.2.2.2.2) mb) C2 := by rw [hC2]; exact HAS.of kM_nd
  have hLw2 : LAWS G b C2 nl LL := by rw [hC2]; exact hLw1.outM
  exact ⟨congrArg (fun z => some (Value.int z)) hv.symm, (va_up (va_up (va_up xi 2 Rx.2.1) 7 Rx.2.2.1) 36 Rx.2.2.2.1), xj, (va_up xa 34 Rx.2.2.2.2), xb, xq, (va_up (va_up mi 0 Rm.2.1) 1 Rm.2.2.1), mj, (va_up (va_up ma 0 Rm.2.2.2.1) 1 Rm.2.2.2.2), mb, nl, LL, y', LO2, hX2, hM2, hn, hLw2, h1, hW2, hx2, hB2, hLO2, hI0, hI1, hK, hr, hTP, hFP, hQU, hLY, hCI2, hBT, hWD, hHW, hQ0, hQ1, hQ2⟩
set_option maxHeartbeats 4000000 in
set_option maxRecDepth 100000 in
theorem s_judged {G : GT} {b : Nat} : S29 G b (INV G b) := by
  intro p1 p2 p3
  intro c n hI
  obtain ⟨xi, xj, xa, xb, xq, mi, mj, ma, mb, nl, LL, y, LO, hX, hM, hn, hLw, hRM, hWF, hRX, hB, hLO, hI0, hI1, hK, hRR, hTP, hFP, hQU, hLY, hCI, hBT, hWD, hHW, hQ0, hQ1, hQ2⟩ := hI
  obtain ⟨Fu, hFu⟩ : ∃ Fu : Nat, 6000 ≤ Fu := ⟨6000, Nat.le_refl _⟩
  obtain ⟨Rx, Rm, y', hfx, hfm, hv, hr, h1, hW2, hx2, hE, hk⟩ := q_judged (known := (xi 36)) (thrown := (mi 0)) hRM hWF hRX hRR p1 p2 p3
  have hB2 := hB.eqL hE
  obtain ⟨LO2, hLO2, hCI2⟩ := nxtLO hW2 hB2 (hk.imp id (fun h => ⟨h.1, h.2, rfl⟩)) hLO hCI
  have hC := mX11_judged (G := G) (b := b) (c0 := c) (n := n) (v0_faultPlace := (xi 0)) (v0_quashedRows := (xi 1)) (v1_beasts := (xi 3)) (v1_meals := (xi 4)) (v1_seats := (xi 5)) (v1_laws := (xi 6)) (v1_inForce := (xi 7)) (v42_beasts := (xi 32)) (v42_seats := (xi 33)) (v42_seated := (xi 34)) (v42_quota := (xi 35)) (v42_surveyed := (xi 37)) (v42_steadyBench := (xi 38)) (v42_steadyWays := (xi 39)) (v42_steadySwing := (xj 1)) (v0_lastRefusal := (xi 2)) (v6_cases := (xi 8)) (a7 := (xa 3)) (a8 := (xa 4)) (a9 := (xa 5)) (v42_known := (xi 36)) (a78 := (xa 34)) ((e_wf_X (by omega)).pick [0, 1, 6, 7, 8, 9, 42, 78] rfl (by decide)) hfx
  rw [hX.sub kX_nd [0, 1, 6, 7, 8, 9, 42, 78] rfl rfl, hX.back kX_nd rfl [0, 1, 6, 7, 8, 9, 42, 78] rfl (wF' := (wX G b (va_up (va_up (va_up xi 2 Rx.2.1) 8 Rx.2.2.1) 36 Rx.2.2.2.2.2.2.1) xj (va_up (va_up (va_up (va_up xa 3 Rx.2.2.2.1) 4 Rx.2.2.2.2.1) 5 Rx.2.2.2.2.2.1) 34 Rx.2.2.2.2.2.2.2) xb xq)) rfl] at hC
  refine ⟨2, by decide, _, hC, ?_⟩
  rintro v C1 n1 ⟨rfl, hC1, rfl⟩
  have hX1 : HAS kX (wX G b (va_up (va_up (va_up xi 2 Rx.2.1) 8 Rx.2.2.1) 36 Rx.2.2.2.2.2.2.1) xj (va_up (va_up (va_up (va_up xa 3 Rx.2.2.2.1) 4 Rx.2.2.2.2.1) 5 Rx.2.2.2.2.2.1) 34 Rx.2.2.2.2.2.2.2) xb xq) C1 := by rw [hC1]; exact HAS.of kX_nd
  have hM1 : HAS (kM 79) (wMM G b mi mj ma mb) C1 := by rw [hC1]; exact hM.out M_no_X
  have hLw1 : LAWS G b C1 nl LL := by rw [hC1]; exact hLw.outX
  have hCm := mX12_judged (G := G) (b := b) (o := 79) (c0 := C1) (n := n1) (a_images := (ma 2)) (a_isKept := (ma 3)) (a_tape := (ma 4)) (v_taped := (mi 2)) (v_from := (mi 3)) (v_to := (mi 4)) (v_sort := (mi 5)) (v_worth := (mj 0)) (v_fault := (mi 6)) (v_bad := (mi 7)) (v_nClauses := (mi 8)) (a_nClause := (ma 5)) (v_nCode := (mi 9)) (a_nOp := (ma 6)) (a_nArg := (ma 7)) (v_nLeaves := (mi 10)) (a_pile := (ma 8)) (a_pileAt := (ma 9)) (v_piled := (mi 11)) (v_opened := (mi 12)) (a_words := (mb 0)) (a_headWords := (mb 1)) (v_law := (mi 13)) (a_set := (mb 2)) (a_rest := (mb 3)) (v_broken := (mi 14)) (v_value := (mj 1)) (v_sum := (mj 2)) (a_chances := (ma 10)) (a_votes := (mb 4)) (a_costs := (ma 11)) (a_table := (mb 5)) (a_prices := (ma 12)) (v_surely := (mj 3)) (a_mostBy := (mb 6)) (a_leastBy := (mb 7)) (v_between := (mj 4)) (v_steadyWays := (mi 15)) (v_quashed := (mi 16)) (v_but := (mi 17)) (a_figures := (ma 13)) (a_all := (ma 14)) (a_lies := (ma 15)) (a_since := (ma 16)) (v_last := (mi 18)) (v_state := (mj 5)) (v_thrown := (mi 0)) (v_status := (mi 1)) (a_refusals := (ma 0)) (a_row := (ma 1)) (e_wf_M (by omega)) hfm
  rw [hM1.ov] at hCm
  refine ⟨⟨by omega, _, hM1 0 79 _ rfl rfl⟩, ⟨_, rfl⟩, _, hCm, ?_⟩
  rintro v2 C2 n2 ⟨rfl, hC2, rfl⟩
  have hX2 : HAS kX (wX G b (va_up (va_up (va_up xi 2 Rx.2.1) 8 Rx.2.2.1) 36 Rx.2.2.2.2.2.2.1) xj (va_up (va_up (va_up (va_up xa 3 Rx.2.2.2.1) 4 Rx.2.2.2.2.1) 5 Rx.2.2.2.2.2.1) 34 Rx.2.2.2.2.2.2.2) xb xq) C2 := by rw [hC2]; exact hX1.out X_no_M
  have hM2 : HAS (kM 79) (wMM G b (va_up (va_up mi 0 Rm.2.1) 1 Rm.2.2.1) mj (va_up (va_up ma 0 Rm.2.2.2.1) 1 Rm.2.2.2.2) mb) C2 := by rw [hC2]; exact HAS.of kM_nd
  have hLw2 : LAWS G b C2 nl LL := by rw [hC2]; exact hLw1.outM
  exact ⟨congrArg (fun z => some (Value.int z)) hv.symm, (va_up (va_up (va_up xi 2 Rx.2.1) 8 Rx.2.2.1) 36 Rx.2.2.2.2.2.2.1), xj, (va_up (va_up (va_up (va_up xa 3 Rx.2.2.2.1) 4 Rx.2.2.2.2.1) 5 Rx.2.2.2.2.2.1) 34 Rx.2.2.2.2.2.2.2), xb, xq, (va_up (va_up mi 0 Rm.2.1) 1 Rm.2.2.1), mj, (va_up (va_up ma 0 Rm.2.2.2.1) 1 Rm.2.2.2.2), mb, nl, LL, y', LO2, hX2, hM2, hn, hLw2, h1, hW2, hx2, hB2, hLO2, hI0, hI1, hK, hr, hTP, hFP, hQU, hLY, hCI2, hBT, hWD, hHW, hQ0, hQ1, hQ2⟩
set_option maxHeartbeats 4000000 in
set_option maxRecDepth 100000 in
theorem s_annul {G : GT} {b : Nat} : S30 G b (INV G b) := by
  intro p1
  intro c n hI
  obtain ⟨xi, xj, xa, xb, xq, mi, mj, ma, mb, nl, LL, y, LO, hX, hM, hn, hLw, hRM, hWF, hRX, hB, hLO, hI0, hI1, hK, hRR, hTP, hFP, hQU, hLY, hCI, hBT, hWD, hHW, hQ0, hQ1, hQ2⟩ := hI
  obtain ⟨Fu, hFu⟩ : ∃ Fu : Nat, 6000 ≤ Fu := ⟨6000, Nat.le_refl _⟩
  obtain ⟨Rx, Rm, y', hfx, hfm, hv, hr, h1, hW2, hx2, hE, hk⟩ := q_annul (known := (xi 36)) (thrown := (mi 0)) hFu hRM hWF hRX hRR p1
  have hB2 := hB.eqL hE
  obtain ⟨LO2, hLO2, hCI2⟩ := nxtLO hW2 hB2 (hk.imp id (fun h => ⟨h.1, h.2, rfl⟩)) hLO hCI
  have hC := mX11_annul (G := G) (b := b) (c0 := c) (n := n) (v0_faultPlace := (xi 0)) (v0_quashedRows := (xi 1)) (v1_beasts := (xi 3)) (v1_meals := (xi 4)) (v1_seats := (xi 5)) (v1_laws := (xi 6)) (v1_inForce := (xi 7)) (v42_beasts := (xi 32)) (v42_seats := (xi 33)) (v42_seated := (xi 34)) (v42_quota := (xi 35)) (v42_surveyed := (xi 37)) (v42_steadyBench := (xi 38)) (v42_steadyWays := (xi 39)) (v42_steadySwing := (xj 1)) (v0_lastRefusal := (xi 2)) (v6_cases := (xi 8)) (a7 := (xa 3)) (a8 := (xa 4)) (a9 := (xa 5)) (v42_known := (xi 36)) (a78 := (xa 34)) ((e_wf_X (by omega)).pick [0, 1, 6, 7, 8, 9, 42, 78] rfl (by decide)) hfx
  rw [hX.sub kX_nd [0, 1, 6, 7, 8, 9, 42, 78] rfl rfl, hX.back kX_nd rfl [0, 1, 6, 7, 8, 9, 42, 78] rfl (wF' := (wX G b (va_up (va_up (va_up xi 2 Rx.2.1) 8 Rx.2.2.1) 36 Rx.2.2.2.2.2.2.1) xj (va_up (va_up (va_up (va_up xa 3 Rx.2.2.2.1) 4 Rx.2.2.2.2.1) 5 Rx.2.2.2.2.2.1) 34 Rx.2.2.2.2.2.2.2) xb xq)) rfl] at hC
  refine ⟨2, by decide, _, hC, ?_⟩
  rintro v C1 n1 ⟨rfl, hC1, rfl⟩
  have hX1 : HAS kX (wX G b (va_up (va_up (va_up xi 2 Rx.2.1) 8 Rx.2.2.1) 36 Rx.2.2.2.2.2.2.1) xj (va_up (va_up (va_up (va_up xa 3 Rx.2.2.2.1) 4 Rx.2.2.2.2.1) 5 Rx.2.2.2.2.2.1) 34 Rx.2.2.2.2.2.2.2) xb xq) C1 := by rw [hC1]; exact HAS.of kX_nd
  have hM1 : HAS (kM 79) (wMM G b mi mj ma mb) C1 := by rw [hC1]; exact hM.out M_no_X
  have hLw1 : LAWS G b C1 nl LL := by rw [hC1]; exact hLw.outX
  have hCm := mX12_annul (G := G) (b := b) (o := 79) (c0 := C1) (n := n1) (a_images := (ma 2)) (a_isKept := (ma 3)) (a_tape := (ma 4)) (v_taped := (mi 2)) (v_from := (mi 3)) (v_to := (mi 4)) (v_sort := (mi 5)) (v_worth := (mj 0)) (v_fault := (mi 6)) (v_bad := (mi 7)) (v_nClauses := (mi 8)) (a_nClause := (ma 5)) (v_nCode := (mi 9)) (a_nOp := (ma 6)) (a_nArg := (ma 7)) (v_nLeaves := (mi 10)) (a_pile := (ma 8)) (a_pileAt := (ma 9)) (v_piled := (mi 11)) (v_opened := (mi 12)) (a_words := (mb 0)) (a_headWords := (mb 1)) (v_law := (mi 13)) (a_set := (mb 2)) (a_rest := (mb 3)) (v_broken := (mi 14)) (v_value := (mj 1)) (v_sum := (mj 2)) (a_chances := (ma 10)) (a_votes := (mb 4)) (a_costs := (ma 11)) (a_table := (mb 5)) (a_prices := (ma 12)) (v_surely := (mj 3)) (a_mostBy := (mb 6)) (a_leastBy := (mb 7)) (v_between := (mj 4)) (v_steadyWays := (mi 15)) (v_quashed := (mi 16)) (v_but := (mi 17)) (a_figures := (ma 13)) (a_all := (ma 14)) (a_lies := (ma 15)) (a_since := (ma 16)) (v_last := (mi 18)) (v_state := (mj 5)) (v_thrown := (mi 0)) (v_status := (mi 1)) (a_refusals := (ma 0)) (a_row := (ma 1)) (e_wf_M (by omega)) hfm
  rw [hM1.ov] at hCm
  refine ⟨⟨by omega, _, hM1 0 79 _ rfl rfl⟩, ⟨_, rfl⟩, _, hCm, ?_⟩
  rintro v2 C2 n2 ⟨rfl, hC2, rfl⟩
  have hX2 : HAS kX (wX G b (va_up (va_up (va_up xi 2 Rx.2.1) 8 Rx.2.2.1) 36 Rx.2.2.2.2.2.2.1) xj (va_up (va_up (va_up (va_up xa 3 Rx.2.2.2.1) 4 Rx.2.2.2.2.1) 5 Rx.2.2.2.2.2.1) 34 Rx.2.2.2.2.2.2.2) xb xq) C2 := by rw [hC2]; exact hX1.out X_no_M
  have hM2 : HAS (kM 79) (wMM G b (va_up (va_up mi 0 Rm.2.1) 1 Rm.2.2.1) mj (va_up (va_up ma 0 Rm.2.2.2.1) 1 Rm.2.2.2.2) mb) C2 := by rw [hC2]; exact HAS.of kM_nd
  have hLw2 : LAWS G b C2 nl LL := by rw [hC2]; exact hLw1.outM
  exact ⟨congrArg (fun z => some (Value.int z)) hv.symm, (va_up (va_up (va_up xi 2 Rx.2.1) 8 Rx.2.2.1) 36 Rx.2.2.2.2.2.2.1), xj, (va_up (va_up (va_up (va_up xa 3 Rx.2.2.2.1) 4 Rx.2.2.2.2.1) 5 Rx.2.2.2.2.2.1) 34 Rx.2.2.2.2.2.2.2), xb, xq, (va_up (va_up mi 0 Rm.2.1) 1 Rm.2.2.1), mj, (va_up (va_up ma 0 Rm.2.2.2.1) 1 Rm.2.2.2.2), mb, nl, LL, y', LO2, hX2, hM2, hn, hLw2, h1, hW2, hx2, hB2, hLO2, hI0, hI1, hK, hr, hTP, hFP, hQU, hLY, hCI2, hBT, hWD, hHW, hQ0, hQ1, hQ2⟩
set_option maxHeartbeats 4000000 in
set_option maxRecDepth 100000 in
theorem s_of {G : GT} {b : Nat} : S2 G b (INV G b) := by
  intro p1 p2
  intro c n hI
  obtain ⟨xi, xj, xa, xb, xq, mi, mj, ma, mb, nl, LL, y, LO, hX, hM, hn, hLw, hRM, hWF, hRX, hB, hLO, hI0, hI1, hK, hRR, hTP, hFP, hQU, hLY, hCI, hBT, hWD, hHW, hQ0, hQ1, hQ2⟩ := hI
  obtain ⟨Fu, hFu⟩ : ∃ Fu : Nat, 6000 ≤ Fu := ⟨6000, Nat.le_refl _⟩
  obtain ⟨Rx, Rm, hfx, hfm, hv⟩ := q_of (thrown := (mi 0)) hRM hWF hRX p1 p2
  have hC := mX11_of (G := G) (b := b) (c0 := c) (n := n) (v0_faultPlace := (xi 0)) (v0_quashedRows := (xi 1)) (v0_lastRefusal := (xi 2)) (v1_meals := (xi 4)) (v1_seats := (xi 5)) (v1_laws := (xi 6)) (v1_inForce := (xi 7)) (v1_beasts := (xi 3)) (a2 := (xa 0)) ((e_wf_X (by omega)).pick [0, 1, 2] rfl (by decide)) hfx
  rw [hX.sub kX_nd [0, 1, 2] rfl rfl] at hC
  refine ⟨1, by decide, _, hC, ?_⟩
  rintro v C1 n1 ⟨rfl, hC1, rfl⟩
  have hX1 : HAS kX (wX G b xi xj xa xb xq) C1 := by rw [hC1]; exact hX
  have hM1 : HAS (kM 79) (wMM G b mi mj ma mb) C1 := by rw [hC1]; exact hM
  have hLw1 : LAWS G b C1 nl LL := by rw [hC1]; exact hLw
  have hCm := mX12_of (G := G) (b := b) (o := 79) (c0 := C1) (n := n1) (v_status := (mi 1)) (a_refusals := (ma 0)) (a_images := (ma 2)) (a_isKept := (ma 3)) (a_tape := (ma 4)) (v_taped := (mi 2)) (v_from := (mi 3)) (v_to := (mi 4)) (v_sort := (mi 5)) (v_worth := (mj 0)) (v_fault := (mi 6)) (v_bad := (mi 7)) (v_nClauses := (mi 8)) (a_nClause := (ma 5)) (v_nCode := (mi 9)) (a_nOp := (ma 6)) (a_nArg := (ma 7)) (v_nLeaves := (mi 10)) (a_pile := (ma 8)) (a_pileAt := (ma 9)) (v_piled := (mi 11)) (v_opened := (mi 12)) (a_words := (mb 0)) (a_headWords := (mb 1)) (v_law := (mi 13)) (a_set := (mb 2)) (a_rest := (mb 3)) (v_broken := (mi 14)) (v_value := (mj 1)) (v_sum := (mj 2)) (a_chances := (ma 10)) (a_votes := (mb 4)) (a_costs := (ma 11)) (a_table := (mb 5)) (a_prices := (ma 12)) (v_surely := (mj 3)) (a_mostBy := (mb 6)) (a_leastBy := (mb 7)) (v_between := (mj 4)) (v_steadyWays := (mi 15)) (v_quashed := (mi 16)) (v_but := (mi 17)) (a_figures := (ma 13)) (a_all := (ma 14)) (a_lies := (ma 15)) (a_since := (ma 16)) (v_last := (mi 18)) (v_state := (mj 5)) (v_thrown := (mi 0)) (a_row := (ma 1)) (e_wf_M (by omega)) hfm
  rw [hM1.ov] at hCm
  refine ⟨⟨by omega, _, hM1 0 79 _ rfl rfl⟩, ⟨_, rfl⟩, _, hCm, ?_⟩
  rintro v2 C2 n2 ⟨rfl, hC2, rfl⟩
  have hX2 : HAS kX (wX G b xi xj xa xb xq) C2 := by rw [hC2]; exact hX1.out X_no_M
  have hM2 : HAS (kM 79) (wMM G b (va_up mi 0 Rm.2) mj ma mb) C2 := by rw [hC2]; exact HAS.of kM_nd
  have hLw2 : LAWS G b C2 nl LL := by rw [hC2]; exact hLw1.outM
  exact ⟨congrArg (fun z => some (Value.int z)) hv.symm, xi, xj, xa, xb, xq, (va_up mi 0 Rm.2), mj, ma, mb, nl, LL, y, LO, hX2, hM2, hn, hLw2, hRM, hWF, hRX, hB, hLO, hI0, hI1, hK, hRR, hTP, hFP, hQU, hLY, hCI, hBT, hWD, hHW, hQ0, hQ1, hQ2⟩
set_option maxHeartbeats 4000000 in
set_option maxRecDepth 100000 in
theorem s_hunger {G : GT} {b : Nat} : S5 G b (INV G b) := by
  intro p1 p2
  intro c n hI
  obtain ⟨xi, xj, xa, xb, xq, mi, mj, ma, mb, nl, LL, y, LO, hX, hM, hn, hLw, hRM, hWF, hRX, hB, hLO, hI0, hI1, hK, hRR, hTP, hFP, hQU, hLY, hCI, hBT, hWD, hHW, hQ0, hQ1, hQ2⟩ := hI
  obtain ⟨Fu, hFu⟩ : ∃ Fu : Nat, 6000 ≤ Fu := ⟨6000, Nat.le_refl _⟩
  obtain ⟨Rx, Rm, hfx, hfm, hv⟩ := q_hunger (thrown := (mi 0)) hFu hRM hWF hRX p1 p2
  have hC := mX11_hunger (G := G) (b := b) (c0 := c) (n := n) (v0_faultPlace := (xi 0)) (v0_quashedRows := (xi 1)) (v0_lastRefusal := (xi 2)) (v1_meals := (xi 4)) (v1_seats := (xi 5)) (v1_laws := (xi 6)) (v1_inForce := (xi 7)) (v1_beasts := (xi 3)) (a2 := (xa 0)) (a3 := (xa 1)) ((e_wf_X (by omega)).pick [0, 1, 2, 3] rfl (by decide)) hfx
  rw [hX.sub kX_nd [0, 1, 2, 3] rfl rfl] at hC
  refine ⟨2, by decide, _, hC, ?_⟩
  rintro v C1 n1 ⟨rfl, hC1, rfl⟩
  have hX1 : HAS kX (wX G b xi xj xa xb xq) C1 := by rw [hC1]; exact hX
  have hM1 : HAS (kM 79) (wMM G b mi mj ma mb) C1 := by rw [hC1]; exact hM
  have hLw1 : LAWS G b C1 nl LL := by rw [hC1]; exact hLw
  have hCm := mX12_hunger (G := G) (b := b) (o := 79) (c0 := C1) (n := n1) (v_status := (mi 1)) (a_refusals := (ma 0)) (a_images := (ma 2)) (a_isKept := (ma 3)) (a_tape := (ma 4)) (v_taped := (mi 2)) (v_from := (mi 3)) (v_to := (mi 4)) (v_sort := (mi 5)) (v_worth := (mj 0)) (v_fault := (mi 6)) (v_bad := (mi 7)) (v_nClauses := (mi 8)) (a_nClause := (ma 5)) (v_nCode := (mi 9)) (a_nOp := (ma 6)) (a_nArg := (ma 7)) (v_nLeaves := (mi 10)) (a_pile := (ma 8)) (a_pileAt := (ma 9)) (v_piled := (mi 11)) (v_opened := (mi 12)) (a_words := (mb 0)) (a_headWords := (mb 1)) (v_law := (mi 13)) (a_set := (mb 2)) (a_rest := (mb 3)) (v_broken := (mi 14)) (v_value := (mj 1)) (v_sum := (mj 2)) (a_chances := (ma 10)) (a_votes := (mb 4)) (a_costs := (ma 11)) (a_table := (mb 5)) (a_prices := (ma 12)) (v_surely := (mj 3)) (a_mostBy := (mb 6)) (a_leastBy := (mb 7)) (v_between := (mj 4)) (v_steadyWays := (mi 15)) (v_quashed := (mi 16)) (v_but := (mi 17)) (a_figures := (ma 13)) (a_all := (ma 14)) (a_lies := (ma 15)) (a_since := (ma 16)) (v_last := (mi 18)) (v_state := (mj 5)) (v_thrown := (mi 0)) (a_row := (ma 1)) (e_wf_M (by omega)) hfm
  rw [hM1.ov] at hCm
  refine ⟨⟨by omega, _, hM1 0 79 _ rfl rfl⟩, ⟨_, rfl⟩, _, hCm, ?_⟩
  rintro v2 C2 n2 ⟨rfl, hC2, rfl⟩
  have hX2 : HAS kX (wX G b xi xj xa xb xq) C2 := by rw [hC2]; exact hX1.out X_no_M
  have hM2 : HAS (kM 79) (wMM G b (va_up mi 0 Rm.2) mj ma mb) C2 := by rw [hC2]; exact HAS.of kM_nd
  have hLw2 : LAWS G b C2 nl LL := by rw [hC2]; exact hLw1.outM
  exact ⟨congrArg (fun z => some (Value.int z)) hv.symm, xi, xj, xa, xb, xq, (va_up mi 0 Rm.2), mj, ma, mb, nl, LL, y, LO, hX2, hM2, hn, hLw2, hRM, hWF, hRX, hB, hLO, hI0, hI1, hK, hRR, hTP, hFP, hQU, hLY, hCI, hBT, hWD, hHW, hQ0, hQ1, hQ2⟩
set_option maxHeartbeats 4000000 in
set_option maxRecDepth 100000 in
theorem s_fast {G : GT} {b : Nat} : S4 G b (INV G b) := by
  intro c n hI
  obtain ⟨xi, xj, xa, xb, xq, mi, mj, ma, mb, nl, LL, y, LO, hX, hM, hn, hLw, hRM, hWF, hRX, hB, hLO, hI0, hI1, hK, hRR, hTP, hFP, hQU, hLY, hCI, hBT, hWD, hHW, hQ0, hQ1, hQ2⟩ := hI
  obtain ⟨Fu, hFu⟩ : ∃ Fu : Nat, 6000 ≤ Fu := ⟨6000, Nat.le_refl _⟩
  obtain ⟨Rx, Rm, y', hfx, hfm, hv, h1, hW2, hx2, hE, hk⟩ := q_fast (known := (xi 36)) (thrown := (mi 0)) hFu hRM hWF hRX
  have hB2 := hB.eqL hE
  obtain ⟨LO2, hLO2, hCI2⟩ := nxtLO hW2 hB2 (Or.inl hk) hLO hCI
  have hC := mX11_fast (G := G) (b := b) (c0 := c) (n := n) (v0_faultPlace := (xi 0)) (v0_quashedRows := (xi 1)) (v0_lastRefusal := (xi 2)) (v1_beasts := (xi 3)) (v1_seats := (xi 5)) (v1_laws := (xi 6)) (v1_inForce := (xi 7)) (v42_beasts := (xi 32)) (v42_seats := (xi 33)) (v42_seated := (xi 34)) (v42_quota := (xi 35)) (v42_surveyed := (xi 37)) (v42_steadyBench := (xi 38)) (v42_steadyWays := (xi 39)) (v42_steadySwing := (xj 1)) (v1_meals := (xi 4)) (a3 := (xa 1)) (v42_known := (xi 36)) ((e_wf_X (by omega)).pick [0, 1, 3, 42] rfl (by decide)) hfx
  rw [hX.sub kX_nd [0, 1, 3, 42] rfl rfl, hX.back kX_nd rfl [0, 1, 3, 42] rfl (wF' := (wX G b (va_up (va_up xi 4 Rx.2.1) 36 Rx.2.2.2) xj (va_up xa 1 Rx.2.2.1) xb xq)) rfl] at hC
  refine ⟨1, by decide, _, hC, ?_⟩
  rintro v C1 n1 ⟨rfl, hC1, rfl⟩
  have hX1 : HAS kX (wX G b (va_up (va_up xi 4 Rx.2.1) 36 Rx.2.2.2) xj (va_up xa 1 Rx.2.2.1) xb xq) C1 := by rw [hC1]; exact HAS.of kX_nd
  have hM1 : HAS (kM 79) (wMM G b mi mj ma mb) C1 := by rw [hC1]; exact hM.out M_no_X
  have hLw1 : LAWS G b C1 nl LL := by rw [hC1]; exact hLw.outX
  have hCm := mX12_fast (G := G) (b := b) (o := 79) (c0 := C1) (n := n1) (v_status := (mi 1)) (a_refusals := (ma 0)) (a_images := (ma 2)) (a_isKept := (ma 3)) (a_tape := (ma 4)) (v_taped := (mi 2)) (v_from := (mi 3)) (v_to := (mi 4)) (v_sort := (mi 5)) (v_worth := (mj 0)) (v_fault := (mi 6)) (v_bad := (mi 7)) (v_nClauses := (mi 8)) (a_nClause := (ma 5)) (v_nCode := (mi 9)) (a_nOp := (ma 6)) (a_nArg := (ma 7)) (v_nLeaves := (mi 10)) (a_pile := (ma 8)) (a_pileAt := (ma 9)) (v_piled := (mi 11)) (v_opened := (mi 12)) (a_words := (mb 0)) (a_headWords := (mb 1)) (v_law := (mi 13)) (a_set := (mb 2)) (a_rest := (mb 3)) (v_broken := (mi 14)) (v_value := (mj 1)) (v_sum := (mj 2)) (a_chances := (ma 10)) (a_votes := (mb 4)) (a_costs := (ma 11)) (a_table := (mb 5)) (a_prices := (ma 12)) (v_surely := (mj 3)) (a_mostBy := (mb 6)) (a_leastBy := (mb 7)) (v_between := (mj 4)) (v_steadyWays := (mi 15)) (v_quashed := (mi 16)) (v_but := (mi 17)) (a_figures := (ma 13)) (a_all := (ma 14)) (a_lies := (ma 15)) (a_since := (ma 16)) (v_last := (mi 18)) (v_state := (mj 5)) (v_thrown := (mi 0)) (a_row := (ma 1)) (e_wf_M (by omega)) hfm
  rw [hM1.ov] at hCm
  refine ⟨⟨by omega, _, hM1 0 79 _ rfl rfl⟩, ⟨_, rfl⟩, _, hCm, ?_⟩
  rintro v2 C2 n2 ⟨rfl, hC2, rfl⟩
  have hX2 : HAS kX (wX G b (va_up (va_up xi 4 Rx.2.1) 36 Rx.2.2.2) xj (va_up xa 1 Rx.2.2.1) xb xq) C2 := by rw [hC2]; exact hX1.out X_no_M
  have hM2 : HAS (kM 79) (wMM G b (va_up mi 0 Rm.2.1) mj (va_up ma 1 Rm.2.2) mb) C2 := by rw [hC2]; exact HAS.of kM_nd
  have hLw2 : LAWS G b C2 nl LL := by rw [hC2]; exact hLw1.outM
  exact ⟨congrArg (fun z => some (Value.int z)) hv.symm, (va_up (va_up xi 4 Rx.2.1) 36 Rx.2.2.2), xj, (va_up xa 1 Rx.2.2.1), xb, xq, (va_up mi 0 Rm.2.1), mj, (va_up ma 1 Rm.2.2), mb, nl, LL, y', LO2, hX2, hM2, hn, hLw2, h1, hW2, hx2, hB2, hLO2, hI0, hI1, hK, hRR, hTP, hFP, hQU, hLY, hCI2, hBT, hWD, hHW, hQ0, hQ1, hQ2⟩
set_option maxHeartbeats 4000000 in
set_option maxRecDepth 100000 in
theorem s_feed {G : GT} {b : Nat} : S8 G b (INV G b) := by
  intro p1 p2 p3 p4 p5
  intro c n hI
  obtain ⟨xi, xj, xa, xb, xq, mi, mj, ma, mb, nl, LL, y, LO, hX, hM, hn, hLw, hRM, hWF, hRX, hB, hLO, hI0, hI1, hK, hRR, hTP, hFP, hQU, hLY, hCI, hBT, hWD, hHW, hQ0, hQ1, hQ2⟩ := hI
  obtain ⟨Fu, hFu⟩ : ∃ Fu : Nat, 6000 ≤ Fu := ⟨6000, Nat.le_refl _⟩
  obtain ⟨Rx, Rm, hfx, hfm, hv, ht⟩ := q_feed (th := (mi 0)) hFu hTP p1 p2 p3 p4 p5
  have hC := mX11_feed (G := G) (b := b) (c0 := c) (n := n) (v0_faultPlace := (xi 0)) (v0_quashedRows := (xi 1)) (v0_lastRefusal := (xi 2)) (v30_length := (xi 21)) (a31 := (xa 19)) ((e_wf_X (by omega)).pick [0, 30, 31] rfl (by decide)) hfx
  rw [hX.sub kX_nd [0, 30, 31] rfl rfl, hX.back kX_nd rfl [0, 30, 31] rfl (wF' := (wX G b (va_up xi 21 Rx.2.1) xj (va_up xa 19 Rx.2.2) xb xq)) rfl] at hC
  refine ⟨1, by decide, _, hC, ?_⟩
  rintro v C1 n1 ⟨rfl, hC1, rfl⟩
  have hX1 : HAS kX (wX G b (va_up xi 21 Rx.2.1) xj (va_up xa 19 Rx.2.2) xb xq) C1 := by rw [hC1]; exact HAS.of kX_nd
  have hM1 : HAS (kM 79) (wMM G b mi mj ma mb) C1 := by rw [hC1]; exact hM.out M_no_X
  have hLw1 : LAWS G b C1 nl LL := by rw [hC1]; exact hLw.outX
  have hCm := mX12_feed (G := G) (b := b) (o := 79) (c0 := C1) (n := n1) (v_status := (mi 1)) (a_refusals := (ma 0)) (a_row := (ma 1)) (a_images := (ma 2)) (a_isKept := (ma 3)) (v_from := (mi 3)) (v_to := (mi 4)) (v_sort := (mi 5)) (v_worth := (mj 0)) (v_fault := (mi 6)) (v_bad := (mi 7)) (v_nClauses := (mi 8)) (a_nClause := (ma 5)) (v_nCode := (mi 9)) (a_nOp := (ma 6)) (a_nArg := (ma 7)) (v_nLeaves := (mi 10)) (a_pile := (ma 8)) (a_pileAt := (ma 9)) (v_piled := (mi 11)) (v_opened := (mi 12)) (a_words := (mb 0)) (a_headWords := (mb 1)) (v_law := (mi 13)) (a_set := (mb 2)) (a_rest := (mb 3)) (v_broken := (mi 14)) (v_value := (mj 1)) (v_sum := (mj 2)) (a_chances := (ma 10)) (a_votes := (mb 4)) (a_costs := (ma 11)) (a_table := (mb 5)) (a_prices := (ma 12)) (v_surely := (mj 3)) (a_mostBy := (mb 6)) (a_leastBy := (mb 7)) (v_between := (mj 4)) (v_steadyWays := (mi 15)) (v_quashed := (mi 16)) (v_but := (mi 17)) (a_figures := (ma 13)) (a_all := (ma 14)) (a_lies := (ma 15)) (a_since := (ma 16)) (v_last := (mi 18)) (v_state := (mj 5)) (v_thrown := (mi 0)) (a_tape := (ma 4)) (v_taped := (mi 2)) (e_wf_M (by omega)) hfm
  rw [hM1.ov] at hCm
  refine ⟨⟨by omega, _, hM1 0 79 _ rfl rfl⟩, ⟨_, rfl⟩, _, hCm, ?_⟩
  rintro v2 C2 n2 ⟨rfl, hC2, rfl⟩
  have hX2 : HAS kX (wX G b (va_up xi 21 Rx.2.1) xj (va_up xa 19 Rx.2.2) xb xq) C2 := by rw [hC2]; exact hX1.out X_no_M
  have hM2 : HAS (kM 79) (wMM G b (va_up (va_up mi 0 Rm.2.1) 2 Rm.2.2.2) mj (va_up ma 4 Rm.2.2.1) mb) C2 := by rw [hC2]; exact HAS.of kM_nd
  have hLw2 : LAWS G b C2 nl LL := by rw [hC2]; exact hLw1.outM
  exact ⟨congrArg (fun z => some (Value.int z)) hv.symm, (va_up xi 21 Rx.2.1), xj, (va_up xa 19 Rx.2.2), xb, xq, (va_up (va_up mi 0 Rm.2.1) 2 Rm.2.2.2), mj, (va_up ma 4 Rm.2.2.1), mb, nl, LL, y, LO, hX2, hM2, hn, hLw2, hRM, hWF, hRX, hB, hLO, hI0, hI1, hK, hRR, ht, hFP, hQU, hLY, hCI, hBT, hWD, hHW, hQ0, hQ1, hQ2⟩
set_option maxHeartbeats 4000000 in
set_option maxRecDepth 100000 in
theorem s_end {G : GT} {b : Nat} : S9 G b (INV G b) := by
  intro p1
  intro c n hI
  obtain ⟨xi, xj, xa, xb, xq, mi, mj, ma, mb, nl, LL, y, LO, hX, hM, hn, hLw, hRM, hWF, hRX, hB, hLO, hI0, hI1, hK, hRR, hTP, hFP, hQU, hLY, hCI, hBT, hWD, hHW, hQ0, hQ1, hQ2⟩ := hI
  obtain ⟨Fu, hFu⟩ : ∃ Fu : Nat, 6000 ≤ Fu := ⟨6000, Nat.le_refl _⟩
  obtain ⟨Rx, Rm, hfx, hfm, hv, ht⟩ := q_end (th := (mi 0)) hTP p1
  have hC := mX11_end (G := G) (b := b) (c0 := c) (n := n) (v0_faultPlace := (xi 0)) (v0_quashedRows := (xi 1)) (v0_lastRefusal := (xi 2)) (v30_length := (xi 21)) ((e_wf_X (by omega)).pick [0, 30] rfl (by decide)) hfx
  rw [hX.sub kX_nd [0, 30] rfl rfl, hX.back kX_nd rfl [0, 30] rfl (wF' := (wX G b (va_up xi 21 Rx.2) xj xa xb xq)) rfl] at hC
  refine ⟨0, by decide, _, hC, ?_⟩
  rintro v C1 n1 ⟨rfl, hC1, rfl⟩
  have hX1 : HAS kX (wX G b (va_up xi 21 Rx.2) xj xa xb xq) C1 := by rw [hC1]; exact HAS.of kX_nd
  have hM1 : HAS (kM 79) (wMM G b mi mj ma mb) C1 := by rw [hC1]; exact hM.out M_no_X
  have hLw1 : LAWS G b C1 nl LL := by rw [hC1]; exact hLw.outX
  have hCm := mX12_end (G := G) (b := b) (o := 79) (c0 := C1) (n := n1) (v_status := (mi 1)) (a_refusals := (ma 0)) (a_row := (ma 1)) (a_images := (ma 2)) (a_isKept := (ma 3)) (a_tape := (ma 4)) (v_from := (mi 3)) (v_to := (mi 4)) (v_sort := (mi 5)) (v_worth := (mj 0)) (v_fault := (mi 6)) (v_bad := (mi 7)) (v_nClauses := (mi 8)) (a_nClause := (ma 5)) (v_nCode := (mi 9)) (a_nOp := (ma 6)) (a_nArg := (ma 7)) (v_nLeaves := (mi 10)) (a_pile := (ma 8)) (a_pileAt := (ma 9)) (v_piled := (mi 11)) (v_opened := (mi 12)) (a_words := (mb 0)) (a_headWords := (mb 1)) (v_law := (mi 13)) (a_set := (mb 2)) (a_rest := (mb 3)) (v_broken := (mi 14)) (v_value := (mj 1)) (v_sum := (mj 2)) (a_chances := (ma 10)) (a_votes := (mb 4)) (a_costs := (ma 11)) (a_table := (mb 5)) (a_prices := (ma 12)) (v_surely := (mj 3)) (a_mostBy := (mb 6)) (a_leastBy := (mb 7)) (v_between := (mj 4)) (v_steadyWays := (mi 15)) (v_quashed := (mi 16)) (v_but := (mi 17)) (a_figures := (ma 13)) (a_all := (ma 14)) (a_lies := (ma 15)) (a_since := (ma 16)) (v_last := (mi 18)) (v_state := (mj 5)) (v_thrown := (mi 0)) (v_taped := (mi 2)) (e_wf_M (by omega)) hfm
  rw [hM1.ov] at hCm
  refine ⟨⟨by omega, _, hM1 0 79 _ rfl rfl⟩, ⟨_, rfl⟩, _, hCm, ?_⟩
  rintro v2 C2 n2 ⟨rfl, hC2, rfl⟩
  have hX2 : HAS kX (wX G b (va_up xi 21 Rx.2) xj xa xb xq) C2 := by rw [hC2]; exact hX1.out X_no_M
  have hM2 : HAS (kM 79) (wMM G b (va_up (va_up mi 0 Rm.2.1) 2 Rm.2.2) mj ma mb) C2 := by rw [hC2]; exact HAS.of kM_nd
  have hLw2 : LAWS G b C2 nl LL := by rw [hC2]; exact hLw1.outM
  exact ⟨congrArg (fun z => some (Value.int z)) hv.symm, (va_up xi 21 Rx.2), xj, xa, xb, xq, (va_up (va_up mi 0 Rm.2.1) 2 Rm.2.2), mj, ma, mb, nl, LL, y, LO, hX2, hM2, hn, hLw2, hRM, hWF, hRX, hB, hLO, hI0, hI1, hK, hRR, ht, hFP, hQU, hLY, hCI, hBT, hWD, hHW, hQ0, hQ1, hQ2⟩
set_option maxHeartbeats 4000000 in
set_option maxRecDepth 100000 in
theorem s_row {G : GT} {b : Nat} : S10 G b (INV G b) := by
  intro c n hI
  obtain ⟨xi, xj, xa, xb, xq, mi, mj, ma, mb, nl, LL, y, LO, hX, hM, hn, hLw, hRM, hWF, hRX, hB, hLO, hI0, hI1, hK, hRR, hTP, hFP, hQU, hLY, hCI, hBT, hWD, hHW, hQ0, hQ1, hQ2⟩ := hI
  obtain ⟨Fu, hFu⟩ : ∃ Fu : Nat, 6000 ≤ Fu := ⟨6000, Nat.le_refl _⟩
  obtain ⟨Rx, Rm, y', hfx, hfm, hv, hq, hr, h1, hW2, hx2, hE, ht, hk⟩ := q_row (known := (xi 36)) (th := (mi 0)) hFu hRM hWF hRX hRR hTP hQU
  have hB2 := hB.eqL hE
  obtain ⟨LO2, hLO2, hCI2⟩ := nxtLO hW2 hB2 (hk.imp id (fun h => ⟨h.1, h.2, rfl⟩)) hLO hCI
  have hC := mX11_row (G := G) (b := b) (c0 := c) (n := n) (v0_faultPlace := (xi 0)) (v1_beasts := (xi 3)) (v1_meals := (xi 4)) (v1_seats := (xi 5)) (v1_laws := (xi 6)) (v1_inForce := (xi 7)) (v42_beasts := (xi 32)) (v42_seats := (xi 33)) (v42_seated := (xi 34)) (v42_quota := (xi 35)) (v42_surveyed := (xi 37)) (v42_steadyBench := (xi 38)) (v42_steadyWays := (xi 39)) (v42_steadySwing := (xj 1)) (v0_quashedRows := (xi 1)) (v0_lastRefusal := (xi 2)) (v6_cases := (xi 8)) (a7 := (xa 3)) (a8 := (xa 4)) (a9 := (xa 5)) (v30_length := (xi 21)) (a31 := (xa 19)) (v42_known := (xi 36)) (a78 := (xa 34)) ((e_wf_X (by omega)).pick [0, 1, 6, 7, 8, 9, 30, 31, 42, 78] rfl (by decide)) hfx
  rw [hX.sub kX_nd [0, 1, 6, 7, 8, 9, 30, 31, 42, 78] rfl rfl, hX.back kX_nd rfl [0, 1, 6, 7, 8, 9, 30, 31, 42, 78] rfl (wF' := (wX G b (va_up (va_up (va_up (va_up (va_up xi 1 Rx.2.1) 2 Rx.2.2.1) 8 Rx.2.2.2.1) 21 Rx.2.2.2.2.2.2.2.1) 36 Rx.2.2.2.2.2.2.2.2.1) xj (va_up (va_up (va_up (va_up xa 3 Rx.2.2.2.2.1) 4 Rx.2.2.2.2.2.1) 5 Rx.2.2.2.2.2.2.1) 34 Rx.2.2.2.2.2.2.2.2.2) xb xq)) rfl] at hC
  refine ⟨2, by decide, _, hC, ?_⟩
  rintro v C1 n1 ⟨rfl, hC1, rfl⟩
  have hX1 : HAS kX (wX G b (va_up (va_up (va_up (va_up (va_up xi 1 Rx.2.1) 2 Rx.2.2.1) 8 Rx.2.2.2.1) 21 Rx.2.2.2.2.2.2.2.1) 36 Rx.2.2.2.2.2.2.2.2.1) xj (va_up (va_up (va_up (va_up xa 3 Rx.2.2.2.2.1) 4 Rx.2.2.2.2.2.1) 5 Rx.2.2.2.2.2.2.1) 34 Rx.2.2.2.2.2.2.2.2.2) xb xq) C1 := by rw [hC1]; exact HAS.of kX_nd
  have hM1 : HAS (kM 79) (wMM G b mi mj ma mb) C1 := by rw [hC1]; exact hM.out M_no_X
  have hLw1 : LAWS G b C1 nl LL := by rw [hC1]; exact hLw.outX
  have hCm := mX12_row (G := G) (b := b) (o := 79) (c0 := C1) (n := n1) (a_images := (ma 2)) (a_isKept := (ma 3)) (v_from := (mi 3)) (v_to := (mi 4)) (v_sort := (mi 5)) (v_worth := (mj 0)) (v_fault := (mi 6)) (v_bad := (mi 7)) (v_nClauses := (mi 8)) (a_nClause := (ma 5)) (v_nCode := (mi 9)) (a_nOp := (ma 6)) (a_nArg := (ma 7)) (v_nLeaves := (mi 10)) (a_pile := (ma 8)) (a_pileAt := (ma 9)) (v_piled := (mi 11)) (v_opened := (mi 12)) (a_words := (mb 0)) (a_headWords := (mb 1)) (v_law := (mi 13)) (a_set := (mb 2)) (a_rest := (mb 3)) (v_broken := (mi 14)) (v_value := (mj 1)) (v_sum := (mj 2)) (a_chances := (ma 10)) (a_votes := (mb 4)) (a_costs := (ma 11)) (a_table := (mb 5)) (a_prices := (ma 12)) (v_surely := (mj 3)) (a_mostBy := (mb 6)) (a_leastBy := (mb 7)) (v_between := (mj 4)) (v_steadyWays := (mi 15)) (v_but := (mi 17)) (a_figures := (ma 13)) (a_all := (ma 14)) (a_lies := (ma 15)) (a_since := (ma 16)) (v_last := (mi 18)) (v_state := (mj 5)) (v_thrown := (mi 0)) (v_status := (mi 1)) (a_refusals := (ma 0)) (a_row := (ma 1)) (a_tape := (ma 4)) (v_taped := (mi 2)) (v_quashed := (mi 16)) (e_wf_M (by omega)) hfm
  rw [hM1.ov] at hCm
  refine ⟨⟨by omega, _, hM1 0 79 _ rfl rfl⟩, ⟨_, rfl⟩, _, hCm, ?_⟩
  rintro v2 C2 n2 ⟨rfl, hC2, rfl⟩
  have hX2 : HAS kX (wX G b (va_up (va_up (va_up (va_up (va_up xi 1 Rx.2.1) 2 Rx.2.2.1) 8 Rx.2.2.2.1) 21 Rx.2.2.2.2.2.2.2.1) 36 Rx.2.2.2.2.2.2.2.2.1) xj (va_up (va_up (va_up (va_up xa 3 Rx.2.2.2.2.1) 4 Rx.2.2.2.2.2.1) 5 Rx.2.2.2.2.2.2.1) 34 Rx.2.2.2.2.2.2.2.2.2) xb xq) C2 := by rw [hC2]; exact hX1.out X_no_M
  have hM2 : HAS (kM 79) (wMM G b (va_up (va_up (va_up (va_up mi 0 Rm.2.1) 1 Rm.2.2.1) 2 Rm.2.2.2.2.2.1) 16 Rm.2.2.2.2.2.2) mj (va_up (va_up ma 0 Rm.2.2.2.1) 1 Rm.2.2.2.2.1) mb) C2 := by rw [hC2]; exact HAS.of kM_nd
  have hLw2 : LAWS G b C2 nl LL := by rw [hC2]; exact hLw1.outM
  exact ⟨congrArg (fun z => some (Value.int z)) hv.symm, (va_up (va_up (va_up (va_up (va_up xi 1 Rx.2.1) 2 Rx.2.2.1) 8 Rx.2.2.2.1) 21 Rx.2.2.2.2.2.2.2.1) 36 Rx.2.2.2.2.2.2.2.2.1), xj, (va_up (va_up (va_up (va_up xa 3 Rx.2.2.2.2.1) 4 Rx.2.2.2.2.2.1) 5 Rx.2.2.2.2.2.2.1) 34 Rx.2.2.2.2.2.2.2.2.2), xb, xq, (va_up (va_up (va_up (va_up mi 0 Rm.2.1) 1 Rm.2.2.1) 2 Rm.2.2.2.2.2.1) 16 Rm.2.2.2.2.2.2), mj, (va_up (va_up ma 0 Rm.2.2.2.1) 1 Rm.2.2.2.2.1), mb, nl, LL, y', LO2, hX2, hM2, hn, hLw2, h1, hW2, hx2, hB2, hLO2, hI0, hI1, hK, hr, ht, hFP, hq, hLY, hCI2, hBT, hWD, hHW, hQ0, hQ1, hQ2⟩
