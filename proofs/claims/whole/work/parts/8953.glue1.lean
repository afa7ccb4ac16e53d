set_option maxHeartbeats 4000000 in
set_option maxRecDepth 100000 in
theorem s_quashed {G : GT} {b : Nat} : S11 G b (INV G b) := by
  intro c n hI
  obtain ⟨xi, xj, xa, xb, xq, mi, mj, ma, mb, nl, LL, y, LO, hX, hM, hn, hLw, hRM, hWF, hRX, hB, hLO, hI0, hI1, hK, hRR, hTP, hFP, hQU, hLY, hCI, hBT, hWD, hHW, hQ0, hQ1, hQ2⟩ := hI
  obtain ⟨Fu, hFu⟩ : ∃ Fu : Nat, 6000 ≤ Fu := ⟨6000, Nat.le_refl _⟩
  obtain ⟨Rx, hfx, hrx⟩ : ∃ R, fX11_quashed (xi 1) = some R ∧ R = (xi 1) := ⟨_, rfl, rfl⟩
  obtain ⟨Rm, hfm, hrm⟩ : ∃ R, fX12_quashed (mi 0) (mi 16) = some R ∧ R.1 = (mi 16) := ⟨_, rfl, rfl⟩
  have hv : Rx = Rm.1 := by rw [hrx, hrm]; exact hQU
  have hC := mX11_quashed (G := G) (b := b) (c0 := c) (n := n) (v0_faultPlace := (xi 0)) (v0_lastRefusal := (xi 2)) (v0_quashedRows := (xi 1)) ((e_wf_X (by omega)).pick [0] rfl (by decide)) hfx
  rw [hX.sub kX_nd [0] rfl rfl] at hC
  refine ⟨0, by decide, _, hC, ?_⟩
  rintro v C1 n1 ⟨rfl, hC1, rfl⟩
  have hX1 : HAS kX (wX G b xi xj xa xb xq) C1 := by rw [hC1]; exact hX
  have hM1 : HAS (kM 79) (wMM G b mi mj ma mb) C1 := by rw [hC1]; exact hM
  have hLw1 : LAWS G b C1 nl LL := by rw [hC1]; exact hLw
  have hCm := mX12_quashed (G := G) (b := b) (o := 79) (c0 := C1) (n := n1) (v_status := (mi 1)) (a_refusals := (ma 0)) (a_row := (ma 1)) (a_images := (ma 2)) (a_isKept := (ma 3)) (a_tape := (ma 4)) (v_taped := (mi 2)) (v_from := (mi 3)) (v_to := (mi 4)) (v_sort := (mi 5)) (v_worth := (mj 0)) (v_fault := (mi 6)) (v_bad := (mi 7)) (v_nClauses := (mi 8)) (a_nClause := (ma 5)) (v_nCode := (mi 9)) (a_nOp := (ma 6)) (a_nArg := (ma 7)) (v_nLeaves := (mi 10)) (a_pile := (ma 8)) (a_pileAt := (ma 9)) (v_piled := (mi 11)) (v_opened := (mi 12)) (a_words := (mb 0)) (a_headWords := (mb 1)) (v_law := (mi 13)) (a_set := (mb 2)) (a_rest := (mb 3)) (v_broken := (mi 14)) (v_value := (mj 1)) (v_sum := (mj 2)) (a_chances := (ma 10)) (a_votes := (mb 4)) (a_costs := (ma 11)) (a_table := (mb 5)) (a_prices := (ma 12)) (v_surely := (mj 3)) (a_mostBy := (mb 6)) (a_leastBy := (mb 7)) (v_between := (mj 4)) (v_steadyWays := (mi 15)) (v_but := (mi 17)) (a_figures := (ma 13)) (a_all := (ma 14)) (a_lies := (ma 15)) (a_since := (ma 16)) (v_last := (mi 18)) (v_state := (mj 5)) (v_thrown := (mi 0)) (v_quashed := (mi 16)) (e_wf_M (by omega)) hfm
  rw [hM1.ov] at hCm
  refine ⟨⟨by omega, _, hM1 0 79 _ rfl rfl⟩, ⟨_, rfl⟩, _, hCm, ?_⟩
  rintro v2 C2 n2 ⟨rfl, hC2, rfl⟩
  have hX2 : HAS kX (wX G b xi xj xa xb xq) C2 := by rw [hC2]; exact hX1.out X_no_M
  have hM2 : HAS (kM 79) (wMM G b (va_up mi 0 Rm.2) mj ma mb) C2 := by rw [hC2]; exact HAS.of kM_nd
  have hLw2 : LAWS G b C2 nl LL := by rw [hC2]; exact hLw1.outM
  exact ⟨congrArg (fun z => some (Value.int z)) hv.symm, xi, xj, xa, xb, xq, (va_up mi 0 Rm.2), mj, ma, mb, nl, LL, y, LO, hX2, hM2, hn, hLw2, hRM, hWF, hRX, hB, hLO, hI0, hI1, hK, hRR, hTP, hFP, hQU, hLY, hCI, hBT, hWD, hHW, hQ0, hQ1, hQ2⟩
set_option maxHeartbeats 4000000 in
set_option maxRecDepth 100000 in
theorem s_fault {G : GT} {b : Nat} : S13 G b (INV G b) := by
  intro c n hI
  obtain ⟨xi, xj, xa, xb, xq, mi, mj, ma, mb, nl, LL, y, LO, hX, hM, hn, hLw, hRM, hWF, hRX, hB, hLO, hI0, hI1, hK, hRR, hTP, hFP, hQU, hLY, hCI, hBT, hWD, hHW, hQ0, hQ1, hQ2⟩ := hI
  obtain ⟨Fu, hFu⟩ : ∃ Fu : Nat, 6000 ≤ Fu := ⟨6000, Nat.le_refl _⟩
  obtain ⟨Rx, hfx, hrx⟩ : ∃ R, fX11_fault (xi 0) = some R ∧ R = (xi 0) := ⟨_, rfl, rfl⟩
  obtain ⟨Rm, hfm, hrm⟩ : ∃ R, fX12_fault (mi 0) (mi 6) = some R ∧ R.1 = (mi 6) := ⟨_, rfl, rfl⟩
  have hv : Rx = Rm.1 := by rw [hrx, hrm]; exact hFP
  have hC := mX11_fault (G := G) (b := b) (c0 := c) (n := n) (v0_quashedRows := (xi 1)) (v0_lastRefusal := (xi 2)) (v0_faultPlace := (xi 0)) ((e_wf_X (by omega)).pick [0] rfl (by decide)) hfx
  rw [hX.sub kX_nd [0] rfl rfl] at hC
  refine ⟨0, by decide, _, hC, ?_⟩
  rintro v C1 n1 ⟨rfl, hC1, rfl⟩
  have hX1 : HAS kX (wX G b xi xj xa xb xq) C1 := by rw [hC1]; exact hX
  have hM1 : HAS (kM 79) (wMM G b mi mj ma mb) C1 := by rw [hC1]; exact hM
  have hLw1 : LAWS G b C1 nl LL := by rw [hC1]; exact hLw
  have hCm := mX12_fault (G := G) (b := b) (o := 79) (c0 := C1) (n := n1) (v_status := (mi 1)) (a_refusals := (ma 0)) (a_row := (ma 1)) (a_images := (ma 2)) (a_isKept := (ma 3)) (a_tape := (ma 4)) (v_taped := (mi 2)) (v_from := (mi 3)) (v_to := (mi 4)) (v_sort := (mi 5)) (v_worth := (mj 0)) (v_bad := (mi 7)) (v_nClauses := (mi 8)) (a_nClause := (ma 5)) (v_nCode := (mi 9)) (a_nOp := (ma 6)) (a_nArg := (ma 7)) (v_nLeaves := (mi 10)) (a_pile := (ma 8)) (a_pileAt := (ma 9)) (v_piled := (mi 11)) (v_opened := (mi 12)) (a_words := (mb 0)) (a_headWords := (mb 1)) (v_law := (mi 13)) (a_set := (mb 2)) (a_rest := (mb 3)) (v_broken := (mi 14)) (v_value := (mj 1)) (v_sum := (mj 2)) (a_chances := (ma 10)) (a_votes := (mb 4)) (a_costs := (ma 11)) (a_table := (mb 5)) (a_prices := (ma 12)) (v_surely := (mj 3)) (a_mostBy := (mb 6)) (a_leastBy := (mb 7)) (v_between := (mj 4)) (v_steadyWays := (mi 15)) (v_quashed := (mi 16)) (v_but := (mi 17)) (a_figures := (ma 13)) (a_all := (ma 14)) (a_lies := (ma 15)) (a_since := (ma 16)) (v_last := (mi 18)) (v_state := (mj 5)) (v_thrown := (mi 0)) (v_fault := (mi 6)) (e_wf_M (by omega)) hfm
  rw [hM1.ov] at hCm
  refine ⟨⟨by omega, _, hM1 0 79 _ rfl rfl⟩, ⟨_, rfl⟩, _, hCm, ?_⟩
  rintro v2 C2 n2 ⟨rfl, hC2, rfl⟩
  have hX2 : HAS kX (wX G b xi xj xa xb xq) C2 := by rw [hC2]; exact hX1.out X_no_M
  have hM2 : HAS (kM 79) (wMM G b (va_up mi 0 Rm.2) mj ma mb) C2 := by rw [hC2]; exact HAS.of kM_nd
  have hLw2 : LAWS G b C2 nl LL := by rw [hC2]; exact hLw1.outM
  exact ⟨congrArg (fun z => some (Value.int z)) hv.symm, xi, xj, xa, xb, xq, (va_up mi 0 Rm.2), mj, ma, mb, nl, LL, y, LO, hX2, hM2, hn, hLw2, hRM, hWF, hRX, hB, hLO, hI0, hI1, hK, hRR, hTP, hFP, hQU, hLY, hCI, hBT, hWD, hHW, hQ0, hQ1, hQ2⟩
set_option maxHeartbeats 4000000 in
set_option maxRecDepth 100000 in
theorem s_status {G : GT} {b : Nat} : S42 G b (INV G b) := by
  intro c n hI
  obtain ⟨xi, xj, xa, xb, xq, mi, mj, ma, mb, nl, LL, y, LO, hX, hM, hn, hLw, hRM, hWF, hRX, hB, hLO, hI0, hI1, hK, hRR, hTP, hFP, hQU, hLY, hCI, hBT, hWD, hHW, hQ0, hQ1, hQ2⟩ := hI
  obtain ⟨Fu, hFu⟩ : ∃ Fu : Nat, 6000 ≤ Fu := ⟨6000, Nat.le_refl _⟩
  obtain ⟨Rx, hfx, hrx⟩ : ∃ R, fX11_status (xi 2) = some R ∧ R = (xi 2) := ⟨_, rfl, rfl⟩
  obtain ⟨Rm, hfm, hrm⟩ : ∃ R, fX12_status (mi 0) (mi 1) = some R ∧ R.1 = (mi 1) := ⟨_, rfl, rfl⟩
  have hv : Rx = Rm.1 := by rw [hrx, hrm]; exact hRR.1
  have hC := mX11_status (G := G) (b := b) (c0 := c) (n := n) (v0_faultPlace := (xi 0)) (v0_quashedRows := (xi 1)) (v0_lastRefusal := (xi 2)) ((e_wf_X (by omega)).pick [0] rfl (by decide)) hfx
  rw [hX.sub kX_nd [0] rfl rfl] at hC
  refine ⟨0, by decide, _, hC, ?_⟩
  rintro v C1 n1 ⟨rfl, hC1, rfl⟩
  have hX1 : HAS kX (wX G b xi xj xa xb xq) C1 := by rw [hC1]; exact hX
  have hM1 : HAS (kM 79) (wMM G b mi mj ma mb) C1 := by rw [hC1]; exact hM
  have hLw1 : LAWS G b C1 nl LL := by rw [hC1]; exact hLw
  have hCm := mX12_status (G := G) (b := b) (o := 79) (c0 := C1) (n := n1) (a_refusals := (ma 0)) (a_row := (ma 1)) (a_images := (ma 2)) (a_isKept := (ma 3)) (a_tape := (ma 4)) (v_taped := (mi 2)) (v_from := (mi 3)) (v_to := (mi 4)) (v_sort := (mi 5)) (v_worth := (mj 0)) (v_fault := (mi 6)) (v_bad := (mi 7)) (v_nClauses := (mi 8)) (a_nClause := (ma 5)) (v_nCode := (mi 9)) (a_nOp := (ma 6)) (a_nArg := (ma 7)) (v_nLeaves := (mi 10)) (a_pile := (ma 8)) (a_pileAt := (ma 9)) (v_piled := (mi 11)) (v_opened := (mi 12)) (a_words := (mb 0)) (a_headWords := (mb 1)) (v_law := (mi 13)) (a_set := (mb 2)) (a_rest := (mb 3)) (v_broken := (mi 14)) (v_value := (mj 1)) (v_sum := (mj 2)) (a_chances := (ma 10)) (a_votes := (mb 4)) (a_costs := (ma 11)) (a_table := (mb 5)) (a_prices := (ma 12)) (v_surely := (mj 3)) (a_mostBy := (mb 6)) (a_leastBy := (mb 7)) (v_between := (mj 4)) (v_steadyWays := (mi 15)) (v_quashed := (mi 16)) (v_but := (mi 17)) (a_figures := (ma 13)) (a_all := (ma 14)) (a_lies := (ma 15)) (a_since := (ma 16)) (v_last := (mi 18)) (v_state := (mj 5)) (v_thrown := (mi 0)) (v_status := (mi 1)) (e_wf_M (by omega)) hfm
  rw [hM1.ov] at hCm
  refine ⟨⟨by omega, _, hM1 0 79 _ rfl rfl⟩, ⟨_, rfl⟩, _, hCm, ?_⟩
  rintro v2 C2 n2 ⟨rfl, hC2, rfl⟩
  have hX2 : HAS kX (wX G b xi xj xa xb xq) C2 := by rw [hC2]; exact hX1.out X_no_M
  have hM2 : HAS (kM 79) (wMM G b (va_up mi 0 Rm.2) mj ma mb) C2 := by rw [hC2]; exact HAS.of kM_nd
  have hLw2 : LAWS G b C2 nl LL := by rw [hC2]; exact hLw1.outM
  exact ⟨congrArg (fun z => some (Value.int z)) hv.symm, xi, xj, xa, xb, xq, (va_up mi 0 Rm.2), mj, ma, mb, nl, LL, y, LO, hX2, hM2, hn, hLw2, hRM, hWF, hRX, hB, hLO, hI0, hI1, hK, hRR, hTP, hFP, hQU, hLY, hCI, hBT, hWD, hHW, hQ0, hQ1, hQ2⟩
set_option maxHeartbeats 4000000 in
set_option maxRecDepth 100000 in
theorem s_count {G : GT} {b : Nat} : S41 G b (INV G b) := by
  intro p1
  intro c n hI
  obtain ⟨xi, xj, xa, xb, xq, mi, mj, ma, mb, nl, LL, y, LO, hX, hM, hn, hLw, hRM, hWF, hRX, hB, hLO, hI0, hI1, hK, hRR, hTP, hFP, hQU, hLY, hCI, hBT, hWD, hHW, hQ0, hQ1, hQ2⟩ := hI
  obtain ⟨Fu, hFu⟩ : ∃ Fu : Nat, 6000 ≤ Fu := ⟨6000, Nat.le_refl _⟩
  obtain ⟨z, zl, zh, rfl⟩ := i32_any p1
  obtain ⟨Rx, hfx, hrx⟩ := Rt.of (P := fun r => r = _) (x_count (a78 := (xa 34)) (len := (xi 21)) hRX hWF zl zh) rfl
  obtain ⟨Rm, hfm, hrm⟩ := Rt.of (P := fun r => r = _) (v_count (thrown := (mi 0)) (a78 := (ma 0)) (len := (mi 2)) hFu hRM hWF zl zh) rfl
  have hlen : (xi 21) = (mi 2) := by obtain ⟨⟨l, -, g1, g2⟩, -⟩ := hTP; rw [g1, g2]
  have hv : Rx = Rm.1 := by rw [hrx, hrm, hlen, hRR.2 1 (by omega), hRR.2 2 (by omega), hRR.2 3 (by omega), hRR.2 5 (by omega), hRR.2 6 (by omega)]
  have hC := mX11_count (G := G) (b := b) (c0 := c) (n := n) (v0_faultPlace := (xi 0)) (v0_quashedRows := (xi 1)) (v0_lastRefusal := (xi 2)) (v1_beasts := (xi 3)) (v1_meals := (xi 4)) (v1_seats := (xi 5)) (v1_laws := (xi 6)) (v1_inForce := (xi 7)) (a4 := (xa 2)) (v6_cases := (xi 8)) (v30_length := (xi 21)) (a78 := (xa 34)) ((e_wf_X (by omega)).pick [0, 1, 4, 6, 30, 78] rfl (by decide)) hfx
  rw [hX.sub kX_nd [0, 1, 4, 6, 30, 78] rfl rfl] at hC
  refine ⟨1, by decide, _, hC, ?_⟩
  rintro v C1 n1 ⟨rfl, hC1, rfl⟩
  have hX1 : HAS kX (wX G b xi xj xa xb xq) C1 := by rw [hC1]; exact hX
  have hM1 : HAS (kM 79) (wMM G b mi mj ma mb) C1 := by rw [hC1]; exact hM
  have hLw1 : LAWS G b C1 nl LL := by rw [hC1]; exact hLw
  have hCm := mX12_count (G := G) (b := b) (o := 79) (c0 := C1) (n := n1) (v_status := (mi 1)) (a_images := (ma 2)) (a_isKept := (ma 3)) (a_tape := (ma 4)) (v_from := (mi 3)) (v_to := (mi 4)) (v_sort := (mi 5)) (v_worth := (mj 0)) (v_fault := (mi 6)) (v_bad := (mi 7)) (v_nClauses := (mi 8)) (a_nClause := (ma 5)) (v_nCode := (mi 9)) (a_nOp := (ma 6)) (a_nArg := (ma 7)) (v_nLeaves := (mi 10)) (a_pile := (ma 8)) (a_pileAt := (ma 9)) (v_piled := (mi 11)) (v_opened := (mi 12)) (a_words := (mb 0)) (a_headWords := (mb 1)) (v_law := (mi 13)) (a_set := (mb 2)) (a_rest := (mb 3)) (v_broken := (mi 14)) (v_value := (mj 1)) (v_sum := (mj 2)) (a_chances := (ma 10)) (a_votes := (mb 4)) (a_costs := (ma 11)) (a_table := (mb 5)) (a_prices := (ma 12)) (v_surely := (mj 3)) (a_mostBy := (mb 6)) (a_leastBy := (mb 7)) (v_between := (mj 4)) (v_steadyWays := (mi 15)) (v_quashed := (mi 16)) (v_but := (mi 17)) (a_figures := (ma 13)) (a_all := (ma 14)) (a_lies := (ma 15)) (a_since := (ma 16)) (v_last := (mi 18)) (v_state := (mj 5)) (v_thrown := (mi 0)) (a_refusals := (ma 0)) (a_row := (ma 1)) (v_taped := (mi 2)) (e_wf_M (by omega)) hfm
  rw [hM1.ov] at hCm
  refine ⟨⟨by omega, _, hM1 0 79 _ rfl rfl⟩, ⟨_, rfl⟩, _, hCm, ?_⟩
  rintro v2 C2 n2 ⟨rfl, hC2, rfl⟩
  have hX2 : HAS kX (wX G b xi xj xa xb xq) C2 := by rw [hC2]; exact hX1.out X_no_M
  have hM2 : HAS (kM 79) (wMM G b (va_up mi 0 Rm.2) mj ma mb) C2 := by rw [hC2]; exact HAS.of kM_nd
  have hLw2 : LAWS G b C2 nl LL := by rw [hC2]; exact hLw1.outM
  exact ⟨congrArg (fun z => some (Value.int z)) hv.symm, xi, xj, xa, xb, xq, (va_up mi 0 Rm.2), mj, ma, mb, nl, LL, y, LO, hX2, hM2, hn, hLw2, hRM, hWF, hRX, hB, hLO, hI0, hI1, hK, hRR, hTP, hFP, hQU, hLY, hCI, hBT, hWD, hHW, hQ0, hQ1, hQ2⟩
set_option maxHeartbeats 4000000 in
set_option maxRecDepth 100000 in
theorem s_lay {G : GT} {b : Nat} : S38 G b (INV G b) := by
  intro p1 p2
  intro c n hI
  obtain ⟨xi, xj, xa, xb, xq, mi, mj, ma, mb, nl, LL, y, LO, hX, hM, hn, hLw, hRM, hWF, hRX, hB, hLO, hI0, hI1, hK, hRR, hTP, hFP, hQU, hLY, hCI, hBT, hWD, hHW, hQ0, hQ1, hQ2⟩ := hI
  obtain ⟨Fu, hFu⟩ : ∃ Fu : Nat, 6000 ≤ Fu := ⟨6000, Nat.le_refl _⟩
  obtain ⟨Rx, t, hfx, hfm⟩ := q_lay (th := (mi 0)) hLY p1 p2
  have hC := mX11_lay (G := G) (b := b) (c0 := c) (n := n) (v0_faultPlace := (xi 0)) (v0_quashedRows := (xi 1)) (v0_lastRefusal := (xi 2)) (v69_drawn := (xi 51)) (v69_held := (xi 49)) (v69_lastMinute := (xi 50)) (a70 := (xa 31)) (a71 := (xa 32)) ((e_wf_X (by omega)).pick [0, 69, 70, 71] rfl (by decide)) hfx
  rw [hX.sub kX_nd [0, 69, 70, 71] rfl rfl] at hC
  refine ⟨1, by decide, _, hC, ?_⟩
  rintro v C1 n1 ⟨rfl, hC1, rfl⟩
  have hX1 : HAS kX (wX G b xi xj xa xb xq) C1 := by rw [hC1]; exact hX
  have hM1 : HAS (kM 79) (wMM G b mi mj ma mb) C1 := by rw [hC1]; exact hM
  have hLw1 : LAWS G b C1 nl LL := by rw [hC1]; exact hLw
  have hCm := mX12_lay (G := G) (b := b) (o := 79) (c0 := C1) (n := n1) (v_status := (mi 1)) (a_refusals := (ma 0)) (a_row := (ma 1)) (a_images := (ma 2)) (a_isKept := (ma 3)) (a_tape := (ma 4)) (v_taped := (mi 2)) (v_from := (mi 3)) (v_to := (mi 4)) (v_sort := (mi 5)) (v_worth := (mj 0)) (v_fault := (mi 6)) (v_bad := (mi 7)) (v_nClauses := (mi 8)) (a_nClause := (ma 5)) (v_nCode := (mi 9)) (a_nOp := (ma 6)) (a_nArg := (ma 7)) (v_nLeaves := (mi 10)) (a_pile := (ma 8)) (a_pileAt := (ma 9)) (v_piled := (mi 11)) (v_opened := (mi 12)) (a_words := (mb 0)) (a_headWords := (mb 1)) (v_law := (mi 13)) (a_set := (mb 2)) (a_rest := (mb 3)) (v_broken := (mi 14)) (v_value := (mj 1)) (v_sum := (mj 2)) (a_chances := (ma 10)) (a_votes := (mb 4)) (a_costs := (ma 11)) (a_table := (mb 5)) (a_prices := (ma 12)) (v_surely := (mj 3)) (a_mostBy := (mb 6)) (a_leastBy := (mb 7)) (v_between := (mj 4)) (v_steadyWays := (mi 15)) (v_quashed := (mi 16)) (v_but := (mi 17)) (a_figures := (ma 13)) (a_all := (ma 14)) (v_state := (mj 5)) (v_thrown := (mi 0)) (a_lies := (ma 15)) (a_since := (ma 16)) (v_last := (mi 18)) (e_wf_M (by omega)) hfm
  rw [hM1.ov] at hCm
  refine ⟨⟨by omega, _, hM1 0 79 _ rfl rfl⟩, ⟨_, rfl⟩, _, hCm, ?_⟩
  rintro v2 C2 n2 ⟨rfl, hC2, rfl⟩
  have hX2 : HAS kX (wX G b xi xj xa xb xq) C2 := by rw [hC2]; exact hX1.out X_no_M
  have hM2 : HAS (kM 79) (wMM G b (va_up mi 0 (Rx, t).2) mj ma mb) C2 := by rw [hC2]; exact HAS.of kM_nd
  have hLw2 : LAWS G b C2 nl LL := by rw [hC2]; exact hLw1.outM
  exact ⟨rfl, xi, xj, xa, xb, xq, (va_up mi 0 (Rx, t).2), mj, ma, mb, nl, LL, y, LO, hX2, hM2, hn, hLw2, hRM, hWF, hRX, hB, hLO, hI0, hI1, hK, hRR, hTP, hFP, hQU, hLY, hCI, hBT, hWD, hHW, hQ0, hQ1, hQ2⟩
set_option maxHeartbeats 4000000 in
set_option maxRecDepth 100000 in
theorem s_image {G : GT} {b : Nat} : S39 G b (INV G b) := by
  intro p1
  intro c n hI
  obtain ⟨xi, xj, xa, xb, xq, mi, mj, ma, mb, nl, LL, y, LO, hX, hM, hn, hLw, hRM, hWF, hRX, hB, hLO, hI0, hI1, hK, hRR, hTP, hFP, hQU, hLY, hCI, hBT, hWD, hHW, hQ0, hQ1, hQ2⟩ := hI
  obtain ⟨Fu, hFu⟩ : ∃ Fu : Nat, 6000 ≤ Fu := ⟨6000, Nat.le_refl _⟩
  obtain ⟨Rx, Rm, hfx, hfm, hv, hr, hk2, i0, i1, hk⟩ := q_image (B := (fun y a => WF y → BKS b nl LL y a)) (a5 := (xq 0)) (known := (xi 36)) (th := (mi 0)) hFu hRM hWF hRX (fun _ => hB) BKS.ext hRR hK hI0 hI1 p1
  obtain ⟨LO2, hLO2, hCI2⟩ := nxtLO hWF hB (hk.imp id (fun h => ⟨h, rfl, rfl⟩)) hLO hCI
  have hC := mX11_image (G := G) (b := b) (c0 := c) (n := n) (a5 := (xq 0)) (v0_faultPlace := (xi 0)) (v0_quashedRows := (xi 1)) (v42_beasts := (xi 32)) (v42_seats := (xi 33)) (v42_seated := (xi 34)) (v42_quota := (xi 35)) (v42_surveyed := (xi 37)) (v42_steadyBench := (xi 38)) (v42_steadyWays := (xi 39)) (v42_steadySwing := (xj 1)) (v0_lastRefusal := (xi 2)) (v1_beasts := (xi 3)) (v1_meals := (xi 4)) (v1_seats := (xi 5)) (v1_laws := (xi 6)) (v1_inForce := (xi 7)) (a2 := (xa 0)) (a3 := (xa 1)) (a4 := (xa 2)) (v6_cases := (xi 8)) (a7 := (xa 3)) (a8 := (xa 4)) (a9 := (xa 5)) (v11_beasts := (xi 9)) (v11_meals := (xi 10)) (v11_seats := (xi 11)) (v11_laws := (xi 12)) (v11_inForce := (xi 13)) (a12 := (xa 6)) (a13 := (xa 7)) (a14 := (xa 8)) (a15 := (xq 1)) (v16_cases := (xi 14)) (a17 := (xa 9)) (a18 := (xa 10)) (a19 := (xa 11)) (v20_beasts := (xi 15)) (v20_meals := (xi 16)) (v20_seats := (xi 17)) (v20_laws := (xi 18)) (v20_inForce := (xi 19)) (a21 := (xa 12)) (a22 := (xa 13)) (a23 := (xa 14)) (a24 := (xq 2)) (v25_cases := (xi 20)) (a26 := (xa 15)) (a27 := (xa 16)) (a28 := (xa 17)) (a29 := (xa 18)) (v42_known := (xi 36)) (a78 := (xa 34)) ((e_wf_X (by omega)).pick [0, 1, 2, 3, 4, 5, 6, 7, 8, 9, 10, 11, 12, 13, 14, 15, 16, 17, 18, 19, 20, 21, 22, 23, 24, 25, 26, 27, 28, 29, 42, 78] rfl (by decide)) (hQ0.qs hLw hn (by decide)) hfx
  rw [hX.sub kX_nd [0, 1, 2, 3, 4, 5, 6, 7, 8, 9, 10, 11, 12, 13, 14, 15, 16, 17, 18, 19, 20, 21, 22, 23, 24, 25, 26, 27, 28, 29, 42, 78] rfl rfl, hX.back kX_nd rfl [0, 1, 2, 3, 4, 5, 6, 7, 8, 9, 10, 11, 12, 13, 14, 15, 16, 17, 18, 19, 20, 21, 22, 23, 24, 25, 26, 27, 28, 29, 42, 78] rfl (wF' := (wX G b (va_up (va_up (va_up (va_up (va_up (va_up (va_up (va_up (va_up (va_up (va_up (va_up (va_up (va_up xi 2 Rx.2.1) 9 Rx.2.2.1) 10 Rx.2.2.2.1) 11 Rx.2.2.2.2.1) 12 Rx.2.2.2.2.2.1) 13 Rx.2.2.2.2.2.2.1) 14 Rx.2.2.2.2.2.2.2.2.2.2.2.1) 15 Rx.2.2.2.2.2.2.2.2.2.2.2.2.2.2.2.1) 16 Rx.2.2.2.2.2.2.2.2.2.2.2.2.2.2.2.2.1) 17 Rx.2.2.2.2.2.2.2.2.2.2.2.2.2.2.2.2.2.1) 18 Rx.2.2.2.2.2.2.2.2.2.2.2.2.2.2.2.2.2.2.1) 19 Rx.2.2.2.2.2.2.2.2.2.2.2.2.2.2.2.2.2.2.2.1) 20 Rx.2.2.2.2.2.2.2.2.2.2.2.2.2.2.2.2.2.2.2.2.2.2.2.2.1) 36 Rx.2.2.2.2.2.2.2.2.2.2.2.2.2.2.2.2.2.2.2.2.2.2.2.2.2.2.2.2.2.1) xj (va_up (va_up (va_up (va_up (va_up (va_up (va_up (va_up (va_up (va_up (va_up (va_up (va_up (va_up xa 6 Rx.2.2.2.2.2.2.2.1) 7 Rx.2.2.2.2.2.2.2.2.1) 8 Rx.2.2.2.2.2.2.2.2.2.1) 9 Rx.2.2.2.2.2.2.2.2.2.2.2.2.1) 10 Rx.2.2.2.2.2.2.2.2.2.2.2.2.2.1) 11 Rx.2.2.2.2.2.2.2.2.2.2.2.2.2.2.1) 12 Rx.2.2.2.2.2.2.2.2.2.2.2.2.2.2.2.2.2.2.2.2.1) 13 Rx.2.2.2.2.2.2.2.2.2.2.2.2.2.2.2.2.2.2.2.2.2.1) 14 Rx.2.2.2.2.2.2.2.2.2.2.2.2.2.2.2.2.2.2.2.2.2.2.1) 15 Rx.2.2.2.2.2.2.2.2.2.2.2.2.2.2.2.2.2.2.2.2.2.2.2.2.2.1) 16 Rx.2.2.2.2.2.2.2.2.2.2.2.2.2.2.2.2.2.2.2.2.2.2.2.2.2.2.1) 17 Rx.2.2.2.2.2.2.2.2.2.2.2.2.2.2.2.2.2.2.2.2.2.2.2.2.2.2.2.1) 18 Rx.2.2.2.2.2.2.2.2.2.2.2.2.2.2.2.2.2.2.2.2.2.2.2.2.2.2.2.2.1) 34 Rx.2.2.2.2.2.2.2.2.2.2.2.2.2.2.2.2.2.2.2.2.2.2.2.2.2.2.2.2.2.2) xb (va_up (va_up xq 1 Rx.2.2.2.2.2.2.2.2.2.2.1) 2 Rx.2.2.2.2.2.2.2.2.2.2.2.2.2.2.2.2.2.2.2.2.2.2.2.1))) rfl] at hC
  refine ⟨3, by decide, _, hC, ?_⟩
  rintro v C1 n1 ⟨rfl, hC1, rfl⟩
  have hX1 : HAS kX (wX G b (va_up (va_up (va_up (va_up (va_up (va_up (va_up (va_up (va_up (va_up (va_up (va_up (va_up (va_up xi 2 Rx.2.1) 9 Rx.2.2.1) 10 Rx.2.2.2.1) 11 Rx.2.2.2.2.1) 12 Rx.2.2.2.2.2.1) 13 Rx.2.2.2.2.2.2.1) 14 Rx.2.2.2.2.2.2.2.2.2.2.2.1) 15 Rx.2.2.2.2.2.2.2.2.2.2.2.2.2.2.2.1) 16 Rx.2.2.2.2.2.2.2.2.2.2.2.2.2.2.2.2.1) 17 Rx.2.2.2.2.2.2.2.2.2.2.2.2.2.2.2.2.2.1) 18 Rx.2.2.2.2.2.2.2.2.2.2.2.2.2.2.2.2.2.2.1) 19 Rx.2.2.2.2.2.2.2.2.2.2.2.2.2.2.2.2.2.2.2.1) 20 Rx.2.2.2.2.2.2.2.2.2.2.2.2.2.2.2.2.2.2.2.2.2.2.2.2.1) 36 Rx.2.2.2.2.2.2.2.2.2.2.2.2.2.2.2.2.2.2.2.2.2.2.2.2.2.2.2.2.2.1) xj (va_up (va_up (va_up (va_up (va_up (va_up (va_up (va_up (va_up (va_up (va_up (va_up (va_up (va_up xa 6 Rx.2.2.2.2.2.2.2.1) 7 Rx.2.2.2.2.2.2.2.2.1) 8 Rx.2.2.2.2.2.2.2.2.2.1) 9 Rx.2.2.2.2.2.2.2.2.2.2.2.2.1) 10 Rx.2.2.2.2.2.2.2.2.2.2.2.2.2.1) 11 Rx.2.2.2.2.2.2.2.2.2.2.2.2.2.2.1) 12 Rx.2.2.2.2.2.2.2.2.2.2.2.2.2.2.2.2.2.2.2.2.1) 13 Rx.2.2.2.2.2.2.2.2.2.2.2.2.2.2.2.2.2.2.2.2.2.1) 14 Rx.2.2.2.2.2.2.2.2.2.2.2.2.2.2.2.2.2.2.2.2.2.2.1) 15 Rx.2.2.2.2.2.2.2.2.2.2.2.2.2.2.2.2.2.2.2.2.2.2.2.2.2.1) 16 Rx.2.2.2.2.2.2.2.2.2.2.2.2.2.2.2.2.2.2.2.2.2.2.2.2.2.2.1) 17 Rx.2.2.2.2.2.2.2.2.2.2.2.2.2.2.2.2.2.2.2.2.2.2.2.2.2.2.2.1) 18 Rx.2.2.2.2.2.2.2.2.2.2.2.2.2.2.2.2.2.2.2.2.2.2.2.2.2.2.2.2.1) 34 Rx.2.2.2.2.2.2.2.2.2.2.2.2.2.2.2.2.2.2.2.2.2.2.2.2.2.2.2.2.2.2) xb (va_up (va_up xq 1 Rx.2.2.2.2.2.2.2.2.2.2.1) 2 Rx.2.2.2.2.2.2.2.2.2.2.2.2.2.2.2.2.2.2.2.2.2.2.2.1)) C1 := by rw [hC1]; exact HAS.of kX_nd
  have hM1 : HAS (kM 79) (wMM G b mi mj ma mb) C1 := by rw [hC1]; exact hM.out M_no_X
  have hLw1 : LAWS G b C1 nl LL := by rw [hC1]; exact hLw.outX
  have hCm := mX12_image (G := G) (b := b) (o := 79) (c0 := C1) (n := n1) (a_tape := (ma 4)) (v_taped := (mi 2)) (v_from := (mi 3)) (v_to := (mi 4)) (v_sort := (mi 5)) (v_worth := (mj 0)) (v_fault := (mi 6)) (v_bad := (mi 7)) (v_nClauses := (mi 8)) (a_nClause := (ma 5)) (v_nCode := (mi 9)) (a_nOp := (ma 6)) (a_nArg := (ma 7)) (v_nLeaves := (mi 10)) (a_pile := (ma 8)) (a_pileAt := (ma 9)) (v_piled := (mi 11)) (v_opened := (mi 12)) (a_words := (mb 0)) (a_headWords := (mb 1)) (v_law := (mi 13)) (a_set := (mb 2)) (a_rest := (mb 3)) (v_broken := (mi 14)) (v_value := (mj 1)) (v_sum := (mj 2)) (a_chances := (ma 10)) (a_votes := (mb 4)) (a_costs := (ma 11)) (a_table := (mb 5)) (a_prices := (ma 12)) (v_surely := (mj 3)) (a_mostBy := (mb 6)) (a_leastBy := (mb 7)) (v_between := (mj 4)) (v_steadyWays := (mi 15)) (v_quashed := (mi 16)) (v_but := (mi 17)) (a_figures := (ma 13)) (a_all := (ma 14)) (a_lies := (ma 15)) (a_since := (ma 16)) (v_last := (mi 18)) (v_state := (mj 5)) (v_thrown := (mi 0)) (v_status := (mi 1)) (a_refusals := (ma 0)) (a_row := (ma 1)) (a_images := (ma 2)) (a_isKept := (ma 3)) (e_wf_M (by omega)) hfm
  rw [hM1.ov] at hCm
  refine ⟨⟨by omega, _, hM1 0 79 _ rfl rfl⟩, ⟨_, rfl⟩, _, hCm, ?_⟩
  rintro v2 C2 n2 ⟨rfl, hC2, rfl⟩
  have hX2 : HAS kX (wX G b (va_up (va_up (va_up (va_up (va_up (va_up (va_up (va_up (va_up (va_up (va_up (va_up (va_up (va_up xi 2 Rx.2.1) 9 Rx.2.2.1) 10 Rx.2.2.2.1) 11 Rx.2.2.2.2.1) 12 Rx.2.2.2.2.2.1) 13 Rx.2.2.2.2.2.2.1) 14 Rx.2.2.2.2.2.2.2.2.2.2.2.1) 15 Rx.2.2.2.2.2.2.2.2.2.2.2.2.2.2.2.1) 16 Rx.2.2.2.2.2.2.2.2.2.2.2.2.2.2.2.2.1) 17 Rx.2.2.2.2.2.2.2.2.2.2.2.2.2.2.2.2.2.1) 18 Rx.2.2.2.2.2.2.2.2.2.2.2.2.2.2.2.2.2.2.1) 19 Rx.2.2.2.2.2.2.2.2.2.2.2.2.2.2.2.2.2.2.2.1) 20 Rx.2.2.2.2.2.2.2.2.2.2.2.2.2.2.2.2.2.2.2.2.2.2.2.2.1) 36 Rx.2.2.2.2.2.2.2.2.2.2.2.2.2.2.2.2.2.2.2.2.2.2.2.2.2.2.2.2.2.1) xj (va_up (va_up (va_up (va_up (va_up (va_up (va_up (va_up (va_up (va_up (va_up (va_up (va_up (va_up xa 6 Rx.2.2.2.2.2.2.2.1) 7 Rx.2.2.2.2.2.2.2.2.1) 8 Rx.2.2.2.2.2.2.2.2.2.1) 9 Rx.2.2.2.2.2.2.2.2.2.2.2.2.1) 10 Rx.2.2.2.2.2.2.2.2.2.2.2.2.2.1) 11 Rx.2.2.2.2.2.2.2.2.2.2.2.2.2.2.1) 12 Rx.2.2.2.2.2.2.2.2.2.2.2.2.2.2.2.2.2.2.2.2.1) 13 Rx.2.2.2.2.2.2.2.2.2.2.2.2.2.2.2.2.2.2.2.2.2.1) 14 Rx.2.2.2.2.2.2.2.2.2.2.2.2.2.2.2.2.2.2.2.2.2.2.1) 15 Rx.2.2.2.2.2.2.2.2.2.2.2.2.2.2.2.2.2.2.2.2.2.2.2.2.2.1) 16 Rx.2.2.2.2.2.2.2.2.2.2.2.2.2.2.2.2.2.2.2.2.2.2.2.2.2.2.1) 17 Rx.2.2.2.2.2.2.2.2.2.2.2.2.2.2.2.2.2.2.2.2.2.2.2.2.2.2.2.1) 18 Rx.2.2.2.2.2.2.2.2.2.2.2.2.2.2.2.2.2.2.2.2.2.2.2.2.2.2.2.2.1) 34 Rx.2.2.2.2.2.2.2.2.2.2.2.2.2.2.2.2.2.2.2.2.2.2.2.2.2.2.2.2.2.2) xb (va_up (va_up xq 1 Rx.2.2.2.2.2.2.2.2.2.2.1) 2 Rx.2.2.2.2.2.2.2.2.2.2.2.2.2.2.2.2.2.2.2.2.2.2.2.1)) C2 := by rw [hC2]; exact hX1.out X_no_M
  have hM2 : HAS (kM 79) (wMM G b (va_up (va_up mi 0 Rm.2.1) 1 Rm.2.2.1) mj (va_up (va_up (va_up ma 0 Rm.2.2.2.1) 2 Rm.2.2.2.2.1) 3 Rm.2.2.2.2.2) mb) C2 := by rw [hC2]; exact HAS.of kM_nd
  have hLw2 : LAWS G b C2 nl LL := by rw [hC2]; exact hLw1.outM
  exact ⟨congrArg (fun z => some (Value.int z)) hv.symm, (va_up (va_up (va_up (va_up (va_up (va_up (va_up (va_up (va_up (va_up (va_up (va_up (va_up (va_up xi 2 Rx.2.1) 9 Rx.2.2.1) 10 Rx.2.2.2.1) 11 Rx.2.2.2.2.1) 12 Rx.2.2.2.2.2.1) 13 Rx.2.2.2.2.2.2.1) 14 Rx.2.2.2.2.2.2.2.2.2.2.2.1) 15 Rx.2.2.2.2.2.2.2.2.2.2.2.2.2.2.2.1) 16 Rx.2.2.2.2.2.2.2.2.2.2.2.2.2.2.2.2.1) 17 Rx.2.2.2.2.2.2.2.2.2.2.2.2.2.2.2.2.2.1) 18 Rx.2.2.2.2.2.2.2.2.2.2.2.2.2.2.2.2.2.2.1) 19 Rx.2.2.2.2.2.2.2.2.2.2.2.2.2.2.2.2.2.2.2.1) 20 Rx.2.2.2.2.2.2.2.2.2.2.2.2.2.2.2.2.2.2.2.2.2.2.2.2.1) 36 Rx.2.2.2.2.2.2.2.2.2.2.2.2.2.2.2.2.2.2.2.2.2.2.2.2.2.2.2.2.2.1), xj, (va_up (va_up (va_up (va_up (va_up (va_up (va_up (va_up (va_up (va_up (va_up (va_up (va_up (va_up xa 6 Rx.2.2.2.2.2.2.2.1) 7 Rx.2.2.2.2.2.2.2.2.1) 8 Rx.2.2.2.2.2.2.2.2.2.1) 9 Rx.2.2.2.2.2.2.2.2.2.2.2.2.1) 10 Rx.2.2.2.2.2.2.2.2.2.2.2.2.2.1) 11 Rx.2.2.2.2.2.2.2.2.2.2.2.2.2.2.1) 12 Rx.2.2.2.2.2.2.2.2.2.2.2.2.2.2.2.2.2.2.2.2.1) 13 Rx.2.2.2.2.2.2.2.2.2.2.2.2.2.2.2.2.2.2.2.2.2.1) 14 Rx.2.2.2.2.2.2.2.2.2.2.2.2.2.2.2.2.2.2.2.2.2.2.1) 15 Rx.2.2.2.2.2.2.2.2.2.2.2.2.2.2.2.2.2.2.2.2.2.2.2.2.2.1) 16 Rx.2.2.2.2.2.2.2.2.2.2.2.2.2.2.2.2.2.2.2.2.2.2.2.2.2.2.1) 17 Rx.2.2.2.2.2.2.2.2.2.2.2.2.2.2.2.2.2.2.2.2.2.2.2.2.2.2.2.1) 18 Rx.2.2.2.2.2.2.2.2.2.2.2.2.2.2.2.2.2.2.2.2.2.2.2.2.2.2.2.2.1) 34 Rx.2.2.2.2.2.2.2.2.2.2.2.2.2.2.2.2.2.2.2.2.2.2.2.2.2.2.2.2.2.2), xb, (va_up (va_up xq 1 Rx.2.2.2.2.2.2.2.2.2.2.1) 2 Rx.2.2.2.2.2.2.2.2.2.2.2.2.2.2.2.2.2.2.2.2.2.2.2.1), (va_up (va_up mi 0 Rm.2.1) 1 Rm.2.2.1), mj, (va_up (va_up (va_up ma 0 Rm.2.2.2.1) 2 Rm.2.2.2.2.1) 3 Rm.2.2.2.2.2), mb, nl, LL, y, LO2, hX2, hM2, hn, hLw2, hRM, hWF, hRX, hB, hLO2, i0, i1, hk2, hr, hTP, hFP, hQU, hLY, hCI2, hBT, hWD, hHW, hQ0, (image_Q hfx hQ0 hQ1 hQ2).1, (image_Q hfx hQ0 hQ1 hQ2).2⟩
set_option maxHeartbeats 4000000 in
set_option maxRecDepth 100000 in
theorem s_back {G : GT} {b : Nat} : S40 G b (INV G b) := by
  intro p1
  intro c n hI
  obtain ⟨xi, xj, xa, xb, xq, mi, mj, ma, mb, nl, LL, y, LO, hX, hM, hn, hLw, hRM, hWF, hRX, hB, hLO, hI0, hI1, hK, hRR, hTP, hFP, hQU, hLY, hCI, hBT, hWD, hHW, hQ0, hQ1, hQ2⟩ := hI
  obtain ⟨Fu, hFu⟩ : ∃ Fu : Nat, 6000 ≤ Fu := ⟨6000, Nat.le_refl _⟩
  obtain ⟨Rx, Rm, y', hfx, hfm, hv, hr, h1, hW2, hx2, hb2, hk⟩ := q_back (B := (fun y a => WF y → BKS b nl LL y a)) (a5 := (xq 0)) (known := (xi 36)) (th := (mi 0)) hFu hRM hWF hRX (fun _ => hB) BKS.ext hRR hK hI0 hI1 p1
  obtain ⟨LO2, hLO2, hCI2⟩ := nxtLO hW2 (hb2 hW2) hk hLO hCI
  have hC := mX11_back (G := G) (b := b) (c0 := c) (n := n) (a15 := (xq 1)) (a24 := (xq 2)) (v0_faultPlace := (xi 0)) (v0_quashedRows := (xi 1)) (v42_beasts := (xi 32)) (v42_seats := (xi 33)) (v42_seated := (xi 34)) (v42_quota := (xi 35)) (v42_surveyed := (xi 37)) (v42_steadyBench := (xi 38)) (v42_steadyWays := (xi 39)) (v42_steadySwing := (xj 1)) (v0_lastRefusal := (xi 2)) (v1_beasts := (xi 3)) (v1_meals := (xi 4)) (v1_seats := (xi 5)) (v1_laws := (xi 6)) (v1_inForce := (xi 7)) (a2 := (xa 0)) (a3 := (xa 1)) (a4 := (xa 2)) (a5 := (xq 0)) (v6_cases := (xi 8)) (a7 := (xa 3)) (a8 := (xa 4)) (a9 := (xa 5)) (v11_beasts := (xi 9)) (v11_meals := (xi 10)) (v11_seats := (xi 11)) (v11_laws := (xi 12)) (v11_inForce := (xi 13)) (a12 := (xa 6)) (a13 := (xa 7)) (a14 := (xa 8)) (v16_cases := (xi 14)) (a17 := (xa 9)) (a18 := (xa 10)) (a19 := (xa 11)) (v20_beasts := (xi 15)) (v20_meals := (xi 16)) (v20_seats := (xi 17)) (v20_laws := (xi 18)) (v20_inForce := (xi 19)) (a21 := (xa 12)) (a22 := (xa 13)) (a23 := (xa 14)) (v25_cases := (xi 20)) (a26 := (xa 15)) (a27 := (xa 16)) (a28 := (xa 17)) (a29 := (xa 18)) (v42_known := (xi 36)) (a78 := (xa 34)) ((e_wf_X (by omega)).pick [0, 1, 2, 3, 4, 5, 6, 7, 8, 9, 10, 11, 12, 13, 14, 15, 16, 17, 18, 19, 20, 21, 22, 23, 24, 25, 26, 27, 28, 29, 42, 78] rfl (by decide)) (hQ1.qs hLw hn (by decide)) (hQ2.qs hLw hn (by decide)) hfx
  rw [hX.sub kX_nd [0, 1, 2, 3, 4, 5, 6, 7, 8, 9, 10, 11, 12, 13, 14, 15, 16, 17, 18, 19, 20, 21, 22, 23, 24, 25, 26, 27, 28, 29, 42, 78] rfl rfl, hX.back kX_nd rfl [0, 1, 2, 3, 4, 5, 6, 7, 8, 9, 10, 11, 12, 13, 14, 15, 16, 17, 18, 19, 20, 21, 22, 23, 24, 25, 26, 27, 28, 29, 42, 78] rfl (wF' := (wX G b (va_up (va_up (va_up (va_up (va_up (va_up (va_up (va_up xi 2 Rx.2.1) 3 Rx.2.2.1) 4 Rx.2.2.2.1) 5 Rx.2.2.2.2.1) 6 Rx.2.2.2.2.2.1) 7 Rx.2.2.2.2.2.2.1) 8 Rx.2.2.2.2.2.2.2.2.2.2.2.1) 36 Rx.2.2.2.2.2.2.2.2.2.2.2.2.2.2.2.1) xj (va_up (va_up (va_up (va_up (va_up (va_up (va_up xa 0 Rx.2.2.2.2.2.2.2.1) 1 Rx.2.2.2.2.2.2.2.2.1) 2 Rx.2.2.2.2.2.2.2.2.2.1) 3 Rx.2.2.2.2.2.2.2.2.2.2.2.2.1) 4 Rx.2.2.2.2.2.2.2.2.2.2.2.2.2.1) 5 Rx.2.2.2.2.2.2.2.2.2.2.2.2.2.2.1) 34 Rx.2.2.2.2.2.2.2.2.2.2.2.2.2.2.2.2) xb (va_up xq 0 Rx.2.2.2.2.2.2.2.2.2.2.1))) rfl] at hC
  refine ⟨3, by decide, _, hC, ?_⟩
  rintro v C1 n1 ⟨rfl, hC1, rfl⟩
  have hX1 : HAS kX (wX G b (va_up (va_up (va_up (va_up (va_up (va_up (va_up (va_up xi 2 Rx.2.1) 3 Rx.2.2.1) 4 Rx.2.2.2.1) 5 Rx.2.2.2.2.1) 6 Rx.2.2.2.2.2.1) 7 Rx.2.2.2.2.2.2.1) 8 Rx.2.2.2.2.2.2.2.2.2.2.2.1) 36 Rx.2.2.2.2.2.2.2.2.2.2.2.2.2.2.2.1) xj (va_up (va_up (va_up (va_up (va_up (va_up (va_up xa 0 Rx.2.2.2.2.2.2.2.1) 1 Rx.2.2.2.2.2.2.2.2.1) 2 Rx.2.2.2.2.2.2.2.2.2.1) 3 Rx.2.2.2.2.2.2.2.2.2.2.2.2.1) 4 Rx.2.2.2.2.2.2.2.2.2.2.2.2.2.1) 5 Rx.2.2.2.2.2.2.2.2.2.2.2.2.2.2.1) 34 Rx.2.2.2.2.2.2.2.2.2.2.2.2.2.2.2.2) xb (va_up xq 0 Rx.2.2.2.2.2.2.2.2.2.2.1)) C1 := by rw [hC1]; exact HAS.of kX_nd
  have hM1 : HAS (kM 79) (wMM G b mi mj ma mb) C1 := by rw [hC1]; exact hM.out M_no_X
  have hLw1 : LAWS G b C1 nl LL := by rw [hC1]; exact hLw.outX
  have hCm := mX12_back (G := G) (b := b) (o := 79) (c0 := C1) (n := n1) (a_tape := (ma 4)) (v_taped := (mi 2)) (v_from := (mi 3)) (v_to := (mi 4)) (v_sort := (mi 5)) (v_worth := (mj 0)) (v_fault := (mi 6)) (v_bad := (mi 7)) (v_nClauses := (mi 8)) (a_nClause := (ma 5)) (v_nCode := (mi 9)) (a_nOp := (ma 6)) (a_nArg := (ma 7)) (v_nLeaves := (mi 10)) (a_pile := (ma 8)) (a_pileAt := (ma 9)) (v_piled := (mi 11)) (v_opened := (mi 12)) (a_words := (mb 0)) (a_headWords := (mb 1)) (v_law := (mi 13)) (a_set := (mb 2)) (a_rest := (mb 3)) (v_broken := (mi 14)) (v_value := (mj 1)) (v_sum := (mj 2)) (a_chances := (ma 10)) (a_votes := (mb 4)) (a_costs := (ma 11)) (a_table := (mb 5)) (a_prices := (ma 12)) (v_surely := (mj 3)) (a_mostBy := (mb 6)) (a_leastBy := (mb 7)) (v_between := (mj 4)) (v_steadyWays := (mi 15)) (v_quashed := (mi 16)) (v_but := (mi 17)) (a_figures := (ma 13)) (a_all := (ma 14)) (a_lies := (ma 15)) (a_since := (ma 16)) (v_last := (mi 18)) (v_state := (mj 5)) (v_thrown := (mi 0)) (v_status := (mi 1)) (a_refusals := (ma 0)) (a_row := (ma 1)) (a_images := (ma 2)) (a_isKept := (ma 3)) (e_wf_M (by omega)) hfm
  rw [hM1.ov] at hCm
  refine ⟨⟨by omega, _, hM1 0 79 _ rfl rfl⟩, ⟨_, rfl⟩, _, hCm, ?_⟩
  rintro v2 C2 n2 ⟨rfl, hC2, rfl⟩
  have hX2 : HAS kX (wX G b (va_up (va_up (va_up (va_up (va_up (va_up (va_up (va_up xi 2 Rx.2.1) 3 Rx.2.2.1) 4 Rx.2.2.2.1) 5 Rx.2.2.2.2.1) 6 Rx.2.2.2.2.2.1) 7 Rx.2.2.2.2.2.2.1) 8 Rx.2.2.2.2.2.2.2.2.2.2.2.1) 36 Rx.2.2.2.2.2.2.2.2.2.2.2.2.2.2.2.1) xj (va_up (va_up (va_up (va_up (va_up (va_up (va_up xa 0 Rx.2.2.2.2.2.2.2.1) 1 Rx.2.2.2.2.2.2.2.2.1) 2 Rx.2.2.2.2.2.2.2.2.2.1) 3 Rx.2.2.2.2.2.2.2.2.2.2.2.2.1) 4 Rx.2.2.2.2.2.2.2.2.2.2.2.2.2.1) 5 Rx.2.2.2.2.2.2.2.2.2.2.2.2.2.2.1) 34 Rx.2.2.2.2.2.2.2.2.2.2.2.2.2.2.2.2) xb (va_up xq 0 Rx.2.2.2.2.2.2.2.2.2.2.1)) C2 := by rw [hC2]; exact hX1.out X_no_M
  have hM2 : HAS (kM 79) (wMM G b (va_up (va_up mi 0 Rm.2.1) 1 Rm.2.2.1) mj (va_up (va_up ma 0 Rm.2.2.2.1) 1 Rm.2.2.2.2) mb) C2 := by rw [hC2]; exact HAS.of kM_nd
  have hLw2 : LAWS G b C2 nl LL := by rw [hC2]; exact hLw1.outM
  exact ⟨congrArg (fun z => some (Value.int z)) hv.symm, (va_up (va_up (va_up (va_up (va_up (va_up (va_up (va_up xi 2 Rx.2.1) 3 Rx.2.2.1) 4 Rx.2.2.2.1) 5 Rx.2.2.2.2.1) 6 Rx.2.2.2.2.2.1) 7 Rx.2.2.2.2.2.2.1) 8 Rx.2.2.2.2.2.2.2.2.2.2.2.1) 36 Rx.2.2.2.2.2.2.2.2.2.2.2.2.2.2.2.1), xj, (va_up (va_up (va_up (va_up (va_up (va_up (va_up xa 0 Rx.2.2.2.2.2.2.2.1) 1 Rx.2.2.2.2.2.2.2.2.1) 2 Rx.2.2.2.2.2.2.2.2.2.1) 3 Rx.2.2.2.2.2.2.2.2.2.2.2.2.1) 4 Rx.2.2.2.2.2.2.2.2.2.2.2.2.2.1) 5 Rx.2.2.2.2.2.2.2.2.2.2.2.2.2.2.1) 34 Rx.2.2.2.2.2.2.2.2.2.2.2.2.2.2.2.2), xb, (va_up xq 0 Rx.2.2.2.2.2.2.2.2.2.2.1), (va_up (va_up mi 0 Rm.2.1) 1 Rm.2.2.1), mj, (va_up (va_up ma 0 Rm.2.2.2.1) 1 Rm.2.2.2.2), mb, nl, LL, y', LO2, hX2, hM2, hn, hLw2, h1, hW2, hx2, (hb2 hW2), hLO2, hI0, hI1, hK, hr, hTP, hFP, hQU, hLY, hCI2, hBT, hWD, hHW, (back_Q hfx hQ0 hQ1 hQ2), hQ1, hQ2⟩
