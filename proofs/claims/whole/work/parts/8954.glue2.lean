set_option maxHeartbeats 4000000 in
set_option maxRecDepth 100000 in
theorem s_right {G : GT} {b : Nat} : S31 G b (INV G b) := by
  intro p1 p2
  intro c n hI
  obtain ⟨xi, xj, xa, xb, xq, mi, mj, ma, mb, nl, LL, y, LO, hX, hM, hn, hLw, hRM, hWF, hRX, hB, hLO, hI0, hI1, hK, hRR, hTP, hFP, hQU, hLY, hCI, hBT, hWD, hHW, hQ0, hQ1, hQ2⟩ := hI
  obtain ⟨Fu, hFu⟩ : ∃ Fu : Nat, 6000 ≤ Fu := ⟨6000, Nat.le_refl _⟩
  obtain ⟨z, zl, zh, rfl⟩ := i32_any p1
  obtain ⟨w, wl, wh, rfl⟩ := i32_any p2
  obtain ⟨Rm, hfm0, hrm⟩ : Rt (fX12_right Fu (mi 0) (ma 1) (-1 : Int32) (i32 z) (i32 w)) _ := m_right hFu hRM hWF zl zh wl wh
  have hfm : fX12_right Fu (mi 0) (ma 1) (mi 17) (i32 z) (i32 w) = some Rm := by rw [hBT]; exact hfm0
  obtain ⟨Rx, hfx, hrx⟩ : Rt (fX11_right Fu (xi 8) (xa 3) (xa 4) (xa 5) (i32 z) (i32 w)) _ := c_right hFu hWF hRX  zl zh wl wh
  have hv : Rx = Rm.1 := by rw [hrx, hrm]
  have hC := mX11_right (G := G) (b := b) (c0 := c) (n := n) (v0_faultPlace := (xi 0)) (v0_quashedRows := (xi 1)) (v0_lastRefusal := (xi 2)) (v1_beasts := (xi 3)) (v1_meals := (xi 4)) (v1_seats := (xi 5)) (v1_laws := (xi 6)) (v1_inForce := (xi 7)) (v6_cases := (xi 8)) (a7 := (xa 3)) (a8 := (xa 4)) (a9 := (xa 5)) ((e_wf_X (by omega)).pick [0, 1, 6, 7, 8, 9] rfl (by decide)) hfx
  rw [hX.sub kX_nd [0, 1, 6, 7, 8, 9] rfl rfl] at hC
  refine ⟨2, by decide, _, hC, ?_⟩
  rintro v C1 n1 ⟨rfl, hC1, rfl⟩
  have hX1 : HAS kX (wX G b xi xj xa xb xq) C1 := by rw [hC1]; exact hX
  have hM1 : HAS (kM 79) (wMM G b mi mj ma mb) C1 := by rw [hC1]; exact hM
  have hLw1 : LAWS G b C1 nl LL := by rw [hC1]; exact hLw
  have hCm := mX12_right (G := G) (b := b) (o := 79) (c0 := C1) (n := n1) (v_status := (mi 1)) (a_refusals := (ma 0)) (a_images := (ma 2)) (a_isKept := (ma 3)) (a_tape := (ma 4)) (v_taped := (mi 2)) (v_from := (mi 3)) (v_to := (mi 4)) (v_sort := (mi 5)) (v_worth := (mj 0)) (v_fault := (mi 6)) (v_bad := (mi 7)) (v_nClauses := (mi 8)) (a_nClause := (ma 5)) (v_nCode := (mi 9)) (a_nOp := (ma 6)) (a_nArg := (ma 7)) (v_nLeaves := (mi 10)) (a_pile := (ma 8)) (a_pileAt := (ma 9)) (v_piled := (mi 11)) (v_opened := (mi 12)) (a_words := (mb 0)) (a_headWords := (mb 1)) (v_law := (mi 13)) (a_set := (mb 2)) (a_rest := (mb 3)) (v_broken := (mi 14)) (v_value := (mj 1)) (v_sum := (mj 2)) (a_chances := (ma 10)) (a_votes := (mb 4)) (a_costs := (ma 11)) (a_table := (mb 5)) (a_prices := (ma 12)) (v_surely := (mj 3)) (a_mostBy := (mb 6)) (a_leastBy := (mb 7)) (v_between := (mj 4)) (v_steadyWays := (mi 15)) (v_quashed := (mi 16)) (a_figures := (ma 13)) (a_all := (ma 14)) (a_lies := (ma 15)) (a_since := (ma 16)) (v_last := (mi 18)) (v_state := (mj 5)) (v_thrown := (mi 0)) (a_row := (ma 1)) (v_but := (mi 17)) (e_wf_M (by omega)) hfm
  rw [hM1.ov] at hCm
  refine ⟨⟨by omega, _, hM1 0 79 _ rfl rfl⟩, ⟨_, rfl⟩, _, hCm, ?_⟩
  rintro v2 C2 n2 ⟨rfl, hC2, rfl⟩
  have hX2 : HAS kX (wX G b xi xj xa xb xq) C2 := by rw [hC2]; exact hX1.out X_no_M
  have hM2 : HAS (kM 79) (wMM G b (va_up mi 0 Rm.2) mj ma mb) C2 := by rw [hC2]; exact HAS.of kM_nd
  have hLw2 : LAWS G b C2 nl LL := by rw [hC2]; exact hLw1.outM
  exact ⟨congrArg (fun z => some (Value.int z)) hv.symm, xi, xj, xa, xb, xq, (va_up mi 0 Rm.2), mj, ma, mb, nl, LL, y, LO, hX2, hM2, hn, hLw2, hRM, hWF, hRX, hB, hLO, hI0, hI1, hK, hRR, hTP, hFP, hQU, hLY, hCI, hBT, hWD, hHW, hQ0, hQ1, hQ2⟩
set_option maxHeartbeats 4000000 in
set_option maxRecDepth 100000 in
theorem s_agree {G : GT} {b : Nat} : S32 G b (INV G b) := by
  intro p1 p2 p3
  intro c n hI
  obtain ⟨xi, xj, xa, xb, xq, mi, mj, ma, mb, nl, LL, y, LO, hX, hM, hn, hLw, hRM, hWF, hRX, hB, hLO, hI0, hI1, hK, hRR, hTP, hFP, hQU, hLY, hCI, hBT, hWD, hHW, hQ0, hQ1, hQ2⟩ := hI
  obtain ⟨Fu, hFu⟩ : ∃ Fu : Nat, 6000 ≤ Fu := ⟨6000, Nat.le_refl _⟩
  obtain ⟨z, zl, zh, rfl⟩ := i32_any p1
  obtain ⟨w, wl, wh, rfl⟩ := i32_any p2
  obtain ⟨u, ul, uh, rfl⟩ := i32_any p3
  obtain ⟨Rm, hfm0, hrm⟩ : Rt (fX12_agree Fu (mi 0) (ma 1) (i32 z) (i32 w) (i32 u)) _ := m_agree hFu hRM hWF zl zh wl wh ul uh
  have hfm : fX12_agree Fu (mi 0) (ma 1) (i32 z) (i32 w) (i32 u) = some Rm := hfm0
  obtain ⟨Rx, hfx, hrx⟩ : Rt (fX11_agree Fu (xi 8) (xa 4) (xa 5) (i32 z) (i32 w) (i32 u)) _ := c_agree hFu hWF hRX  zl zh wl wh ul uh
  have hv : Rx = Rm.1 := by rw [hrx, hrm]
  have hC := mX11_agree (G := G) (b := b) (c0 := c) (n := n) (v0_faultPlace := (xi 0)) (v0_quashedRows := (xi 1)) (v0_lastRefusal := (xi 2)) (v1_beasts := (xi 3)) (v1_meals := (xi 4)) (v1_seats := (xi 5)) (v1_laws := (xi 6)) (v1_inForce := (xi 7)) (v6_cases := (xi 8)) (a8 := (xa 4)) (a9 := (xa 5)) ((e_wf_X (by omega)).pick [0, 1, 6, 8, 9] rfl (by decide)) hfx
  rw [hX.sub kX_nd [0, 1, 6, 8, 9] rfl rfl] at hC
  refine ⟨1, by decide, _, hC, ?_⟩
  rintro v C1 n1 ⟨rfl, hC1, rfl⟩
  have hX1 : HAS kX (wX G b xi xj xa xb xq) C1 := by rw [hC1]; exact hX
  have hM1 : HAS (kM 79) (wMM G b mi mj ma mb) C1 := by rw [hC1]; exact hM
  have hLw1 : LAWS G b C1 nl LL := by rw [hC1]; exact hLw
  have hCm := mX12_agree (G := G) (b := b) (o := 79) (c0 := C1) (n := n1) (v_status := (mi 1)) (a_refusals := (ma 0)) (a_images := (ma 2)) (a_isKept := (ma 3)) (a_tape := (ma 4)) (v_taped := (mi 2)) (v_from := (mi 3)) (v_to := (mi 4)) (v_sort := (mi 5)) (v_worth := (mj 0)) (v_fault := (mi 6)) (v_bad := (mi 7)) (v_nClauses := (mi 8)) (a_nClause := (ma 5)) (v_nCode := (mi 9)) (a_nOp := (ma 6)) (a_nArg := (ma 7)) (v_nLeaves := (mi 10)) (a_pile := (ma 8)) (a_pileAt := (ma 9)) (v_piled := (mi 11)) (v_opened := (mi 12)) (a_words := (mb 0)) (a_headWords := (mb 1)) (v_law := (mi 13)) (a_set := (mb 2)) (a_rest := (mb 3)) (v_broken := (mi 14)) (v_value := (mj 1)) (v_sum := (mj 2)) (a_chances := (ma 10)) (a_votes := (mb 4)) (a_costs := (ma 11)) (a_table := (mb 5)) (a_prices := (ma 12)) (v_surely := (mj 3)) (a_mostBy := (mb 6)) (a_leastBy := (mb 7)) (v_between := (mj 4)) (v_steadyWays := (mi 15)) (v_quashed := (mi 16)) (v_but := (mi 17)) (a_figures := (ma 13)) (a_all := (ma 14)) (a_lies := (ma 15)) (a_since := (ma 16)) (v_last := (mi 18)) (v_state := (mj 5)) (v_thrown := (mi 0)) (a_row := (ma 1)) (e_wf_M (by omega)) hfm
  rw [hM1.ov] at hCm
  refine ⟨⟨by omega, _, hM1 0 79 _ rfl rfl⟩, ⟨_, rfl⟩, _, hCm, ?_⟩
  rintro v2 C2 n2 ⟨rfl, hC2, rfl⟩
  have hX2 : HAS kX (wX G b xi xj xa xb xq) C2 := by rw [hC2]; exact hX1.out X_no_M
  have hM2 : HAS (kM 79) (wMM G b (va_up mi 0 Rm.2) mj ma mb) C2 := by rw [hC2]; exact HAS.of kM_nd
  have hLw2 : LAWS G b C2 nl LL := by rw [hC2]; exact hLw1.outM
  exact ⟨congrArg (fun z => some (Value.int z)) hv.symm, xi, xj, xa, xb, xq, (va_up mi 0 Rm.2), mj, ma, mb, nl, LL, y, LO, hX2, hM2, hn, hLw2, hRM, hWF, hRX, hB, hLO, hI0, hI1, hK, hRR, hTP, hFP, hQU, hLY, hCI, hBT, hWD, hHW, hQ0, hQ1, hQ2⟩
set_option maxHeartbeats 4000000 in
set_option maxRecDepth 100000 in
theorem s_trusted {G : GT} {b : Nat} : S34 G b (INV G b) := by
  intro p1
  intro c n hI
  obtain ⟨xi, xj, xa, xb, xq, mi, mj, ma, mb, nl, LL, y, LO, hX, hM, hn, hLw, hRM, hWF, hRX, hB, hLO, hI0, hI1, hK, hRR, hTP, hFP, hQU, hLY, hCI, hBT, hWD, hHW, hQ0, hQ1, hQ2⟩ := hI
  obtain ⟨Fu, hFu⟩ : ∃ Fu : Nat, 6000 ≤ Fu := ⟨6000, Nat.le_refl _⟩
  obtain ⟨z, zl, zh, rfl⟩ := i32_any p1
  obtain ⟨Rm, hfm0, hrm⟩ : Rt (fX12_trusted Fu (mi 0) (ma 1) (-1 : Int32) (i32 z)) _ := m_trusted hFu hRM hWF zl zh
  have hfm : fX12_trusted Fu (mi 0) (ma 1) (mi 17) (i32 z) = some Rm := by rw [hBT]; exact hfm0
  obtain ⟨Rx, hfx, hrx⟩ : Rt (fX11_trusted Fu (xi 3) (xi 8) (xa 3) (xa 4) (xa 5) (i32 z)) _ := c_trusted hFu hWF hRX  zl zh
  have hv : Rx = Rm.1 := by rw [hrx, hrm]
  have hC := mX11_trusted (G := G) (b := b) (c0 := c) (n := n) (v0_faultPlace := (xi 0)) (v0_quashedRows := (xi 1)) (v0_lastRefusal := (xi 2)) (v1_meals := (xi 4)) (v1_seats := (xi 5)) (v1_laws := (xi 6)) (v1_inForce := (xi 7)) (v1_beasts := (xi 3)) (v6_cases := (xi 8)) (a7 := (xa 3)) (a8 := (xa 4)) (a9 := (xa 5)) ((e_wf_X (by omega)).pick [0, 1, 6, 7, 8, 9] rfl (by decide)) hfx
  rw [hX.sub kX_nd [0, 1, 6, 7, 8, 9] rfl rfl] at hC
  refine ⟨3, by decide, _, hC, ?_⟩
  rintro v C1 n1 ⟨rfl, hC1, rfl⟩
  have hX1 : HAS kX (wX G b xi xj xa xb xq) C1 := by rw [hC1]; exact hX
  have hM1 : HAS (kM 79) (wMM G b mi mj ma mb) C1 := by rw [hC1]; exact hM
  have hLw1 : LAWS G b C1 nl LL := by rw [hC1]; exact hLw
  have hCm := mX12_trusted (G := G) (b := b) (o := 79) (c0 := C1) (n := n1) (v_status := (mi 1)) (a_refusals := (ma 0)) (a_images := (ma 2)) (a_isKept := (ma 3)) (a_tape := (ma 4)) (v_taped := (mi 2)) (v_from := (mi 3)) (v_to := (mi 4)) (v_sort := (mi 5)) (v_worth := (mj 0)) (v_fault := (mi 6)) (v_bad := (mi 7)) (v_nClauses := (mi 8)) (a_nClause := (ma 5)) (v_nCode := (mi 9)) (a_nOp := (ma 6)) (a_nArg := (ma 7)) (v_nLeaves := (mi 10)) (a_pile := (ma 8)) (a_pileAt := (ma 9)) (v_piled := (mi 11)) (v_opened := (mi 12)) (a_words := (mb 0)) (a_headWords := (mb 1)) (v_law := (mi 13)) (a_set := (mb 2)) (a_rest := (mb 3)) (v_broken := (mi 14)) (v_value := (mj 1)) (v_sum := (mj 2)) (a_chances := (ma 10)) (a_votes := (mb 4)) (a_costs := (ma 11)) (a_table := (mb 5)) (a_prices := (ma 12)) (v_surely := (mj 3)) (a_mostBy := (mb 6)) (a_leastBy := (mb 7)) (v_between := (mj 4)) (v_steadyWays := (mi 15)) (v_quashed := (mi 16)) (a_figures := (ma 13)) (a_all := (ma 14)) (a_lies := (ma 15)) (a_since := (ma 16)) (v_last := (mi 18)) (v_state := (mj 5)) (v_thrown := (mi 0)) (a_row := (ma 1)) (v_but := (mi 17)) (e_wf_M (by omega)) hfm
  rw [hM1.ov] at hCm
  refine ⟨⟨by omega, _, hM1 0 79 _ rfl rfl⟩, ⟨_, rfl⟩, _, hCm, ?_⟩
  rintro v2 C2 n2 ⟨rfl, hC2, rfl⟩
  have hX2 : HAS kX (wX G b xi xj xa xb xq) C2 := by rw [hC2]; exact hX1.out X_no_M
  have hM2 : HAS (kM 79) (wMM G b (va_up mi 0 Rm.2) mj ma mb) C2 := by rw [hC2]; exact HAS.of kM_nd
  have hLw2 : LAWS G b C2 nl LL := by rw [hC2]; exact hLw1.outM
  exact ⟨congrArg (fun z => some (Value.int z)) hv.symm, xi, xj, xa, xb, xq, (va_up mi 0 Rm.2), mj, ma, mb, nl, LL, y, LO, hX2, hM2, hn, hLw2, hRM, hWF, hRX, hB, hLO, hI0, hI1, hK, hRR, hTP, hFP, hQU, hLY, hCI, hBT, hWD, hHW, hQ0, hQ1, hQ2⟩
set_option maxHeartbeats 4000000 in
set_option maxRecDepth 100000 in
theorem s_proof {G : GT} {b : Nat} : S35 G b (INV G b) := by
  intro p1 p2 p3
  intro c n hI
  obtain ⟨xi, xj, xa, xb, xq, mi, mj, ma, mb, nl, LL, y, LO, hX, hM, hn, hLw, hRM, hWF, hRX, hB, hLO, hI0, hI1, hK, hRR, hTP, hFP, hQU, hLY, hCI, hBT, hWD, hHW, hQ0, hQ1, hQ2⟩ := hI
  obtain ⟨Fu, hFu⟩ : ∃ Fu : Nat, 6000 ≤ Fu := ⟨6000, Nat.le_refl _⟩
  obtain ⟨z, zl, zh, rfl⟩ := i32_any p1
  obtain ⟨w, wl, wh, rfl⟩ := i32_any p2
  obtain ⟨u, ul, uh, rfl⟩ := i32_any p3
  obtain ⟨Rm, hfm0, hrm⟩ : Rt (fX12_proof Fu (mi 0) (ma 1) (-1 : Int32) (i32 z) (i32 w) (i32 u)) _ := m_proof hFu hRM hWF zl zh wl wh ul uh
  have hfm : fX12_proof Fu (mi 0) (ma 1) (mi 17) (i32 z) (i32 w) (i32 u) = some Rm := by rw [hBT]; exact hfm0
  obtain ⟨Rx, hfx, hrx⟩ : Rt (fX11_proof Fu (xa 2) (xi 8) (xa 3) (xa 4) (xa 5) (xj 2) (xj 3) (i32 z) (i32 w) (i32 u)) _ := c_proof hFu hWF hRX  zl zh wl wh ul uh
  have hv : Rx.1 = Rm.1 := by rw [hrx, hrm]
  have hC := mX11_proof (G := G) (b := b) (c0 := c) (n := n) (v0_faultPlace := (xi 0)) (v0_quashedRows := (xi 1)) (v0_lastRefusal := (xi 2)) (v1_beasts := (xi 3)) (v1_meals := (xi 4)) (v1_seats := (xi 5)) (v1_laws := (xi 6)) (v1_inForce := (xi 7)) (a4 := (xa 2)) (v6_cases := (xi 8)) (a7 := (xa 3)) (a8 := (xa 4)) (a9 := (xa 5)) (v73_upper := (xj 2)) (v73_lower := (xj 3)) ((e_wf_X (by omega)).pick [0, 1, 4, 6, 7, 8, 9, 73] rfl (by decide)) hfx
  rw [hX.sub kX_nd [0, 1, 4, 6, 7, 8, 9, 73] rfl rfl, hX.back kX_nd rfl [0, 1, 4, 6, 7, 8, 9, 73] rfl (wF' := (wX G b xi (va_up (va_up xj 2 Rx.2.1) 3 Rx.2.2) xa xb xq)) rfl] at hC
  refine ⟨3, by decide, _, hC, ?_⟩
  rintro v C1 n1 ⟨rfl, hC1, rfl⟩
  have hX1 : HAS kX (wX G b xi (va_up (va_up xj 2 Rx.2.1) 3 Rx.2.2) xa xb xq) C1 := by rw [hC1]; exact HAS.of kX_nd
  have hM1 : HAS (kM 79) (wMM G b mi mj ma mb) C1 := by rw [hC1]; exact hM.out M_no_X
  have hLw1 : LAWS G b C1 nl LL := by rw [hC1]; exact hLw.outX
  have hCm := mX12_proof (G := G) (b := b) (o := 79) (c0 := C1) (n := n1) (v_status := (mi 1)) (a_refusals := (ma 0)) (a_images := (ma 2)) (a_isKept := (ma 3)) (a_tape := (ma 4)) (v_taped := (mi 2)) (v_from := (mi 3)) (v_to := (mi 4)) (v_sort := (mi 5)) (v_worth := (mj 0)) (v_fault := (mi 6)) (v_bad := (mi 7)) (v_nClauses := (mi 8)) (a_nClause := (ma 5)) (v_nCode := (mi 9)) (a_nOp := (ma 6)) (a_nArg := (ma 7)) (v_nLeaves := (mi 10)) (a_pile := (ma 8)) (a_pileAt := (ma 9)) (v_piled := (mi 11)) (v_opened := (mi 12)) (a_words := (mb 0)) (a_headWords := (mb 1)) (v_law := (mi 13)) (a_set := (mb 2)) (a_rest := (mb 3)) (v_broken := (mi 14)) (v_value := (mj 1)) (v_sum := (mj 2)) (a_chances := (ma 10)) (a_votes := (mb 4)) (a_costs := (ma 11)) (a_table := (mb 5)) (a_prices := (ma 12)) (v_surely := (mj 3)) (a_mostBy := (mb 6)) (a_leastBy := (mb 7)) (v_between := (mj 4)) (v_steadyWays := (mi 15)) (v_quashed := (mi 16)) (a_figures := (ma 13)) (a_all := (ma 14)) (a_lies := (ma 15)) (a_since := (ma 16)) (v_last := (mi 18)) (v_state := (mj 5)) (v_thrown := (mi 0)) (a_row := (ma 1)) (v_but := (mi 17)) (e_wf_M (by omega)) hfm
  rw [hM1.ov] at hCm
  refine ⟨⟨by omega, _, hM1 0 79 _ rfl rfl⟩, ⟨_, rfl⟩, _, hCm, ?_⟩
  rintro v2 C2 n2 ⟨rfl, hC2, rfl⟩
  have hX2 : HAS kX (wX G b xi (va_up (va_up xj 2 Rx.2.1) 3 Rx.2.2) xa xb xq) C2 := by rw [hC2]; exact hX1.out X_no_M
  have hM2 : HAS (kM 79) (wMM G b (va_up mi 0 Rm.2) mj ma mb) C2 := by rw [hC2]; exact HAS.of kM_nd
  have hLw2 : LAWS G b C2 nl LL := by rw [hC2]; exact hLw1.outM
  exact ⟨congrArg (fun z => some (Value.long z)) hv.symm, xi, (va_up (va_up xj 2 Rx.2.1) 3 Rx.2.2), xa, xb, xq, (va_up mi 0 Rm.2), mj, ma, mb, nl, LL, y, LO, hX2, hM2, hn, hLw2, hRM, hWF, hRX, hB, hLO, hI0, hI1, hK, hRR, hTP, hFP, hQU, hLY, hCI, hBT, hWD, hHW, hQ0, hQ1, hQ2⟩
set_option maxHeartbeats 4000000 in
set_option maxRecDepth 100000 in
theorem s_again {G : GT} {b : Nat} : S33 G b (INV G b) := by
  intro p1 p2
  intro c n hI
  obtain ⟨xi, xj, xa, xb, xq, mi, mj, ma, mb, nl, LL, y, LO, hX, hM, hn, hLw, hRM, hWF, hRX, hB, hLO, hI0, hI1, hK, hRR, hTP, hFP, hQU, hLY, hCI, hBT, hWD, hHW, hQ0, hQ1, hQ2⟩ := hI
  obtain ⟨Fu, hFu⟩ : ∃ Fu : Nat, 6000 ≤ Fu := ⟨6000, Nat.le_refl _⟩
  obtain ⟨z, zl, zh, rfl⟩ := i32_any p1
  obtain ⟨w, wl, wh, rfl⟩ := i32_any p2
  obtain ⟨Rm, hfm0, hrm⟩ : Rt (fX12_again Fu (mi 0) (ma 1) (-1 : Int32) (i32 z) (i32 w)) _ := m_again hFu hRM hWF zl zh wl wh
  obtain ⟨hrm, hbt⟩ := hrm
  have hfm : fX12_again Fu (mi 0) (ma 1) (mi 17) (i32 z) (i32 w) = some Rm := by rw [hBT]; exact hfm0
  obtain ⟨Rx, hfx, hrx⟩ : Rt (fX11_again Fu (xa 2) (xi 8) (xa 3) (xa 4) (xa 5) (xj 2) (xj 3) (i32 z) (i32 w)) _ := c_again hFu hWF hRX  zl zh wl wh
  have hv : Rx.1 = Rm.1 := by rw [hrx, hrm]
  have hC := mX11_again (G := G) (b := b) (c0 := c) (n := n) (v0_faultPlace := (xi 0)) (v0_quashedRows := (xi 1)) (v0_lastRefusal := (xi 2)) (v1_beasts := (xi 3)) (v1_meals := (xi 4)) (v1_seats := (xi 5)) (v1_laws := (xi 6)) (v1_inForce := (xi 7)) (a4 := (xa 2)) (v6_cases := (xi 8)) (a7 := (xa 3)) (a8 := (xa 4)) (a9 := (xa 5)) (v73_upper := (xj 2)) (v73_lower := (xj 3)) ((e_wf_X (by omega)).pick [0, 1, 4, 6, 7, 8, 9, 73] rfl (by decide)) hfx
  rw [hX.sub kX_nd [0, 1, 4, 6, 7, 8, 9, 73] rfl rfl, hX.back kX_nd rfl [0, 1, 4, 6, 7, 8, 9, 73] rfl (wF' := (wX G b xi (va_up (va_up xj 2 Rx.2.1) 3 Rx.2.2) xa xb xq)) rfl] at hC
  refine ⟨3, by decide, _, hC, ?_⟩
  rintro v C1 n1 ⟨rfl, hC1, rfl⟩
  have hX1 : HAS kX (wX G b xi (va_up (va_up xj 2 Rx.2.1) 3 Rx.2.2) xa xb xq) C1 := by rw [hC1]; exact HAS.of kX_nd
  have hM1 : HAS (kM 79) (wMM G b mi mj ma mb) C1 := by rw [hC1]; exact hM.out M_no_X
  have hLw1 : LAWS G b C1 nl LL := by rw [hC1]; exact hLw.outX
  have hCm := mX12_again (G := G) (b := b) (o := 79) (c0 := C1) (n := n1) (v_status := (mi 1)) (a_refusals := (ma 0)) (a_images := (ma 2)) (a_isKept := (ma 3)) (a_tape := (ma 4)) (v_taped := (mi 2)) (v_from := (mi 3)) (v_to := (mi 4)) (v_sort := (mi 5)) (v_worth := (mj 0)) (v_fault := (mi 6)) (v_bad := (mi 7)) (v_nClauses := (mi 8)) (a_nClause := (ma 5)) (v_nCode := (mi 9)) (a_nOp := (ma 6)) (a_nArg := (ma 7)) (v_nLeaves := (mi 10)) (a_pile := (ma 8)) (a_pileAt := (ma 9)) (v_piled := (mi 11)) (v_opened := (mi 12)) (a_words := (mb 0)) (a_headWords := (mb 1)) (v_law := (mi 13)) (a_set := (mb 2)) (a_rest := (mb 3)) (v_broken := (mi 14)) (v_value := (mj 1)) (v_sum := (mj 2)) (a_chances := (ma 10)) (a_votes := (mb 4)) (a_costs := (ma 11)) (a_table := (mb 5)) (a_prices := (ma 12)) (v_surely := (mj 3)) (a_mostBy := (mb 6)) (a_leastBy := (mb 7)) (v_between := (mj 4)) (v_steadyWays := (mi 15)) (v_quashed := (mi 16)) (a_figures := (ma 13)) (a_all := (ma 14)) (a_lies := (ma 15)) (a_since := (ma 16)) (v_last := (mi 18)) (v_state := (mj 5)) (v_thrown := (mi 0)) (a_row := (ma 1)) (v_but := (mi 17)) (e_wf_M (by omega)) hfm
  rw [hM1.ov] at hCm
  refine ⟨⟨by omega, _, hM1 0 79 _ rfl rfl⟩, ⟨_, rfl⟩, _, hCm, ?_⟩
  rintro v2 C2 n2 ⟨rfl, hC2, rfl⟩
  have hX2 : HAS kX (wX G b xi (va_up (va_up xj 2 Rx.2.1) 3 Rx.2.2) xa xb xq) C2 := by rw [hC2]; exact hX1.out X_no_M
  have hM2 : HAS (kM 79) (wMM G b (va_up (va_up mi 0 Rm.2.1) 17 Rm.2.2) mj ma mb) C2 := by rw [hC2]; exact HAS.of kM_nd
  have hLw2 : LAWS G b C2 nl LL := by rw [hC2]; exact hLw1.outM
  exact ⟨congrArg (fun z => some (Value.long z)) hv.symm, xi, (va_up (va_up xj 2 Rx.2.1) 3 Rx.2.2), xa, xb, xq, (va_up (va_up mi 0 Rm.2.1) 17 Rm.2.2), mj, ma, mb, nl, LL, y, LO, hX2, hM2, hn, hLw2, hRM, hWF, hRX, hB, hLO, hI0, hI1, hK, hRR, hTP, hFP, hQU, hLY, hCI, hbt, hWD, hHW, hQ0, hQ1, hQ2⟩
set_option maxHeartbeats 4000000 in
set_option maxRecDepth 100000 in
theorem s_chance {G : GT} {b : Nat} : S15 G b (INV G b) := by
  intro p1 p2 p3
  intro c n hI
  obtain ⟨xi, xj, xa, xb, xq, mi, mj, ma, mb, nl, LL, y, LO, hX, hM, hn, hLw, hRM, hWF, hRX, hB, hLO, hI0, hI1, hK, hRR, hTP, hFP, hQU, hLY, hCI, hBT, hWD, hHW, hQ0, hQ1, hQ2⟩ := hI
  obtain ⟨Fu, hFu⟩ : ∃ Fu : Nat, 6000 ≤ Fu := ⟨6000, Nat.le_refl _⟩
  obtain ⟨z, zl, zh, rfl⟩ := i32_any p1
  obtain ⟨w, wl, wh, rfl⟩ := i32_any p2
  obtain ⟨u, ul, uh, rfl⟩ := i32_any p3
  have hO := hLO.mo
  obtain ⟨Rm, hfm, hrm⟩ : Rt (fX12_chance Fu (mi 0) (ma 1) (mi 13) (mb 2) (mb 3) (mi 14) (mj 1) (mj 2) (i32 z) (i32 w) (i32 u)) _ := m_chance hFu hRM hWF hO zl zh wl wh ul uh
  have hLOk := hLO
  rcases hLO with ⟨hl0, hl3⟩ | ⟨j, hj, hl0, hl3, hl5, hlm⟩
  · have hH : HN y LO := ⟨hl0, hl3⟩
    obtain ⟨Rx, hfx, hrx⟩ : Rt (fX11_chance_N Fu (xi 3) (xi 6) (xi 7) (xa 0) (xa 1) (xa 2) (xq 0) (xa 24) (i32 z) (i32 w) (i32 u)) _ := c_chance_N hFu hWF hRX hH _ zl zh wl wh ul uh
    have hv : Rx.1 = Rm.1 := by rw [hrx, hrm]
    have hC := mX11_chance_N (G := G) (b := b) (c0 := c) (n := n) (v0_faultPlace := (xi 0)) (v0_quashedRows := (xi 1)) (v0_lastRefusal := (xi 2)) (v1_meals := (xi 4)) (v1_seats := (xi 5)) (v37_height := (xi 30)) (v37_answer := (xj 0)) (v1_beasts := (xi 3)) (v1_laws := (xi 6)) (v1_inForce := (xi 7)) (a2 := (xa 0)) (a3 := (xa 1)) (a4 := (xa 2)) (a5 := (xq 0)) (a38 := (xa 24)) ((e_wf_X (by omega)).pick [0, 1, 2, 3, 4, 5, 37, 38] rfl (by decide)) hfx
    rw [hX.sub kX_nd [0, 1, 2, 3, 4, 5, 37, 38] rfl rfl, hX.back kX_nd rfl [0, 1, 2, 3, 4, 5, 37, 38] rfl (wF' := (wX G b xi xj (va_up xa 24 Rx.2) xb xq)) rfl] at hC
    refine ⟨4, by decide, _, hC, ?_⟩
    rintro v C1 n1 ⟨rfl, hC1, rfl⟩
    have hX1 : HAS kX (wX G b xi xj (va_up xa 24 Rx.2) xb xq) C1 := by rw [hC1]; exact HAS.of kX_nd
    have hM1 : HAS (kM 79) (wMM G b mi mj ma mb) C1 := by rw [hC1]; exact hM.out M_no_X
    have hLw1 : LAWS G b C1 nl LL := by rw [hC1]; exact hLw.outX
    have hCm := mX12_chance (G := G) (b := b) (o := 79) (c0 := C1) (n := n1) (v_status := (mi 1)) (a_refusals := (ma 0)) (a_images := (ma 2)) (a_isKept := (ma 3)) (a_tape := (ma 4)) (v_taped := (mi 2)) (v_from := (mi 3)) (v_to := (mi 4)) (v_sort := (mi 5)) (v_worth := (mj 0)) (v_fault := (mi 6)) (v_bad := (mi 7)) (v_nClauses := (mi 8)) (a_nClause := (ma 5)) (v_nCode := (mi 9)) (a_nOp := (ma 6)) (a_nArg := (ma 7)) (v_nLeaves := (mi 10)) (a_pile := (ma 8)) (a_pileAt := (ma 9)) (v_piled := (mi 11)) (v_opened := (mi 12)) (a_words := (mb 0)) (a_headWords := (mb 1)) (a_chances := (ma 10)) (a_votes := (mb 4)) (a_costs := (ma 11)) (a_table := (mb 5)) (a_prices := (ma 12)) (v_surely := (mj 3)) (a_mostBy := (mb 6)) (a_leastBy := (mb 7)) (v_between := (mj 4)) (v_steadyWays := (mi 15)) (v_quashed := (mi 16)) (v_but := (mi 17)) (a_figures := (ma 13)) (a_all := (ma 14)) (a_lies := (ma 15)) (a_since := (ma 16)) (v_last := (mi 18)) (v_state := (mj 5)) (v_thrown := (mi 0)) (a_row := (ma 1)) (v_law := (mi 13)) (a_set := (mb 2)) (a_rest := (mb 3)) (v_broken := (mi 14)) (v_value := (mj 1)) (v_sum := (mj 2)) (e_wf_M (by omega)) hfm
    rw [hM1.ov] at hCm
    refine ⟨⟨by omega, _, hM1 0 79 _ rfl rfl⟩, ⟨_, rfl⟩, _, hCm, ?_⟩
    rintro v2 C2 n2 ⟨rfl, hC2, rfl⟩
    have hX2 : HAS kX (wX G b xi xj (va_up xa 24 Rx.2) xb xq) C2 := by rw [hC2]; exact hX1.out X_no_M
    have hM2 : HAS (kM 79) (wMM G b (va_up (va_up (va_up mi 0 Rm.2.1) 13 Rm.2.2.1) 14 Rm.2.2.2.2.2.1) (va_up (va_up mj 1 Rm.2.2.2.2.2.2.1) 2 Rm.2.2.2.2.2.2.2) ma (va_up (va_up mb 2 Rm.2.2.2.1) 3 Rm.2.2.2.2.1)) C2 := by rw [hC2]; exact HAS.of kM_nd
    have hLw2 : LAWS G b C2 nl LL := by rw [hC2]; exact hLw1.outM
    exact ⟨congrArg (fun z => some (Value.int z)) hv.symm, xi, xj, (va_up xa 24 Rx.2), xb, xq, (va_up (va_up (va_up mi 0 Rm.2.1) 13 Rm.2.2.1) 14 Rm.2.2.2.2.2.1), (va_up (va_up mj 1 Rm.2.2.2.2.2.2.1) 2 Rm.2.2.2.2.2.2.2), ma, (va_up (va_up mb 2 Rm.2.2.2.1) 3 Rm.2.2.2.2.1), nl, LL, y, LO, hX2, hM2, hn, hLw2, hRM, hWF, hRX, hB, hLOk, hI0, hI1, hK, hRR, hTP, hFP, hQU, hLY, hCI, hBT, hWD, hHW, hQ0, hQ1, hQ2⟩
  · obtain ⟨nh, nt, ne, ns, aL1, aL2, aL3, aL4, hLc, hLX⟩ := hLw j hj
    have hH : HL y LO nh nt ne ns b (105 + 5 * j) (xq 0) aL1 aL2 aL3 aL4 := ⟨LL j, hl0, hl3, hl5, hLX⟩
    obtain ⟨Rx, hfx, hrx⟩ : Rt (fX11_chance_L Fu nh nt ne ns b (105 + 5 * j) (xi 3) (xi 6) (xi 7) (xa 0) (xa 1) (xa 2) (xq 0) (xi 30) (xj 0) (xa 24) (xb 0) aL1 aL2 aL3 aL4 (i32 z) (i32 w) (i32 u)) _ := c_chance_L hFu hWF hRX hH _ _ _ _ zl zh wl wh ul uh
    have hv : Rx.1 = Rm.1 := by rw [hrx, hrm]
    have hXL := hX.app hLc rfl
    have hC := mX11_chance_L (G := G) (b := b) (q := 105 + 5 * j) (nh := nh) (nt := nt) (ne := ne) (ns := ns) (c0 := c) (n := n) (v0_faultPlace := (xi 0)) (v0_quashedRows := (xi 1)) (v0_lastRefusal := (xi 2)) (v1_meals := (xi 4)) (v1_seats := (xi 5)) (v1_beasts := (xi 3)) (v1_laws := (xi 6)) (v1_inForce := (xi 7)) (a2 := (xa 0)) (a3 := (xa 1)) (a4 := (xa 2)) (a5 := (xq 0)) (v37_height := (xi 30)) (v37_answer := (xj 0)) (a38 := (xa 24)) (a39 := (xb 0)) (aL1 := aL1) (aL2 := aL2) (aL3 := aL3) (aL4 := aL4) ((e_wf_XL (q := 105 + 5 * j) (by omega) (by omega)).pick [0, 1, 2, 3, 4, 5, 37, 38, 39, 79, 80, 81, 82, 83] rfl (pick_nodup (kXL_nd (by omega)) [0, 1, 2, 3, 4, 5, 37, 38, 39, 79, 80, 81, 82, 83] (by decide) rfl)) hfx
    rw [hXL.sub (kXL_nd (by omega)) [0, 1, 2, 3, 4, 5, 37, 38, 39, 79, 80, 81, 82, 83] rfl rfl, hXL.back (kXL_nd (by omega)) rfl [0, 1, 2, 3, 4, 5, 37, 38, 39, 79, 80, 81, 82, 83] rfl (wF' := (wX G b (va_up xi 30 Rx.2.1) (va_up xj 0 Rx.2.2.1) (va_up xa 24 Rx.2.2.2.1) (va_up xb 0 Rx.2.2.2.2) xq) ++ wL G b (105 + 5 * j) nh nt ne ns aL1 aL2 aL3 aL4) rfl, e_ov_cat (ks := kX) (es := (wX G b (va_up xi 30 Rx.2.1) (va_up xj 0 Rx.2.2.1) (va_up xa 24 Rx.2.2.2.1) (va_up xb 0 Rx.2.2.2.2) xq)) rfl, hLc.ov] at hC
    refine ⟨5, by decide, _, hC, ?_⟩
    rintro v C1 n1 ⟨rfl, hC1, rfl⟩
    have hX1 : HAS kX (wX G b (va_up xi 30 Rx.2.1) (va_up xj 0 Rx.2.2.1) (va_up xa 24 Rx.2.2.2.1) (va_up xb 0 Rx.2.2.2.2) xq) C1 := by rw [hC1]; exact HAS.of kX_nd
    have hM1 : HAS (kM 79) (wMM G b mi mj ma mb) C1 := by rw [hC1]; exact hM.out M_no_X
    have hLw1 : LAWS G b C1 nl LL := by rw [hC1]; exact hLw.outX
    have hCm := mX12_chance (G := G) (b := b) (o := 79) (c0 := C1) (n := n1) (v_status := (mi 1)) (a_refusals := (ma 0)) (a_images := (ma 2)) (a_isKept := (ma 3)) (a_tape := (ma 4)) (v_taped := (mi 2)) (v_from := (mi 3)) (v_to := (mi 4)) (v_sort := (mi 5)) (v_worth := (mj 0)) (v_fault := (mi 6)) (v_bad := (mi 7)) (v_nClauses := (mi 8)) (a_nClause := (ma 5)) (v_nCode := (mi 9)) (a_nOp := (ma 6)) (a_nArg := (ma 7)) (v_nLeaves := (mi 10)) (a_pile := (ma 8)) (a_pileAt := (ma 9)) (v_piled := (mi 11)) (v_opened := (mi 12)) (a_words := (mb 0)) (a_headWords := (mb 1)) (a_chances := (ma 10)) (a_votes := (mb 4)) (a_costs := (ma 11)) (a_table := (mb 5)) (a_prices := (ma 12)) (v_surely := (mj 3)) (a_mostBy := (mb 6)) (a_leastBy := (mb 7)) (v_between := (mj 4)) (v_steadyWays := (mi 15)) (v_quashed := (mi 16)) (v_but := (mi 17)) (a_figures := (ma 13)) (a_all := (ma 14)) (a_lies := (ma 15)) (a_since := (ma 16)) (v_last := (mi 18)) (v_state := (mj 5)) (v_thrown := (mi 0)) (a_row := (ma 1)) (v_law := (mi 13)) (a_set := (mb 2)) (a_rest := (mb 3)) (v_broken := (mi 14)) (v_value := (mj 1)) (v_sum := (mj 2)) (e_wf_M (by omega)) hfm
    rw [hM1.ov] at hCm
    refine ⟨⟨by omega, _, hM1 0 79 _ rfl rfl⟩, ⟨_, rfl⟩, _, hCm, ?_⟩
    rintro v2 C2 n2 ⟨rfl, hC2, rfl⟩
    have hX2 : HAS kX (wX G b (va_up xi 30 Rx.2.1) (va_up xj 0 Rx.2.2.1) (va_up xa 24 Rx.2.2.2.1) (va_up xb 0 Rx.2.2.2.2) xq) C2 := by rw [hC2]; exact hX1.out X_no_M
    have hM2 : HAS (kM 79) (wMM G b (va_up (va_up (va_up mi 0 Rm.2.1) 13 Rm.2.2.1) 14 Rm.2.2.2.2.2.1) (va_up (va_up mj 1 Rm.2.2.2.2.2.2.1) 2 Rm.2.2.2.2.2.2.2) ma (va_up (va_up mb 2 Rm.2.2.2.1) 3 Rm.2.2.2.2.1)) C2 := by rw [hC2]; exact HAS.of kM_nd
    have hLw2 : LAWS G b C2 nl LL := by rw [hC2]; exact hLw1.outM
    exact ⟨congrArg (fun z => some (Value.int z)) hv.symm, (va_up xi 30 Rx.2.1), (va_up xj 0 Rx.2.2.1), (va_up xa 24 Rx.2.2.2.1), (va_up xb 0 Rx.2.2.2.2), xq, (va_up (va_up (va_up mi 0 Rm.2.1) 13 Rm.2.2.1) 14 Rm.2.2.2.2.2.1), (va_up (va_up mj 1 Rm.2.2.2.2.2.2.1) 2 Rm.2.2.2.2.2.2.2), ma, (va_up (va_up mb 2 Rm.2.2.2.1) 3 Rm.2.2.2.2.1), nl, LL, y, LO, hX2, hM2, hn, hLw2, hRM, hWF, hRX, hB, hLOk, hI0, hI1, hK, hRR, hTP, hFP, hQU, hLY, hCI, hBT, hWD, hHW, hQ0, hQ1, hQ2⟩
set_option maxHeartbeats 4000000 in
set_option maxRecDepth 100000 in
theorem s_price {G : GT} {b : Nat} : S16 G b (INV G b) := by
  intro p1 p2
  intro c n hI
  obtain ⟨xi, xj, xa, xb, xq, mi, mj, ma, mb, nl, LL, y, LO, hX, hM, hn, hLw, hRM, hWF, hRX, hB, hLO, hI0, hI1, hK, hRR, hTP, hFP, hQU, hLY, hCI, hBT, hWD, hHW, hQ0, hQ1, hQ2⟩ := hI
  obtain ⟨Fu, hFu⟩ : ∃ Fu : Nat, 6000 ≤ Fu := ⟨6000, Nat.le_refl _⟩
  obtain ⟨z, zl, zh, rfl⟩ := i32_any p1
  obtain ⟨w, wl, wh, rfl⟩ := i32_any p2
  have hO := hLO.mo
  obtain ⟨Rm, hfm, hrm⟩ : Rt (fX12_price Fu (mi 0) (ma 1) (mi 13) (mb 2) (mb 3) (mi 14) (mj 1) (mj 2) (i32 z) (i32 w)) _ := m_price hFu hRM hWF hO zl zh wl wh
  have hLOk := hLO
  rcases hLO with ⟨hl0, hl3⟩ | ⟨j, hj, hl0, hl3, hl5, hlm⟩
  · have hH : HN y LO := ⟨hl0, hl3⟩
    obtain ⟨Rx, hfx, hrx⟩ : Rt (fX11_price_N Fu (xi 3) (xi 6) (xi 7) (xa 0) (xa 1) (xa 2) (xq 0) (xa 24) (i32 z) (i32 w)) _ := c_price_N hFu hWF hRX hH _ zl zh wl wh
    have hv : Rx.1 = Rm.1 := by rw [hrx, hrm]
    have hC := mX11_price_N (G := G) (b := b) (c0 := c) (n := n) (v0_faultPlace := (xi 0)) (v0_quashedRows := (xi 1)) (v0_lastRefusal := (xi 2)) (v1_meals := (xi 4)) (v1_seats := (xi 5)) (v37_height := (xi 30)) (v37_answer := (xj 0)) (v1_beasts := (xi 3)) (v1_laws := (xi 6)) (v1_inForce := (xi 7)) (a2 := (xa 0)) (a3 := (xa 1)) (a4 := (xa 2)) (a5 := (xq 0)) (a38 := (xa 24)) ((e_wf_X (by omega)).pick [0, 1, 2, 3, 4, 5, 37, 38] rfl (by decide)) hfx
    rw [hX.sub kX_nd [0, 1, 2, 3, 4, 5, 37, 38] rfl rfl, hX.back kX_nd rfl [0, 1, 2, 3, 4, 5, 37, 38] rfl (wF' := (wX G b xi xj (va_up xa 24 Rx.2) xb xq)) rfl] at hC
    refine ⟨4, by decide, _, hC, ?_⟩
    rintro v C1 n1 ⟨rfl, hC1, rfl⟩
    have hX1 : HAS kX (wX G b xi xj (va_up xa 24 Rx.2) xb xq) C1 := by rw [hC1]; exact HAS.of kX_nd
    have hM1 : HAS (kM 79) (wMM G b mi mj ma mb) C1 := by rw [hC1]; exact hM.out M_no_X
    have hLw1 : LAWS G b C1 nl LL := by rw [hC1]; exact hLw.outX
    have hCm := mX12_price (G := G) (b := b) (o := 79) (c0 := C1) (n := n1) (v_status := (mi 1)) (a_refusals := (ma 0)) (a_images := (ma 2)) (a_isKept := (ma 3)) (a_tape := (ma 4)) (v_taped := (mi 2)) (v_from := (mi 3)) (v_to := (mi 4)) (v_sort := (mi 5)) (v_worth := (mj 0)) (v_fault := (mi 6)) (v_bad := (mi 7)) (v_nClauses := (mi 8)) (a_nClause := (ma 5)) (v_nCode := (mi 9)) (a_nOp := (ma 6)) (a_nArg := (ma 7)) (v_nLeaves := (mi 10)) (a_pile := (ma 8)) (a_pileAt := (ma 9)) (v_piled := (mi 11)) (v_opened := (mi 12)) (a_words := (mb 0)) (a_headWords := (mb 1)) (a_chances := (ma 10)) (a_votes := (mb 4)) (a_costs := (ma 11)) (a_table := (mb 5)) (a_prices := (ma 12)) (v_surely := (mj 3)) (a_mostBy := (mb 6)) (a_leastBy := (mb 7)) (v_between := (mj 4)) (v_steadyWays := (mi 15)) (v_quashed := (mi 16)) (v_but := (mi 17)) (a_figures := (ma 13)) (a_all := (ma 14)) (a_lies := (ma 15)) (a_since := (ma 16)) (v_last := (mi 18)) (v_state := (mj 5)) (v_thrown := (mi 0)) (a_row := (ma 1)) (v_law := (mi 13)) (a_set := (mb 2)) (a_rest := (mb 3)) (v_broken := (mi 14)) (v_value := (mj 1)) (v_sum := (mj 2)) (e_wf_M (by omega)) hfm
    rw [hM1.ov] at hCm
    refine ⟨⟨by omega, _, hM1 0 79 _ rfl rfl⟩, ⟨_, rfl⟩, _, hCm, ?_⟩
    rintro v2 C2 n2 ⟨rfl, hC2, rfl⟩
    have hX2 : HAS kX (wX G b xi xj (va_up xa 24 Rx.2) xb xq) C2 := by rw [hC2]; exact hX1.out X_no_M
    have hM2 : HAS (kM 79) (wMM G b (va_up (va_up (va_up mi 0 Rm.2.1) 13 Rm.2.2.1) 14 Rm.2.2.2.2.2.1) (va_up (va_up mj 1 Rm.2.2.2.2.2.2.1) 2 Rm.2.2.2.2.2.2.2) ma (va_up (va_up mb 2 Rm.2.2.2.1) 3 Rm.2.2.2.2.1)) C2 := by rw [hC2]; exact HAS.of kM_nd
    have hLw2 : LAWS G b C2 nl LL := by rw [hC2]; exact hLw1.outM
    exact ⟨congrArg (fun z => some (Value.int z)) hv.symm, xi, xj, (va_up xa 24 Rx.2), xb, xq, (va_up (va_up (va_up mi 0 Rm.2.1) 13 Rm.2.2.1) 14 Rm.2.2.2.2.2.1), (va_up (va_up mj 1 Rm.2.2.2.2.2.2.1) 2 Rm.2.2.2.2.2.2.2), ma, (va_up (va_up mb 2 Rm.2.2.2.1) 3 Rm.2.2.2.2.1), nl, LL, y, LO, hX2, hM2, hn, hLw2, hRM, hWF, hRX, hB, hLOk, hI0, hI1, hK, hRR, hTP, hFP, hQU, hLY, hCI, hBT, hWD, hHW, hQ0, hQ1, hQ2⟩
  · obtain ⟨nh, nt, ne, ns, aL1, aL2, aL3, aL4, hLc, hLX⟩ := hLw j hj
    have hH : HL y LO nh nt ne ns b (105 + 5 * j) (xq 0) aL1 aL2 aL3 aL4 := ⟨LL j, hl0, hl3, hl5, hLX⟩
    obtain ⟨Rx, hfx, hrx⟩ : Rt (fX11_price_L Fu nh nt ne ns b (105 + 5 * j) (xi 3) (xi 6) (xi 7) (xa 0) (xa 1) (xa 2) (xq 0) (xi 30) (xj 0) (xa 24) (xb 0) aL1 aL2 aL3 aL4 (i32 z) (i32 w)) _ := c_price_L hFu hWF hRX hH _ _ _ _ zl zh wl wh
    have hv : Rx.1 = Rm.1 := by rw [hrx, hrm]
    have hXL := hX.app hLc rfl
    have hC := mX11_price_L (G := G) (b := b) (q := 105 + 5 * j) (nh := nh) (nt := nt) (ne := ne) (ns := ns) (c0 := c) (n := n) (v0_faultPlace := (xi 0)) (v0_quashedRows := (xi 1)) (v0_lastRefusal := (xi 2)) (v1_meals := (xi 4)) (v1_seats := (xi 5)) (v1_beasts := (xi 3)) (v1_laws := (xi 6)) (v1_inForce := (xi 7)) (a2 := (xa 0)) (a3 := (xa 1)) (a4 := (xa 2)) (a5 := (xq 0)) (v37_height := (xi 30)) (v37_answer := (xj 0)) (a38 := (xa 24)) (a39 := (xb 0)) (aL1 := aL1) (aL2 := aL2) (aL3 := aL3) (aL4 := aL4) ((e_wf_XL (q := 105 + 5 * j) (by omega) (by omega)).pick [0, 1, 2, 3, 4, 5, 37, 38, 39, 79, 80, 81, 82, 83] rfl (pick_nodup (kXL_nd (by omega)) [0, 1, 2, 3, 4, 5, 37, 38, 39, 79, 80, 81, 82, 83] (by decide) rfl)) hfx
    rw [hXL.sub (kXL_nd (by omega)) [0, 1, 2, 3, 4, 5, 37, 38, 39, 79, 80, 81, 82, 83] rfl rfl, hXL.back (kXL_nd (by omega)) rfl [0, 1, 2, 3, 4, 5, 37, 38, 39, 79, 80, 81, 82, 83] rfl (wF' := (wX G b (va_up xi 30 Rx.2.1) (va_up xj 0 Rx.2.2.1) (va_up xa 24 Rx.2.2.2.1) (va_up xb 0 Rx.2.2.2.2) xq) ++ wL G b (105 + 5 * j) nh nt ne ns aL1 aL2 aL3 aL4) rfl, e_ov_cat (ks := kX) (es := (wX G b (va_up xi 30 Rx.2.1) (va_up xj 0 Rx.2.2.1) (va_up xa 24 Rx.2.2.2.1) (va_up xb 0 Rx.2.2.2.2) xq)) rfl, hLc.ov] at hC
    refine ⟨5, by decide, _, hC, ?_⟩
    rintro v C1 n1 ⟨rfl, hC1, rfl⟩
    have hX1 : HAS kX (wX G b (va_up xi 30 Rx.2.1) (va_up xj 0 Rx.2.2.1) (va_up xa 24 Rx.2.2.2.1) (va_up xb 0 Rx.2.2.2.2) xq) C1 := by rw [hC1]; exact HAS.of kX_nd
    have hM1 : HAS (kM 79) (wMM G b mi mj ma mb) C1 := by rw [hC1]; exact hM.out M_no_X
    have hLw1 : LAWS G b C1 nl LL := by rw [hC1]; exact hLw.outX
    have hCm := mX12_price (G := G) (b := b) (o := 79) (c0 := C1) (n := n1) (v_status := (mi 1)) (a_refusals := (ma 0)) (a_images := (ma 2)) (a_isKept := (ma 3)) (a_tape := (ma 4)) (v_taped := (mi 2)) (v_from := (mi 3)) (v_to := (mi 4)) (v_sort := (mi 5)) (v_worth := (mj 0)) (v_fault := (mi 6)) (v_bad := (mi 7)) (v_nClauses := (mi 8)) (a_nClause := (ma 5)) (v_nCode := (mi 9)) (a_nOp := (ma 6)) (a_nArg := (ma 7)) (v_nLeaves := (mi 10)) (a_pile := (ma 8)) (a_pileAt := (ma 9)) (v_piled := (mi 11)) (v_opened := (mi 12)) (a_words := (mb 0)) (a_headWords := (mb 1)) (a_chances := (ma 10)) (a_votes := (mb 4)) (a_costs := (ma 11)) (a_table := (mb 5)) (a_prices := (ma 12)) (v_surely := (mj 3)) (a_mostBy := (mb 6)) (a_leastBy := (mb 7)) (v_between := (mj 4)) (v_steadyWays := (mi 15)) (v_quashed := (mi 16)) (v_but := (mi 17)) (a_figures := (ma 13)) (a_all := (ma 14)) (a_lies := (ma 15)) (a_since := (ma 16)) (v_last := (mi 18)) (v_state := (mj 5)) (v_thrown := (mi 0)) (a_row := (ma 1)) (v_law := (mi 13)) (a_set := (mb 2)) (a_rest := (mb 3)) (v_broken := (mi 14)) (v_value := (mj 1)) (v_sum := (mj 2)) (e_wf_M (by omega)) hfm
    rw [hM1.ov] at hCm
    refine ⟨⟨by omega, _, hM1 0 79 _ rfl rfl⟩, ⟨_, rfl⟩, _, hCm, ?_⟩
    rintro v2 C2 n2 ⟨rfl, hC2, rfl⟩
    have hX2 : HAS kX (wX G b (va_up xi 30 Rx.2.1) (va_up xj 0 Rx.2.2.1) (va_up xa 24 Rx.2.2.2.1) (va_up xb 0 Rx.2.2.2.2) xq) C2 := by rw [hC2]; exact hX1.out X_no_M
    have hM2 : HAS (kM 79) (wMM G b (va_up (va_up (va_up mi 0 Rm.2.1) 13 Rm.2.2.1) 14 Rm.2.2.2.2.2.1) (va_up (va_up mj 1 Rm.2.2.2.2.2.2.1) 2 Rm.2.2.2.2.2.2.2) ma (va_up (va_up mb 2 Rm.2.2.2.1) 3 Rm.2.2.2.2.1)) C2 := by rw [hC2]; exact HAS.of kM_nd
    have hLw2 : LAWS G b C2 nl LL := by rw [hC2]; exact hLw1.outM
    exact ⟨congrArg (fun z => some (Value.int z)) hv.symm, (va_up xi 30 Rx.2.1), (va_up xj 0 Rx.2.2.1), (va_up xa 24 Rx.2.2.2.1), (va_up xb 0 Rx.2.2.2.2), xq, (va_up (va_up (va_up mi 0 Rm.2.1) 13 Rm.2.2.1) 14 Rm.2.2.2.2.2.1), (va_up (va_up mj 1 Rm.2.2.2.2.2.2.1) 2 Rm.2.2.2.2.2.2.2), ma, (va_up (va_up mb 2 Rm.2.2.2.1) 3 Rm.2.2.2.2.1), nl, LL, y, LO, hX2, hM2, hn, hLw2, hRM, hWF, hRX, hB, hLOk, hI0, hI1, hK, hRR, hTP, hFP, hQU, hLY, hCI, hBT, hWD, hHW, hQ0, hQ1, hQ2⟩
set_option maxHeartbeats 4000000 in
set_option maxRecDepth 100000 in
theorem s_odds {G : GT} {b : Nat} : S17 G b (INV G b) := by
  intro p1
  intro c n hI
  obtain ⟨xi, xj, xa, xb, xq, mi, mj, ma, mb, nl, LL, y, LO, hX, hM, hn, hLw, hRM, hWF, hRX, hB, hLO, hI0, hI1, hK, hRR, hTP, hFP, hQU, hLY, hCI, hBT, hWD, hHW, hQ0, hQ1, hQ2⟩ := hI
  obtain ⟨Fu, hFu⟩ : ∃ Fu : Nat, 6000 ≤ Fu := ⟨6000, Nat.le_refl _⟩
  obtain ⟨z, zl, zh, rfl⟩ := i32_any p1
  have hO := hLO.mo
  obtain ⟨Rm, hfm, hrm⟩ : Rt (fX12_odds Fu (mi 0) (ma 1) (mi 13) (mb 2) (mb 3) (mi 14) (mj 1) (mj 2) (ma 10) (mb 4) (i32 z)) _ := m_odds hFu hRM hWF hO zl zh
  have hLOk := hLO
  rcases hLO with ⟨hl0, hl3⟩ | ⟨j, hj, hl0, hl3, hl5, hlm⟩
  · have hH : HN y LO := ⟨hl0, hl3⟩
    obtain ⟨Rx, hfx, hrx⟩ : Rt (fX11_odds_N Fu (xi 3) (xi 5) (xi 6) (xi 7) (xa 0) (xa 1) (xa 2) (xq 0) (xa 24) (xi 31) (xb 1) (i32 z)) _ := c_odds_N hFu hWF hRX hH _ _ _ zl zh
    have hv : Rx.1 = Rm.1 := by rw [hrx, hrm]
    have hC := mX11_odds_N (G := G) (b := b) (c0 := c) (n := n) (v0_faultPlace := (xi 0)) (v0_quashedRows := (xi 1)) (v0_lastRefusal := (xi 2)) (v1_meals := (xi 4)) (v37_height := (xi 30)) (v37_answer := (xj 0)) (v1_beasts := (xi 3)) (v1_seats := (xi 5)) (v1_laws := (xi 6)) (v1_inForce := (xi 7)) (a2 := (xa 0)) (a3 := (xa 1)) (a4 := (xa 2)) (a5 := (xq 0)) (a38 := (xa 24)) (v40_voters := (xi 31)) (a41 := (xb 1)) ((e_wf_X (by omega)).pick [0, 1, 2, 3, 4, 5, 37, 38, 40, 41] rfl (by decide)) hfx
    rw [hX.sub kX_nd [0, 1, 2, 3, 4, 5, 37, 38, 40, 41] rfl rfl, hX.back kX_nd rfl [0, 1, 2, 3, 4, 5, 37, 38, 40, 41] rfl (wF' := (wX G b (va_up xi 31 Rx.2.2.1) xj (va_up xa 24 Rx.2.1) (va_up xb 1 Rx.2.2.2) xq)) rfl] at hC
    refine ⟨5, by decide, _, hC, ?_⟩
    rintro v C1 n1 ⟨rfl, hC1, rfl⟩
    have hX1 : HAS kX (wX G b (va_up xi 31 Rx.2.2.1) xj (va_up xa 24 Rx.2.1) (va_up xb 1 Rx.2.2.2) xq) C1 := by rw [hC1]; exact HAS.of kX_nd
    have hM1 : HAS (kM 79) (wMM G b mi mj ma mb) C1 := by rw [hC1]; exact hM.out M_no_X
    have hLw1 : LAWS G b C1 nl LL := by rw [hC1]; exact hLw.outX
    have hCm := mX12_odds (G := G) (b := b) (o := 79) (c0 := C1) (n := n1) (v_status := (mi 1)) (a_refusals := (ma 0)) (a_images := (ma 2)) (a_isKept := (ma 3)) (a_tape := (ma 4)) (v_taped := (mi 2)) (v_from := (mi 3)) (v_to := (mi 4)) (v_sort := (mi 5)) (v_worth := (mj 0)) (v_fault := (mi 6)) (v_bad := (mi 7)) (v_nClauses := (mi 8)) (a_nClause := (ma 5)) (v_nCode := (mi 9)) (a_nOp := (ma 6)) (a_nArg := (ma 7)) (v_nLeaves := (mi 10)) (a_pile := (ma 8)) (a_pileAt := (ma 9)) (v_piled := (mi 11)) (v_opened := (mi 12)) (a_words := (mb 0)) (a_headWords := (mb 1)) (a_costs := (ma 11)) (a_table := (mb 5)) (a_prices := (ma 12)) (v_surely := (mj 3)) (a_mostBy := (mb 6)) (a_leastBy := (mb 7)) (v_between := (mj 4)) (v_steadyWays := (mi 15)) (v_quashed := (mi 16)) (v_but := (mi 17)) (a_figures := (ma 13)) (a_all := (ma 14)) (a_lies := (ma 15)) (a_since := (ma 16)) (v_last := (mi 18)) (v_state := (mj 5)) (v_thrown := (mi 0)) (a_row := (ma 1)) (v_law := (mi 13)) (a_set := (mb 2)) (a_rest := (mb 3)) (v_broken := (mi 14)) (v_value := (mj 1)) (v_sum := (mj 2)) (a_chances := (ma 10)) (a_votes := (mb 4)) (e_wf_M (by omega)) hfm
    rw [hM1.ov] at hCm
    refine ⟨⟨by omega, _, hM1 0 79 _ rfl rfl⟩, ⟨_, rfl⟩, _, hCm, ?_⟩
    rintro v2 C2 n2 ⟨rfl, hC2, rfl⟩
    have hX2 : HAS kX (wX G b (va_up xi 31 Rx.2.2.1) xj (va_up xa 24 Rx.2.1) (va_up xb 1 Rx.2.2.2) xq) C2 := by rw [hC2]; exact hX1.out X_no_M
    have hM2 : HAS (kM 79) (wMM G b (va_up (va_up (va_up mi 0 Rm.2.1) 13 Rm.2.2.1) 14 Rm.2.2.2.2.2.1) (va_up (va_up mj 1 Rm.2.2.2.2.2.2.1) 2 Rm.2.2.2.2.2.2.2.1) (va_up ma 10 Rm.2.2.2.2.2.2.2.2.1) (va_up (va_up (va_up mb 2 Rm.2.2.2.1) 3 Rm.2.2.2.2.1) 4 Rm.2.2.2.2.2.2.2.2.2)) C2 := by rw [hC2]; exact HAS.of kM_nd
    have hLw2 : LAWS G b C2 nl LL := by rw [hC2]; exact hLw1.outM
    exact ⟨congrArg (fun z => some (Value.long z)) hv.symm, (va_up xi 31 Rx.2.2.1), xj, (va_up xa 24 Rx.2.1), (va_up xb 1 Rx.2.2.2), xq, (va_up (va_up (va_up mi 0 Rm.2.1) 13 Rm.2.2.1) 14 Rm.2.2.2.2.2.1), (va_up (va_up mj 1 Rm.2.2.2.2.2.2.1) 2 Rm.2.2.2.2.2.2.2.1), (va_up ma 10 Rm.2.2.2.2.2.2.2.2.1), (va_up (va_up (va_up mb 2 Rm.2.2.2.1) 3 Rm.2.2.2.2.1) 4 Rm.2.2.2.2.2.2.2.2.2), nl, LL, y, LO, hX2, hM2, hn, hLw2, hRM, hWF, hRX, hB, hLOk, hI0, hI1, hK, hRR, hTP, hFP, hQU, hLY, hCI, hBT, hWD, hHW, hQ0, hQ1, hQ2⟩
  · obtain ⟨nh, nt, ne, ns, aL1, aL2, aL3, aL4, hLc, hLX⟩ := hLw j hj
    have hH : HL y LO nh nt ne ns b (105 + 5 * j) (xq 0) aL1 aL2 aL3 aL4 := ⟨LL j, hl0, hl3, hl5, hLX⟩
    obtain ⟨Rx, hfx, hrx⟩ : Rt (fX11_odds_L Fu nh nt ne ns b (105 + 5 * j) (xi 3) (xi 5) (xi 6) (xi 7) (xa 0) (xa 1) (xa 2) (xq 0) (xi 30) (xj 0) (xa 24) (xb 0) (xi 31) (xb 1) aL1 aL2 aL3 aL4 (i32 z)) _ := c_odds_L hFu hWF hRX hH _ _ _ _ _ _ zl zh
    have hv : Rx.1 = Rm.1 := by rw [hrx, hrm]
    have hXL := hX.app hLc rfl
    have hC := mX11_odds_L (G := G) (b := b) (q := 105 + 5 * j) (nh := nh) (nt := nt) (ne := ne) (ns := ns) (c0 := c) (n := n) (v0_faultPlace := (xi 0)) (v0_quashedRows := (xi 1)) (v0_lastRefusal := (xi 2)) (v1_meals := (xi 4)) (v1_beasts := (xi 3)) (v1_seats := (xi 5)) (v1_laws := (xi 6)) (v1_inForce := (xi 7)) (a2 := (xa 0)) (a3 := (xa 1)) (a4 := (xa 2)) (a5 := (xq 0)) (v37_height := (xi 30)) (v37_answer := (xj 0)) (a38 := (xa 24)) (a39 := (xb 0)) (v40_voters := (xi 31)) (a41 := (xb 1)) (aL1 := aL1) (aL2 := aL2) (aL3 := aL3) (aL4 := aL4) ((e_wf_XL (q := 105 + 5 * j) (by omega) (by omega)).pick [0, 1, 2, 3, 4, 5, 37, 38, 39, 40, 41, 79, 80, 81, 82, 83] rfl (pick_nodup (kXL_nd (by omega)) [0, 1, 2, 3, 4, 5, 37, 38, 39, 40, 41, 79, 80, 81, 82, 83] (by decide) rfl)) hfx
    rw [hXL.sub (kXL_nd (by omega)) [0, 1, 2, 3, 4, 5, 37, 38, 39, 40, 41, 79, 80, 81, 82, 83] rfl rfl, hXL.back (kXL_nd (by omega)) rfl [0, 1, 2, 3, 4, 5, 37, 38, 39, 40, 41, 79, 80, 81, 82, 83] rfl (wF' := (wX G b (va_up (va_up xi 30 Rx.2.1) 31 Rx.2.2.2.2.2.1) (va_up xj 0 Rx.2.2.1) (va_up xa 24 Rx.2.2.2.1) (va_up (va_up xb 0 Rx.2.2.2.2.1) 1 Rx.2.2.2.2.2.2) xq) ++ wL G b (105 + 5 * j) nh nt ne ns aL1 aL2 aL3 aL4) rfl, e_ov_cat (ks := kX) (es := (wX G b (va_up (va_up xi 30 Rx.2.1) 31 Rx.2.2.2.2.2.1) (va_up xj 0 Rx.2.2.1) (va_up xa 24 Rx.2.2.2.1) (va_up (va_up xb 0 Rx.2.2.2.2.1) 1 Rx.2.2.2.2.2.2) xq)) rfl, hLc.ov] at hC
    refine ⟨6, by decide, _, hC, ?_⟩
    rintro v C1 n1 ⟨rfl, hC1, rfl⟩
    have hX1 : HAS kX (wX G b (va_up (va_up xi 30 Rx.2.1) 31 Rx.2.2.2.2.2.1) (va_up xj 0 Rx.2.2.1) (va_up xa 24 Rx.2.2.2.1) (va_up (va_up xb 0 Rx.2.2.2.2.1) 1 Rx.2.2.2.2.2.2) xq) C1 := by rw [hC1]; exact HAS.of kX_nd
    have hM1 : HAS (kM 79) (wMM G b mi mj ma mb) C1 := by rw [hC1]; exact hM.out M_no_X
    have hLw1 : LAWS G b C1 nl LL := by rw [hC1]; exact hLw.outX
    have hCm := mX12_odds (G := G) (b := b) (o := 79) (c0 := C1) (n := n1) (v_status := (mi 1)) (a_refusals := (ma 0)) (a_images := (ma 2)) (a_isKept := (ma 3)) (a_tape := (ma 4)) (v_taped := (mi 2)) (v_from := (mi 3)) (v_to := (mi 4)) (v_sort := (mi 5)) (v_worth := (mj 0)) (v_fault := (mi 6)) (v_bad := (mi 7)) (v_nClauses := (mi 8)) (a_nClause := (ma 5)) (v_nCode := (mi 9)) (a_nOp := (ma 6)) (a_nArg := (ma 7)) (v_nLeaves := (mi 10)) (a_pile := (ma 8)) (a_pileAt := (ma 9)) (v_piled := (mi 11)) (v_opened := (mi 12)) (a_words := (mb 0)) (a_headWords := (mb 1)) (a_costs := (ma 11)) (a_table := (mb 5)) (a_prices := (ma 12)) (v_surely := (mj 3)) (a_mostBy := (mb 6)) (a_leastBy := (mb 7)) (v_between := (mj 4)) (v_steadyWays := (mi 15)) (v_quashed := (mi 16)) (v_but := (mi 17)) (a_figures := (ma 13)) (a_all := (ma 14)) (a_lies := (ma 15)) (a_since := (ma 16)) (v_last := (mi 18)) (v_state := (mj 5)) (v_thrown := (mi 0)) (a_row := (ma 1)) (v_law := (mi 13)) (a_set := (mb 2)) (a_rest := (mb 3)) (v_broken := (mi 14)) (v_value := (mj 1)) (v_sum := (mj 2)) (a_chances := (ma 10)) (a_votes := (mb 4)) (e_wf_M (by omega)) hfm
    rw [hM1.ov] at hCm
    refine ⟨⟨by omega, _, hM1 0 79 _ rfl rfl⟩, ⟨_, rfl⟩, _, hCm, ?_⟩
    rintro v2 C2 n2 ⟨rfl, hC2, rfl⟩
    have hX2 : HAS kX (wX G b (va_up (va_up xi 30 Rx.2.1) 31 Rx.2.2.2.2.2.1) (va_up xj 0 Rx.2.2.1) (va_up xa 24 Rx.2.2.2.1) (va_up (va_up xb 0 Rx.2.2.2.2.1) 1 Rx.2.2.2.2.2.2) xq) C2 := by rw [hC2]; exact hX1.out X_no_M
    have hM2 : HAS (kM 79) (wMM G b (va_up (va_up (va_up mi 0 Rm.2.1) 13 Rm.2.2.1) 14 Rm.2.2.2.2.2.1) (va_up (va_up mj 1 Rm.2.2.2.2.2.2.1) 2 Rm.2.2.2.2.2.2.2.1) (va_up ma 10 Rm.2.2.2.2.2.2.2.2.1) (va_up (va_up (va_up mb 2 Rm.2.2.2.1) 3 Rm.2.2.2.2.1) 4 Rm.2.2.2.2.2.2.2.2.2)) C2 := by rw [hC2]; exact HAS.of kM_nd
    have hLw2 : LAWS G b C2 nl LL := by rw [hC2]; exact hLw1.outM
    exact ⟨congrArg (fun z => some (Value.long z)) hv.symm, (va_up (va_up xi 30 Rx.2.1) 31 Rx.2.2.2.2.2.1), (va_up xj 0 Rx.2.2.1), (va_up xa 24 Rx.2.2.2.1), (va_up (va_up xb 0 Rx.2.2.2.2.1) 1 Rx.2.2.2.2.2.2), xq, (va_up (va_up (va_up mi 0 Rm.2.1) 13 Rm.2.2.1) 14 Rm.2.2.2.2.2.1), (va_up (va_up mj 1 Rm.2.2.2.2.2.2.1) 2 Rm.2.2.2.2.2.2.2.1), (va_up ma 10 Rm.2.2.2.2.2.2.2.2.1), (va_up (va_up (va_up mb 2 Rm.2.2.2.1) 3 Rm.2.2.2.2.1) 4 Rm.2.2.2.2.2.2.2.2.2), nl, LL, y, LO, hX2, hM2, hn, hLw2, hRM, hWF, hRX, hB, hLOk, hI0, hI1, hK, hRR, hTP, hFP, hQU, hLY, hCI, hBT, hWD, hHW, hQ0, hQ1, hQ2⟩
set_option maxHeartbeats 4000000 in
set_option maxRecDepth 100000 in
theorem s_tips {G : GT} {b : Nat} : S18 G b (INV G b) := by
  intro p1
  intro c n hI
  obtain ⟨xi, xj, xa, xb, xq, mi, mj, ma, mb, nl, LL, y, LO, hX, hM, hn, hLw, hRM, hWF, hRX, hB, hLO, hI0, hI1, hK, hRR, hTP, hFP, hQU, hLY, hCI, hBT, hWD, hHW, hQ0, hQ1, hQ2⟩ := hI
  obtain ⟨Fu, hFu⟩ : ∃ Fu : Nat, 6000 ≤ Fu := ⟨6000, Nat.le_refl _⟩
  obtain ⟨z, zl, zh, rfl⟩ := i32_any p1
  have hO := hLO.mo
  obtain ⟨Rm, hfm, hrm⟩ : Rt (fX12_tips Fu (mi 0) (ma 1) (mi 13) (mb 2) (mb 3) (mi 14) (mj 1) (mj 2) (ma 10) (mb 4) (i32 z)) _ := m_tips hFu hRM hWF hO zl zh
  have hLOk := hLO
  rcases hLO with ⟨hl0, hl3⟩ | ⟨j, hj, hl0, hl3, hl5, hlm⟩
  · have hH : HN y LO := ⟨hl0, hl3⟩
    obtain ⟨Rx, hfx, hrx⟩ : Rt (fX11_tips_N Fu (xi 3) (xi 5) (xi 6) (xi 7) (xa 0) (xa 1) (xa 2) (xq 0) (xa 24) (xi 31) (xb 1) (i32 z)) _ := c_tips_N hFu hWF hRX hH _ _ _ zl zh
    have hv : Rx.1 = Rm.1 := by rw [hrx, hrm]
    have hC := mX11_tips_N (G := G) (b := b) (c0 := c) (n := n) (v0_faultPlace := (xi 0)) (v0_quashedRows := (xi 1)) (v0_lastRefusal := (xi 2)) (v1_meals := (xi 4)) (v37_height := (xi 30)) (v37_answer := (xj 0)) (v1_beasts := (xi 3)) (v1_seats := (xi 5)) (v1_laws := (xi 6)) (v1_inForce := (xi 7)) (a2 := (xa 0)) (a3 := (xa 1)) (a4 := (xa 2)) (a5 := (xq 0)) (a38 := (xa 24)) (v40_voters := (xi 31)) (a41 := (xb 1)) ((e_wf_X (by omega)).pick [0, 1, 2, 3, 4, 5, 37, 38, 40, 41] rfl (by decide)) hfx
    rw [hX.sub kX_nd [0, 1, 2, 3, 4, 5, 37, 38, 40, 41] rfl rfl, hX.back kX_nd rfl [0, 1, 2, 3, 4, 5, 37, 38, 40, 41] rfl (wF' := (wX G b (va_up xi 31 Rx.2.2.1) xj (va_up xa 24 Rx.2.1) (va_up xb 1 Rx.2.2.2) xq)) rfl] at hC
    refine ⟨5, by decide, _, hC, ?_⟩
    rintro v C1 n1 ⟨rfl, hC1, rfl⟩
    have hX1 : HAS kX (wX G b (va_up xi 31 Rx.2.2.1) xj (va_up xa 24 Rx.2.1) (va_up xb 1 Rx.2.2.2) xq) C1 := by rw [hC1]; exact HAS.of kX_nd
    have hM1 : HAS (kM 79) (wMM G b mi mj ma mb) C1 := by rw [hC1]; exact hM.out M_no_X
    have hLw1 : LAWS G b C1 nl LL := by rw [hC1]; exact hLw.outX
    have hCm := mX12_tips (G := G) (b := b) (o := 79) (c0 := C1) (n := n1) (v_status := (mi 1)) (a_refusals := (ma 0)) (a_images := (ma 2)) (a_isKept := (ma 3)) (a_tape := (ma 4)) (v_taped := (mi 2)) (v_from := (mi 3)) (v_to := (mi 4)) (v_sort := (mi 5)) (v_worth := (mj 0)) (v_fault := (mi 6)) (v_bad := (mi 7)) (v_nClauses := (mi 8)) (a_nClause := (ma 5)) (v_nCode := (mi 9)) (a_nOp := (ma 6)) (a_nArg := (ma 7)) (v_nLeaves := (mi 10)) (a_pile := (ma 8)) (a_pileAt := (ma 9)) (v_piled := (mi 11)) (v_opened := (mi 12)) (a_words := (mb 0)) (a_headWords := (mb 1)) (a_costs := (ma 11)) (a_table := (mb 5)) (a_prices := (ma 12)) (v_surely := (mj 3)) (a_mostBy := (mb 6)) (a_leastBy := (mb 7)) (v_between := (mj 4)) (v_steadyWays := (mi 15)) (v_quashed := (mi 16)) (v_but := (mi 17)) (a_figures := (ma 13)) (a_all := (ma 14)) (a_lies := (ma 15)) (a_since := (ma 16)) (v_last := (mi 18)) (v_state := (mj 5)) (v_thrown := (mi 0)) (a_row := (ma 1)) (v_law := (mi 13)) (a_set := (mb 2)) (a_rest := (mb 3)) (v_broken := (mi 14)) (v_value := (mj 1)) (v_sum := (mj 2)) (a_chances := (ma 10)) (a_votes := (mb 4)) (e_wf_M (by omega)) hfm
    rw [hM1.ov] at hCm
    refine ⟨⟨by omega, _, hM1 0 79 _ rfl rfl⟩, ⟨_, rfl⟩, _, hCm, ?_⟩
    rintro v2 C2 n2 ⟨rfl, hC2, rfl⟩
    have hX2 : HAS kX (wX G b (va_up xi 31 Rx.2.2.1) xj (va_up xa 24 Rx.2.1) (va_up xb 1 Rx.2.2.2) xq) C2 := by rw [hC2]; exact hX1.out X_no_M
    have hM2 : HAS (kM 79) (wMM G b (va_up (va_up (va_up mi 0 Rm.2.1) 13 Rm.2.2.1) 14 Rm.2.2.2.2.2.1) (va_up (va_up mj 1 Rm.2.2.2.2.2.2.1) 2 Rm.2.2.2.2.2.2.2.1) (va_up ma 10 Rm.2.2.2.2.2.2.2.2.1) (va_up (va_up (va_up mb 2 Rm.2.2.2.1) 3 Rm.2.2.2.2.1) 4 Rm.2.2.2.2.2.2.2.2.2)) C2 := by rw [hC2]; exact HAS.of kM_nd
    have hLw2 : LAWS G b C2 nl LL := by rw [hC2]; exact hLw1.outM
    exact ⟨congrArg (fun z => some (Value.long z)) hv.symm, (va_up xi 31 Rx.2.2.1), xj, (va_up xa 24 Rx.2.1), (va_up xb 1 Rx.2.2.2), xq, (va_up (va_up (va_up mi 0 Rm.2.1) 13 Rm.2.2.1) 14 Rm.2.2.2.2.2.1), (va_up (va_up mj 1 Rm.2.2.2.2.2.2.1) 2 Rm.2.2.2.2.2.2.2.1), (va_up ma 10 Rm.2.2.2.2.2.2.2.2.1), (va_up (va_up (va_up mb 2 Rm.2.2.2.1) 3 Rm.2.2.2.2.1) 4 Rm.2.2.2.2.2.2.2.2.2), nl, LL, y, LO, hX2, hM2, hn, hLw2, hRM, hWF, hRX, hB, hLOk, hI0, hI1, hK, hRR, hTP, hFP, hQU, hLY, hCI, hBT, hWD, hHW, hQ0, hQ1, hQ2⟩
  · obtain ⟨nh, nt, ne, ns, aL1, aL2, aL3, aL4, hLc, hLX⟩ := hLw j hj
    have hH : HL y LO nh nt ne ns b (105 + 5 * j) (xq 0) aL1 aL2 aL3 aL4 := ⟨LL j, hl0, hl3, hl5, hLX⟩
    obtain ⟨Rx, hfx, hrx⟩ : Rt (fX11_tips_L Fu nh nt ne ns b (105 + 5 * j) (xi 3) (xi 5) (xi 6) (xi 7) (xa 0) (xa 1) (xa 2) (xq 0) (xi 30) (xj 0) (xa 24) (xb 0) (xi 31) (xb 1) aL1 aL2 aL3 aL4 (i32 z)) _ := c_tips_L hFu hWF hRX hH _ _ _ _ _ _ zl zh
    have hv : Rx.1 = Rm.1 := by rw [hrx, hrm]
    have hXL := hX.app hLc rfl
    have hC := mX11_tips_L (G := G) (b := b) (q := 105 + 5 * j) (nh := nh) (nt := nt) (ne := ne) (ns := ns) (c0 := c) (n := n) (v0_faultPlace := (xi 0)) (v0_quashedRows := (xi 1)) (v0_lastRefusal := (xi 2)) (v1_meals := (xi 4)) (v1_beasts := (xi 3)) (v1_seats := (xi 5)) (v1_laws := (xi 6)) (v1_inForce := (xi 7)) (a2 := (xa 0)) (a3 := (xa 1)) (a4 := (xa 2)) (a5 := (xq 0)) (v37_height := (xi 30)) (v37_answer := (xj 0)) (a38 := (xa 24)) (a39 := (xb 0)) (v40_voters := (xi 31)) (a41 := (xb 1)) (aL1 := aL1) (aL2 := aL2) (aL3 := aL3) (aL4 := aL4) ((e_wf_XL (q := 105 + 5 * j) (by omega) (by omega)).pick [0, 1, 2, 3, 4, 5, 37, 38, 39, 40, 41, 79, 80, 81, 82, 83] rfl (pick_nodup (kXL_nd (by omega)) [0, 1, 2, 3, 4, 5, 37, 38, 39, 40, 41, 79, 80, 81, 82, 83] (by decide) rfl)) hfx
    rw [hXL.sub (kXL_nd (by omega)) [0, 1, 2, 3, 4, 5, 37, 38, 39, 40, 41, 79, 80, 81, 82, 83] rfl rfl, hXL.back (kXL_nd (by omega)) rfl [0, 1, 2, 3, 4, 5, 37, 38, 39, 40, 41, 79, 80, 81, 82, 83] rfl (wF' := (wX G b (va_up (va_up xi 30 Rx.2.1) 31 Rx.2.2.2.2.2.1) (va_up xj 0 Rx.2.2.1) (va_up xa 24 Rx.2.2.2.1) (va_up (va_up xb 0 Rx.2.2.2.2.1) 1 Rx.2.2.2.2.2.2) xq) ++ wL G b (105 + 5 * j) nh nt ne ns aL1 aL2 aL3 aL4) rfl, e_ov_cat (ks := kX) (es := (wX G b (va_up (va_up xi 30 Rx.2.1) 31 Rx.2.2.2.2.2.1) (va_up xj 0 Rx.2.2.1) (va_up xa 24 Rx.2.2.2.1) (va_up (va_up xb 0 Rx.2.2.2.2.1) 1 Rx.2.2.2.2.2.2) xq)) rfl, hLc.ov] at hC
    refine ⟨6, by decide, _, hC, ?_⟩
    rintro v C1 n1 ⟨rfl, hC1, rfl⟩
    have hX1 : HAS kX (wX G b (va_up (va_up xi 30 Rx.2.1) 31 Rx.2.2.2.2.2.1) (va_up xj 0 Rx.2.2.1) (va_up xa 24 Rx.2.2.2.1) (va_up (va_up xb 0 Rx.2.2.2.2.1) 1 Rx.2.2.2.2.2.2) xq) C1 := by rw [hC1]; exact HAS.of kX_nd
    have hM1 : HAS (kM 79) (wMM G b mi mj ma mb) C1 := by rw [hC1]; exact hM.out M_no_X
    have hLw1 : LAWS G b C1 nl LL := by rw [hC1]; exact hLw.outX
    have hCm := mX12_tips (G := G) (b := b) (o := 79) (c0 := C1) (n := n1) (v_status := (mi 1)) (a_refusals := (ma 0)) (a_images := (ma 2)) (a_isKept := (ma 3)) (a_tape := (ma 4)) (v_taped := (mi 2)) (v_from := (mi 3)) (v_to := (mi 4)) (v_sort := (mi 5)) (v_worth := (mj 0)) (v_fault := (mi 6)) (v_bad := (mi 7)) (v_nClauses := (mi 8)) (a_nClause := (ma 5)) (v_nCode := (mi 9)) (a_nOp := (ma 6)) (a_nArg := (ma 7)) (v_nLeaves := (mi 10)) (a_pile := (ma 8)) (a_pileAt := (ma 9)) (v_piled := (mi 11)) (v_opened := (mi 12)) (a_words := (mb 0)) (a_headWords := (mb 1)) (a_costs := (ma 11)) (a_table := (mb 5)) (a_prices := (ma 12)) (v_surely := (mj 3)) (a_mostBy := (mb 6)) (a_leastBy := (mb 7)) (v_between := (mj 4)) (v_steadyWays := (mi 15)) (v_quashed := (mi 16)) (v_but := (mi 17)) (a_figures := (ma 13)) (a_all := (ma 14)) (a_lies := (ma 15)) (a_since := (ma 16)) (v_last := (mi 18)) (v_state := (mj 5)) (v_thrown := (mi 0)) (a_row := (ma 1)) (v_law := (mi 13)) (a_set := (mb 2)) (a_rest := (mb 3)) (v_broken := (mi 14)) (v_value := (mj 1)) (v_sum := (mj 2)) (a_chances := (ma 10)) (a_votes := (mb 4)) (e_wf_M (by omega)) hfm
    rw [hM1.ov] at hCm
    refine ⟨⟨by omega, _, hM1 0 79 _ rfl rfl⟩, ⟨_, rfl⟩, _, hCm, ?_⟩
    rintro v2 C2 n2 ⟨rfl, hC2, rfl⟩
    have hX2 : HAS kX (wX G b (va_up (va_up xi 30 Rx.2.1) 31 Rx.2.2.2.2.2.1) (va_up xj 0 Rx.2.2.1) (va_up xa 24 Rx.2.2.2.1) (va_up (va_up xb 0 Rx.2.2.2.2.1) 1 Rx.2.2.2.2.2.2) xq) C2 := by rw [hC2]; exact hX1.out X_no_M
    have hM2 : HAS (kM 79) (wMM G b (va_up (va_up (va_up mi 0 Rm.2.1) 13 Rm.2.2.1) 14 Rm.2.2.2.2.2.1) (va_up (va_up mj 1 Rm.2.2.2.2.2.2.1) 2 Rm.2.2.2.2.2.2.2.1) (va_up ma 10 Rm.2.2.2.2.2.2.2.2.1) (va_up (va_up (va_up mb 2 Rm.2.2.2.1) 3 Rm.2.2.2.2.1) 4 Rm.2.2.2.2.2.2.2.2.2)) C2 := by rw [hC2]; exact HAS.of kM_nd
    have hLw2 : LAWS G b C2 nl LL := by rw [hC2]; exact hLw1.outM
    exact ⟨congrArg (fun z => some (Value.long z)) hv.symm, (va_up (va_up xi 30 Rx.2.1) 31 Rx.2.2.2.2.2.1), (va_up xj 0 Rx.2.2.1), (va_up xa 24 Rx.2.2.2.1), (va_up (va_up xb 0 Rx.2.2.2.2.1) 1 Rx.2.2.2.2.2.2), xq, (va_up (va_up (va_up mi 0 Rm.2.1) 13 Rm.2.2.1) 14 Rm.2.2.2.2.2.1), (va_up (va_up mj 1 Rm.2.2.2.2.2.2.1) 2 Rm.2.2.2.2.2.2.2.1), (va_up ma 10 Rm.2.2.2.2.2.2.2.2.1), (va_up (va_up (va_up mb 2 Rm.2.2.2.1) 3 Rm.2.2.2.2.1) 4 Rm.2.2.2.2.2.2.2.2.2), nl, LL, y, LO, hX2, hM2, hn, hLw2, hRM, hWF, hRX, hB, hLOk, hI0, hI1, hK, hRR, hTP, hFP, hQU, hLY, hCI, hBT, hWD, hHW, hQ0, hQ1, hQ2⟩
set_option maxHeartbeats 4000000 in
set_option maxRecDepth 100000 in
theorem s_fairest {G : GT} {b : Nat} : S28 G b (INV G b) := by
  intro c n hI
  obtain ⟨xi, xj, xa, xb, xq, mi, mj, ma, mb, nl, LL, y, LO, hX, hM, hn, hLw, hRM, hWF, hRX, hB, hLO, hI0, hI1, hK, hRR, hTP, hFP, hQU, hLY, hCI, hBT, hWD, hHW, hQ0, hQ1, hQ2⟩ := hI
  obtain ⟨Fu, hFu⟩ : ∃ Fu : Nat, 6000 ≤ Fu := ⟨6000, Nat.le_refl _⟩
  have hO := hLO.mo
  obtain ⟨Rm, hfm, hrm⟩ : Rt (fX12_fairest Fu (mi 0) (ma 1) (mi 13) (mb 2) (mb 3) (mi 14) (mj 1) (mj 2) (ma 10) (mb 4)) _ := m_fairest hFu hRM hWF hO 
  have hLOk := hLO
  rcases hLO with ⟨hl0, hl3⟩ | ⟨j, hj, hl0, hl3, hl5, hlm⟩
  · have hH : HN y LO := ⟨hl0, hl3⟩
    obtain ⟨Rx, hfx, hrx⟩ : Rt (fX11_fairest_N Fu (xi 3) (xi 5) (xi 6) (xi 7) (xa 0) (xa 1) (xa 2) (xq 0) (xa 24) (xi 31) (xb 1)) _ := c_fairest_N hFu hWF hRX hH _ _ _ 
    have hv : Rx.1 = Rm.1 := by rw [hrx, hrm]
    have hC := mX11_fairest_N (G := G) (b := b) (c0 := c) (n := n) (v0_faultPlace := (xi 0)) (v0_quashedRows := (xi 1)) (v0_lastRefusal := (xi 2)) (v1_meals := (xi 4)) (v37_height := (xi 30)) (v37_answer := (xj 0)) (v1_beasts := (xi 3)) (v1_seats := (xi 5)) (v1_laws := (xi 6)) (v1_inForce := (xi 7)) (a2 := (xa 0)) (a3 := (xa 1)) (a4 := (xa 2)) (a5 := (xq 0)) (a38 := (xa 24)) (v40_voters := (xi 31)) (a41 := (xb 1)) ((e_wf_X (by omega)).pick [0, 1, 2, 3, 4, 5, 37, 38, 40, 41] rfl (by decide)) hfx
    rw [hX.sub kX_nd [0, 1, 2, 3, 4, 5, 37, 38, 40, 41] rfl rfl, hX.back kX_nd rfl [0, 1, 2, 3, 4, 5, 37, 38, 40, 41] rfl (wF' := (wX G b (va_up xi 31 Rx.2.2.1) xj (va_up xa 24 Rx.2.1) (va_up xb 1 Rx.2.2.2) xq)) rfl] at hC
    refine ⟨5, by decide, _, hC, ?_⟩
    rintro v C1 n1 ⟨rfl, hC1, rfl⟩
    have hX1 : HAS kX (wX G b (va_up xi 31 Rx.2.2.1) xj (va_up xa 24 Rx.2.1) (va_up xb 1 Rx.2.2.2) xq) C1 := by rw [hC1]; exact HAS.of kX_nd
    have hM1 : HAS (kM 79) (wMM G b mi mj ma mb) C1 := by rw [hC1]; exact hM.out M_no_X
    have hLw1 : LAWS G b C1 nl LL := by rw [hC1]; exact hLw.outX
    have hCm := mX12_fairest (G := G) (b := b) (o := 79) (c0 := C1) (n := n1) (v_status := (mi 1)) (a_refusals := (ma 0)) (a_images := (ma 2)) (a_isKept := (ma 3)) (a_tape := (ma 4)) (v_taped := (mi 2)) (v_from := (mi 3)) (v_to := (mi 4)) (v_sort := (mi 5)) (v_worth := (mj 0)) (v_fault := (mi 6)) (v_bad := (mi 7)) (v_nClauses := (mi 8)) (a_nClause := (ma 5)) (v_nCode := (mi 9)) (a_nOp := (ma 6)) (a_nArg := (ma 7)) (v_nLeaves := (mi 10)) (a_pile := (ma 8)) (a_pileAt := (ma 9)) (v_piled := (mi 11)) (v_opened := (mi 12)) (a_words := (mb 0)) (a_headWords := (mb 1)) (a_costs := (ma 11)) (a_table := (mb 5)) (a_prices := (ma 12)) (v_surely := (mj 3)) (a_mostBy := (mb 6)) (a_leastBy := (mb 7)) (v_between := (mj 4)) (v_steadyWays := (mi 15)) (v_quashed := (mi 16)) (v_but := (mi 17)) (a_figures := (ma 13)) (a_all := (ma 14)) (a_lies := (ma 15)) (a_since := (ma 16)) (v_last := (mi 18)) (v_state := (mj 5)) (v_thrown := (mi 0)) (a_row := (ma 1)) (v_law := (mi 13)) (a_set := (mb 2)) (a_rest := (mb 3)) (v_broken := (mi 14)) (v_value := (mj 1)) (v_sum := (mj 2)) (a_chances := (ma 10)) (a_votes := (mb 4)) (e_wf_M (by omega)) hfm
    rw [hM1.ov] at hCm
    refine ⟨⟨by omega, _, hM1 0 79 _ rfl rfl⟩, ⟨_, rfl⟩, _, hCm, ?_⟩
    rintro v2 C2 n2 ⟨rfl, hC2, rfl⟩
    have hX2 : HAS kX (wX G b (va_up xi 31 Rx.2.2.1) xj (va_up xa 24 Rx.2.1) (va_up xb 1 Rx.2.2.2) xq) C2 := by rw [hC2]; exact hX1.out X_no_M
    have hM2 : HAS (kM 79) (wMM G b (va_up (va_up (va_up mi 0 Rm.2.1) 13 Rm.2.2.1) 14 Rm.2.2.2.2.2.1) (va_up (va_up mj 1 Rm.2.2.2.2.2.2.1) 2 Rm.2.2.2.2.2.2.2.1) (va_up ma 10 Rm.2.2.2.2.2.2.2.2.1) (va_up (va_up (va_up mb 2 Rm.2.2.2.1) 3 Rm.2.2.2.2.1) 4 Rm.2.2.2.2.2.2.2.2.2)) C2 := by rw [hC2]; exact HAS.of kM_nd
    have hLw2 : LAWS G b C2 nl LL := by rw [hC2]; exact hLw1.outM
    exact ⟨congrArg (fun z => some (Value.int z)) hv.symm, (va_up xi 31 Rx.2.2.1), xj, (va_up xa 24 Rx.2.1), (va_up xb 1 Rx.2.2.2), xq, (va_up (va_up (va_up mi 0 Rm.2.1) 13 Rm.2.2.1) 14 Rm.2.2.2.2.2.1), (va_up (va_up mj 1 Rm.2.2.2.2.2.2.1) 2 Rm.2.2.2.2.2.2.2.1), (va_up ma 10 Rm.2.2.2.2.2.2.2.2.1), (va_up (va_up (va_up mb 2 Rm.2.2.2.1) 3 Rm.2.2.2.2.1) 4 Rm.2.2.2.2.2.2.2.2.2), nl, LL, y, LO, hX2, hM2, hn, hLw2, hRM, hWF, hRX, hB, hLOk, hI0, hI1, hK, hRR, hTP, hFP, hQU, hLY, hCI, hBT, hWD, hHW, hQ0, hQ1, hQ2⟩
  · obtain ⟨nh, nt, ne, ns, aL1, aL2, aL3, aL4, hLc, hLX⟩ := hLw j hj
    have hH : HL y LO nh nt ne ns b (105 + 5 * j) (xq 0) aL1 aL2 aL3 aL4 := ⟨LL j, hl0, hl3, hl5, hLX⟩
    obtain ⟨Rx, hfx, hrx⟩ : Rt (fX11_fairest_L Fu nh nt ne ns b (105 + 5 * j) (xi 3) (xi 5) (xi 6) (xi 7) (xa 0) (xa 1) (xa 2) (xq 0) (xi 30) (xj 0) (xa 24) (xb 0) (xi 31) (xb 1) aL1 aL2 aL3 aL4) _ := c_fairest_L hFu hWF hRX hH _ _ _ _ _ _ 
    have hv : Rx.1 = Rm.1 := by rw [hrx, hrm]
    have hXL := hX.app hLc rfl
    have hC := mX11_fairest_L (G := G) (b := b) (q := 105 + 5 * j) (nh := nh) (nt := nt) (ne := ne) (ns := ns) (c0 := c) (n := n) (v0_faultPlace := (xi 0)) (v0_quashedRows := (xi 1)) (v0_lastRefusal := (xi 2)) (v1_meals := (xi 4)) (v1_beasts := (xi 3)) (v1_seats := (xi 5)) (v1_laws := (xi 6)) (v1_inForce := (xi 7)) (a2 := (xa 0)) (a3 := (xa 1)) (a4 := (xa 2)) (a5 := (xq 0)) (v37_height := (xi 30)) (v37_answer := (xj 0)) (a38 := (xa 24)) (a39 := (xb 0)) (v40_voters := (xi 31)) (a41 := (xb 1)) (aL1 := aL1) (aL2 := aL2) (aL3 := aL3) (aL4 := aL4) ((e_wf_XL (q := 105 + 5 * j) (by omega) (by omega)).pick [0, 1, 2, 3, 4, 5, 37, 38, 39, 40, 41, 79, 80, 81, 82, 83] rfl (pick_nodup (kXL_nd (by omega)) [0, 1, 2, 3, 4, 5, 37, 38, 39, 40, 41, 79, 80, 81, 82, 83] (by decide) rfl)) hfx
    rw [hXL.sub (kXL_nd (by omega)) [0, 1, 2, 3, 4, 5, 37, 38, 39, 40, 41, 79, 80, 81, 82, 83] rfl rfl, hXL.back (kXL_nd (by omega)) rfl [0, 1, 2, 3, 4, 5, 37, 38, 39, 40, 41, 79, 80, 81, 82, 83] rfl (wF' := (wX G b (va_up (va_up xi 30 Rx.2.1) 31 Rx.2.2.2.2.2.1) (va_up xj 0 Rx.2.2.1) (va_up xa 24 Rx.2.2.2.1) (va_up (va_up xb 0 Rx.2.2.2.2.1) 1 Rx.2.2.2.2.2.2) xq) ++ wL G b (105 + 5 * j) nh nt ne ns aL1 aL2 aL3 aL4) rfl, e_ov_cat (ks := kX) (es := (wX G b (va_up (va_up xi 30 Rx.2.1) 31 Rx.2.2.2.2.2.1) (va_up xj 0 Rx.2.2.1) (va_up xa 24 Rx.2.2.2.1) (va_up (va_up xb 0 Rx.2.2.2.2.1) 1 Rx.2.2.2.2.2.2) xq)) rfl, hLc.ov] at hC
    refine ⟨6, by decide, _, hC, ?_⟩
    rintro v C1 n1 ⟨rfl, hC1, rfl⟩
    have hX1 : HAS kX (wX G b (va_up (va_up xi 30 Rx.2.1) 31 Rx.2.2.2.2.2.1) (va_up xj 0 Rx.2.2.1) (va_up xa 24 Rx.2.2.2.1) (va_up (va_up xb 0 Rx.2.2.2.2.1) 1 Rx.2.2.2.2.2.2) xq) C1 := by rw [hC1]; exact HAS.of kX_nd
    have hM1 : HAS (kM 79) (wMM G b mi mj ma mb) C1 := by rw [hC1]; exact hM.out M_no_X
    have hLw1 : LAWS G b C1 nl LL := by rw [hC1]; exact hLw.outX
    have hCm := mX12_fairest (G := G) (b := b) (o := 79) (c0 := C1) (n := n1) (v_status := (mi 1)) (a_refusals := (ma 0)) (a_images := (ma 2)) (a_isKept := (ma 3)) (a_tape := (ma 4)) (v_taped := (mi 2)) (v_from := (mi 3)) (v_to := (mi 4)) (v_sort := (mi 5)) (v_worth := (mj 0)) (v_fault := (mi 6)) (v_bad := (mi 7)) (v_nClauses := (mi 8)) (a_nClause := (ma 5)) (v_nCode := (mi 9)) (a_nOp := (ma 6)) (a_nArg := (ma 7)) (v_nLeaves := (mi 10)) (a_pile := (ma 8)) (a_pileAt := (ma 9)) (v_piled := (mi 11)) (v_opened := (mi 12)) (a_words := (mb 0)) (a_headWords := (mb 1)) (a_costs := (ma 11)) (a_table := (mb 5)) (a_prices := (ma 12)) (v_surely := (mj 3)) (a_mostBy := (mb 6)) (a_leastBy := (mb 7)) (v_between := (mj 4)) (v_steadyWays := (mi 15)) (v_quashed := (mi 16)) (v_but := (mi 17)) (a_figures := (ma 13)) (a_all := (ma 14)) (a_lies := (ma 15)) (a_since := (ma 16)) (v_last := (mi 18)) (v_state := (mj 5)) (v_thrown := (mi 0)) (a_row := (ma 1)) (v_law := (mi 13)) (a_set := (mb 2)) (a_rest := (mb 3)) (v_broken := (mi 14)) (v_value := (mj 1)) (v_sum := (mj 2)) (a_chances := (ma 10)) (a_votes := (mb 4)) (e_wf_M (by omega)) hfm
    rw [hM1.ov] at hCm
    refine ⟨⟨by omega, _, hM1 0 79 _ rfl rfl⟩, ⟨_, rfl⟩, _, hCm, ?_⟩
    rintro v2 C2 n2 ⟨rfl, hC2, rfl⟩
    have hX2 : HAS kX (wX G b (va_up (va_up xi 30 Rx.2.1) 31 Rx.2.2.2.2.2.1) (va_up xj 0 Rx.2.2.1) (va_up xa 24 Rx.2.2.2.1) (va_up (va_up xb 0 Rx.2.2.2.2.1) 1 Rx.2.2.2.2.2.2) xq) C2 := by rw [hC2]; exact hX1.out X_no_M
    have hM2 : HAS (kM 79) (wMM G b (va_up (va_up (va_up mi 0 Rm.2.1) 13 Rm.2.2.1) 14 Rm.2.2.2.2.2.1) (va_up (va_up mj 1 Rm.2.2.2.2.2.2.1) 2 Rm.2.2.2.2.2.2.2.1) (va_up ma 10 Rm.2.2.2.2.2.2.2.2.1) (va_up (va_up (va_up mb 2 Rm.2.2.2.1) 3 Rm.2.2.2.2.1) 4 Rm.2.2.2.2.2.2.2.2.2)) C2 := by rw [hC2]; exact HAS.of kM_nd
    have hLw2 : LAWS G b C2 nl LL := by rw [hC2]; exact hLw1.outM
    exact ⟨congrArg (fun z => some (Value.int z)) hv.symm, (va_up (va_up xi 30 Rx.2.1) 31 Rx.2.2.2.2.2.1), (va_up xj 0 Rx.2.2.1), (va_up xa 24 Rx.2.2.2.1), (va_up (va_up xb 0 Rx.2.2.2.2.1) 1 Rx.2.2.2.2.2.2), xq, (va_up (va_up (va_up mi 0 Rm.2.1) 13 Rm.2.2.1) 14 Rm.2.2.2.2.2.1), (va_up (va_up mj 1 Rm.2.2.2.2.2.2.1) 2 Rm.2.2.2.2.2.2.2.1), (va_up ma 10 Rm.2.2.2.2.2.2.2.2.1), (va_up (va_up (va_up mb 2 Rm.2.2.2.1) 3 Rm.2.2.2.2.1) 4 Rm.2.2.2.2.2.2.2.2.2), nl, LL, y, LO, hX2, hM2, hn, hLw2, hRM, hWF, hRX, hB, hLOk, hI0, hI1, hK, hRR, hTP, hFP, hQU, hLY, hCI, hBT, hWD, hHW, hQ0, hQ1, hQ2⟩
set_option maxHeartbeats 4000000 in
set_option maxRecDepth 100000 in
theorem s_appeal {G : GT} {b : Nat} : S36 G b (INV G b) := by
  intro p1
  intro c n hI
  obtain ⟨xi, xj, xa, xb, xq, mi, mj, ma, mb, nl, LL, y, LO, hX, hM, hn, hLw, hRM, hWF, hRX, hB, hLO, hI0, hI1, hK, hRR, hTP, hFP, hQU, hLY, hCI, hBT, hWD, hHW, hQ0, hQ1, hQ2⟩ := hI
  obtain ⟨Fu, hFu⟩ : ∃ Fu : Nat, 6000 ≤ Fu := ⟨6000, Nat.le_refl _⟩
  obtain ⟨z, zl, zh, rfl⟩ := i32_any p1
  have hO := hLO.mo
  obtain ⟨Rm, hfm, hrm⟩ : Rt (fX12_appeal Fu (mi 0) (ma 1) (mi 13) (mb 2) (mb 3) (mi 14) (mj 1) (mj 2) (ma 10) (mb 4) (ma 13) (ma 14) (i32 z)) _ := m_appeal hFu hRM hWF hO zl zh
  have hLOk := hLO
  rcases hLO with ⟨hl0, hl3⟩ | ⟨j, hj, hl0, hl3, hl5, hlm⟩
  · have hH : HN y LO := ⟨hl0, hl3⟩
    obtain ⟨Rx, hfx, hrx⟩ : Rt (fX11_appeal_N Fu (xi 3) (xi 5) (xi 6) (xi 7) (xa 0) (xa 1) (xa 2) (xq 0) (xa 24) (xi 31) (xb 1) (xb 12) (xb 13) (i32 z)) _ := c_appeal_N hFu hWF hRX hH _ _ _ _ _ zl zh
    have hv : Rx.1 = Rm.1 := by rw [hrx, hrm]
    have hC := mX11_appeal_N (G := G) (b := b) (c0 := c) (n := n) (v0_faultPlace := (xi 0)) (v0_quashedRows := (xi 1)) (v0_lastRefusal := (xi 2)) (v1_meals := (xi 4)) (v37_height := (xi 30)) (v37_answer := (xj 0)) (v1_beasts := (xi 3)) (v1_seats := (xi 5)) (v1_laws := (xi 6)) (v1_inForce := (xi 7)) (a2 := (xa 0)) (a3 := (xa 1)) (a4 := (xa 2)) (a5 := (xq 0)) (a38 := (xa 24)) (v40_voters := (xi 31)) (a41 := (xb 1)) (a75 := (xb 12)) (a77 := (xb 13)) ((e_wf_X (by omega)).pick [0, 1, 2, 3, 4, 5, 37, 38, 40, 41, 74, 75, 76, 77] rfl (by decide)) hfx
    rw [hX.sub kX_nd [0, 1, 2, 3, 4, 5, 37, 38, 40, 41, 74, 75, 76, 77] rfl rfl, hX.back kX_nd rfl [0, 1, 2, 3, 4, 5, 37, 38, 40, 41, 74, 75, 76, 77] rfl (wF' := (wX G b (va_up xi 31 Rx.2.2.1) xj (va_up xa 24 Rx.2.1) (va_up (va_up (va_up xb 1 Rx.2.2.2.1) 12 Rx.2.2.2.2.1) 13 Rx.2.2.2.2.2) xq)) rfl] at hC
    refine ⟨5, by decide, _, hC, ?_⟩
    rintro v C1 n1 ⟨rfl, hC1, rfl⟩
    have hX1 : HAS kX (wX G b (va_up xi 31 Rx.2.2.1) xj (va_up xa 24 Rx.2.1) (va_up (va_up (va_up xb 1 Rx.2.2.2.1) 12 Rx.2.2.2.2.1) 13 Rx.2.2.2.2.2) xq) C1 := by rw [hC1]; exact HAS.of kX_nd
    have hM1 : HAS (kM 79) (wMM G b mi mj ma mb) C1 := by rw [hC1]; exact hM.out M_no_X
    have hLw1 : LAWS G b C1 nl LL := by rw [hC1]; exact hLw.outX
    have hCm := mX12_appeal (G := G) (b := b) (o := 79) (c0 := C1) (n := n1) (v_status := (mi 1)) (a_refusals := (ma 0)) (a_images := (ma 2)) (a_isKept := (ma 3)) (a_tape := (ma 4)) (v_taped := (mi 2)) (v_from := (mi 3)) (v_to := (mi 4)) (v_sort := (mi 5)) (v_worth := (mj 0)) (v_fault := (mi 6)) (v_bad := (mi 7)) (v_nClauses := (mi 8)) (a_nClause := (ma 5)) (v_nCode := (mi 9)) (a_nOp := (ma 6)) (a_nArg := (ma 7)) (v_nLeaves := (mi 10)) (a_pile := (ma 8)) (a_pileAt := (ma 9)) (v_piled := (mi 11)) (v_opened := (mi 12)) (a_words := (mb 0)) (a_headWords := (mb 1)) (a_costs := (ma 11)) (a_table := (mb 5)) (a_prices := (ma 12)) (v_surely := (mj 3)) (a_mostBy := (mb 6)) (a_leastBy := (mb 7)) (v_between := (mj 4)) (v_steadyWays := (mi 15)) (v_quashed := (mi 16)) (v_but := (mi 17)) (a_lies := (ma 15)) (a_since := (ma 16)) (v_last := (mi 18)) (v_state := (mj 5)) (v_thrown := (mi 0)) (a_row := (ma 1)) (v_law := (mi 13)) (a_set := (mb 2)) (a_rest := (mb 3)) (v_broken := (mi 14)) (v_value := (mj 1)) (v_sum := (mj 2)) (a_chances := (ma 10)) (a_votes := (mb 4)) (a_figures := (ma 13)) (a_all := (ma 14)) (e_wf_M (by omega)) hfm
    rw [hM1.ov] at hCm
    refine ⟨⟨by omega, _, hM1 0 79 _ rfl rfl⟩, ⟨_, rfl⟩, _, hCm, ?_⟩
    rintro v2 C2 n2 ⟨rfl, hC2, rfl⟩
    have hX2 : HAS kX (wX G b (va_up xi 31 Rx.2.2.1) xj (va_up xa 24 Rx.2.1) (va_up (va_up (va_up xb 1 Rx.2.2.2.1) 12 Rx.2.2.2.2.1) 13 Rx.2.2.2.2.2) xq) C2 := by rw [hC2]; exact hX1.out X_no_M
    have hM2 : HAS (kM 79) (wMM G b (va_up (va_up (va_up mi 0 Rm.2.1) 13 Rm.2.2.1) 14 Rm.2.2.2.2.2.1) (va_up (va_up mj 1 Rm.2.2.2.2.2.2.1) 2 Rm.2.2.2.2.2.2.2.1) (va_up (va_up (va_up ma 10 Rm.2.2.2.2.2.2.2.2.1) 13 Rm.2.2.2.2.2.2.2.2.2.2.1) 14 Rm.2.2.2.2.2.2.2.2.2.2.2) (va_up (va_up (va_up mb 2 Rm.2.2.2.1) 3 Rm.2.2.2.2.1) 4 Rm.2.2.2.2.2.2.2.2.2.1)) C2 := by rw [hC2]; exact HAS.of kM_nd
    have hLw2 : LAWS G b C2 nl LL := by rw [hC2]; exact hLw1.outM
    exact ⟨congrArg (fun z => some (Value.int z)) hv.symm, (va_up xi 31 Rx.2.2.1), xj, (va_up xa 24 Rx.2.1), (va_up (va_up (va_up xb 1 Rx.2.2.2.1) 12 Rx.2.2.2.2.1) 13 Rx.2.2.2.2.2), xq, (va_up (va_up (va_up mi 0 Rm.2.1) 13 Rm.2.2.1) 14 Rm.2.2.2.2.2.1), (va_up (va_up mj 1 Rm.2.2.2.2.2.2.1) 2 Rm.2.2.2.2.2.2.2.1), (va_up (va_up (va_up ma 10 Rm.2.2.2.2.2.2.2.2.1) 13 Rm.2.2.2.2.2.2.2.2.2.2.1) 14 Rm.2.2.2.2.2.2.2.2.2.2.2), (va_up (va_up (va_up mb 2 Rm.2.2.2.1) 3 Rm.2.2.2.2.1) 4 Rm.2.2.2.2.2.2.2.2.2.1), nl, LL, y, LO, hX2, hM2, hn, hLw2, hRM, hWF, hRX, hB, hLOk, hI0, hI1, hK, hRR, hTP, hFP, hQU, hLY, hCI, hBT, hWD, hHW, hQ0, hQ1, hQ2⟩
  · obtain ⟨nh, nt, ne, ns, aL1, aL2, aL3, aL4, hLc, hLX⟩ := hLw j hj
    have hH : HL y LO nh nt ne ns b (105 + 5 * j) (xq 0) aL1 aL2 aL3 aL4 := ⟨LL j, hl0, hl3, hl5, hLX⟩
    obtain ⟨Rx, hfx, hrx⟩ : Rt (fX11_appeal_L Fu nh nt ne ns b (105 + 5 * j) (xi 3) (xi 5) (xi 6) (xi 7) (xa 0) (xa 1) (xa 2) (xq 0) (xi 30) (xj 0) (xa 24) (xb 0) (xi 31) (xb 1) (xb 12) (xb 13) aL1 aL2 aL3 aL4 (i32 z)) _ := c_appeal_L hFu hWF hRX hH _ _ _ _ _ _ _ _ zl zh
    have hv : Rx.1 = Rm.1 := by rw [hrx, hrm]
    have hXL := hX.app hLc rfl
    have hC := mX11_appeal_L (G := G) (b := b) (q := 105 + 5 * j) (nh := nh) (nt := nt) (ne := ne) (ns := ns) (c0 := c) (n := n) (v0_faultPlace := (xi 0)) (v0_quashedRows := (xi 1)) (v0_lastRefusal := (xi 2)) (v1_meals := (xi 4)) (v1_beasts := (xi 3)) (v1_seats := (xi 5)) (v1_laws := (xi 6)) (v1_inForce := (xi 7)) (a2 := (xa 0)) (a3 := (xa 1)) (a4 := (xa 2)) (a5 := (xq 0)) (v37_height := (xi 30)) (v37_answer := (xj 0)) (a38 := (xa 24)) (a39 := (xb 0)) (v40_voters := (xi 31)) (a41 := (xb 1)) (a75 := (xb 12)) (a77 := (xb 13)) (aL1 := aL1) (aL2 := aL2) (aL3 := aL3) (aL4 := aL4) ((e_wf_XL (q := 105 + 5 * j) (by omega) (by omega)).pick [0, 1, 2, 3, 4, 5, 37, 38, 39, 40, 41, 74, 75, 76, 77, 79, 80, 81, 82, 83] rfl (pick_nodup (kXL_nd (by omega)) [0, 1, 2, 3, 4, 5, 37, 38, 39, 40, 41, 74, 75, 76, 77, 79, 80, 81, 82, 83] (by decide) rfl)) hfx
    rw [hXL.sub (kXL_nd (by omega)) [0, 1, 2, 3, 4, 5, 37, 38, 39, 40, 41, 74, 75, 76, 77, 79, 80, 81, 82, 83] rfl rfl, hXL.back (kXL_nd (by omega)) rfl [0, 1, 2, 3, 4, 5, 37, 38, 39, 40, 41, 74, 75, 76, 77, 79, 80, 81, 82, 83] rfl (wF' := (wX G b (va_up (va_up xi 30 Rx.2.1) 31 Rx.2.2.2.2.2.1) (va_up xj 0 Rx.2.2.1) (va_up xa 24 Rx.2.2.2.1) (va_up (va_up (va_up (va_up xb 0 Rx.2.2.2.2.1) 1 Rx.2.2.2.2.2.2.1) 12 Rx.2.2.2.2.2.2.2.1) 13 Rx.2.2.2.2.2.2.2.2) xq) ++ wL G b (105 + 5 * j) nh nt ne ns aL1 aL2 aL3 aL4) rfl, e_ov_cat (ks := kX) (es := (wX G b (va_up (va_up xi 30 Rx.2.1) 31 Rx.2.2.2.2.2.1) (va_up xj 0 Rx.2.2.1) (va_up xa 24 Rx.2.2.2.1) (va_up (va_up (va_up (va_up xb 0 Rx.2.2.2.2.1) 1 Rx.2.2.2.2.2.2.1) 12 Rx.2.2.2.2.2.2.2.1) 13 Rx.2.2.2.2.2.2.2.2) xq)) rfl, hLc.ov] at hC
    refine ⟨6, by decide, _, hC, ?_⟩
    rintro v C1 n1 ⟨rfl, hC1, rfl⟩
    have hX1 : HAS kX (wX G b (va_up (va_up xi 30 Rx.2.1) 31 Rx.2.2.2.2.2.1) (va_up xj 0 Rx.2.2.1) (va_up xa 24 Rx.2.2.2.1) (va_up (va_up (va_up (va_up xb 0 Rx.2.2.2.2.1) 1 Rx.2.2.2.2.2.2.1) 12 Rx.2.2.2.2.2.2.2.1) 13 Rx.2.2.2.2.2.2.2.2) xq) C1 := by rw [hC1]; exact HAS.of kX_nd
    have hM1 : HAS (kM 79) (wMM G b mi mj ma mb) C1 := by rw [hC1]; exact hM.out M_no_X
    have hLw1 : LAWS G b C1 nl LL := by rw [hC1]; exact hLw.outX
    have hCm := mX12_appeal (G := G) (b := b) (o := 79) (c0 := C1) (n := n1) (v_status := (mi 1)) (a_refusals := (ma 0)) (a_images := (ma 2)) (a_isKept := (ma 3)) (a_tape := (ma 4)) (v_taped := (mi 2)) (v_from := (mi 3)) (v_to := (mi 4)) (v_sort := (mi 5)) (v_worth := (mj 0)) (v_fault := (mi 6)) (v_bad := (mi 7)) (v_nClauses := (mi 8)) (a_nClause := (ma 5)) (v_nCode := (mi 9)) (a_nOp := (ma 6)) (a_nArg := (ma 7)) (v_nLeaves := (mi 10)) (a_pile := (ma 8)) (a_pileAt := (ma 9)) (v_piled := (mi 11)) (v_opened := (mi 12)) (a_words := (mb 0)) (a_headWords := (mb 1)) (a_costs := (ma 11)) (a_table := (mb 5)) (a_prices := (ma 12)) (v_surely := (mj 3)) (a_mostBy := (mb 6)) (a_leastBy := (mb 7)) (v_between := (mj 4)) (v_steadyWays := (mi 15)) (v_quashed := (mi 16)) (v_but := (mi 17)) (a_lies := (ma 15)) (a_since := (ma 16)) (v_last := (mi 18)) (v_state := (mj 5)) (v_thrown := (mi 0)) (a_row := (ma 1)) (v_law := (mi 13)) (a_set := (mb 2)) (a_rest := (mb 3)) (v_broken := (mi 14)) (v_value := (mj 1)) (v_sum := (mj 2)) (a_chances := (ma 10)) (a_votes := (mb 4)) (a_figures := (ma 13)) (a_all := (ma 14)) (e_wf_M (by omega)) hfm
    rw [hM1.ov] at hCm
    refine ⟨⟨by omega, _, hM1 0 79 _ rfl rfl⟩, ⟨_, rfl⟩, _, hCm, ?_⟩
    rintro v2 C2 n2 ⟨rfl, hC2, rfl⟩
    have hX2 : HAS kX (wX G b (va_up (va_up xi 30 Rx.2.1) 31 Rx.2.2.2.2.2.1) (va_up xj 0 Rx.2.2.1) (va_up xa 24 Rx.2.2.2.1) (va_up (va_up (va_up (va_up xb 0 Rx.2.2.2.2.1) 1 Rx.2.2.2.2.2.2.1) 12 Rx.2.2.2.2.2.2.2.1) 13 Rx.2.2.2.2.2.2.2.2) xq) C2 := by rw [hC2]; exact hX1.out X_no_M
    have hM2 : HAS (kM 79) (wMM G b (va_up (va_up (va_up mi 0 Rm.2.1) 13 Rm.2.2.1) 14 Rm.2.2.2.2.2.1) (va_up (va_up mj 1 Rm.2.2.2.2.2.2.1) 2 Rm.2.2.2.2.2.2.2.1) (va_up (va_up (va_up ma 10 Rm.2.2.2.2.2.2.2.2.1) 13 Rm.2.2.2.2.2.2.2.2.2.2.1) 14 Rm.2.2.2.2.2.2.2.2.2.2.2) (va_up (va_up (va_up mb 2 Rm.2.2.2.1) 3 Rm.2.2.2.2.1) 4 Rm.2.2.2.2.2.2.2.2.2.1)) C2 := by rw [hC2]; exact HAS.of kM_nd
    have hLw2 : LAWS G b C2 nl LL := by rw [hC2]; exact hLw1.outM
    exact ⟨congrArg (fun z => some (Value.int z)) hv.symm, (va_up (va_up xi 30 Rx.2.1) 31 Rx.2.2.2.2.2.1), (va_up xj 0 Rx.2.2.1), (va_up xa 24 Rx.2.2.2.1), (va_up (va_up (va_up (va_up xb 0 Rx.2.2.2.2.1) 1 Rx.2.2.2.2.2.2.1) 12 Rx.2.2.2.2.2.2.2.1) 13 Rx.2.2.2.2.2.2.2.2), xq, (va_up (va_up (va_up mi 0 Rm.2.1) 13 Rm.2.2.1) 14 Rm.2.2.2.2.2.1), (va_up (va_up mj 1 Rm.2.2.2.2.2.2.1) 2 Rm.2.2.2.2.2.2.2.1), (va_up (va_up (va_up ma 10 Rm.2.2.2.2.2.2.2.2.1) 13 Rm.2.2.2.2.2.2.2.2.2.2.1) 14 Rm.2.2.2.2.2.2.2.2.2.2.2), (va_up (va_up (va_up mb 2 Rm.2.2.2.1) 3 Rm.2.2.2.2.1) 4 Rm.2.2.2.2.2.2.2.2.2.1), nl, LL, y, LO, hX2, hM2, hn, hLw2, hRM, hWF, hRX, hB, hLOk, hI0, hI1, hK, hRR, hTP, hFP, hQU, hLY, hCI, hBT, hWD, hHW, hQ0, hQ1, hQ2⟩
