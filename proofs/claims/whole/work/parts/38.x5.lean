def fX1_can_L24 (v42_seats : Int32) (a46 : Nat → Int32) (a47 : Nat → Int32) : Option (Int32) := some (0)
set_option maxHeartbeats 4000000 in
set_option maxRecDepth 100000 in
theorem tX1_can_L24 {G : GT} {b : Nat} {c0 : Hp} {n : Nat} (hw : e_wf (kW46) n) {v42_beasts : Int32} {v42_seated : Int32} {v42_quota : Int32} {v42_known : Int32} {v42_surveyed : Int32} {v42_steadyBench : Int32} {v42_steadyWays : Int32} {v42_steadySwing : Int64} {v42_seats : Int32} {a46 : Nat → Int32} {a47 : Nat → Int32} {R : Int32} (hf : fX1_can_L24 v42_seats a46 a47 = some R) : E G b yX1_can cX1_can 3 (some .boolean) (e_rm 2 0 0) e_X0 (e_Z G b (pD (some (.int R)) (e_ov (kW46) (wW46 G b v42_beasts v42_seats v42_seated v42_quota v42_known v42_surveyed v42_steadyBench v42_steadyWays v42_steadySwing a46 a47) c0) n) 0 0) 24 [] [] (e_ov (kW46) (wW46 G b v42_beasts v42_seats v42_seated v42_quota v42_known v42_surveyed v42_steadyBench v42_steadyWays v42_steadySwing a46 a47) c0) n 0 0 := by
  unfold fX1_can_L24 at hf
  refine E.iconst (v := 0) dX1_can_24 (by decide) ?_
  cases hf
  exact E.zret dX1_can_25 rfl (Nat.le_refl _) (Nat.le_refl _) (pD_rf _ _ _)
def fX1_can (v42_seats : Int32) (a46 : Nat → Int32) (a47 : Nat → Int32) (x1 : Int32) (x2 : Int32) : Option (Int32) := if ((x2 &&& (v42_seats ^^^ (-1 : Int32))) : Int32) = (0 : Int32) then ((fX1_affords a46 a47 x1 x2).bind fun r1 => (if (r1 : Int32) = (0 : Int32) then (fX1_can_L24 v42_seats a46 a47) else (some (1)))) else (fX1_can_L24 v42_seats a46 a47)
set_option maxHeartbeats 4000000 in
set_option maxRecDepth 100000 in
theorem tX1_can {G : GT} {b : Nat} {c0 : Hp} {n : Nat} (hw : e_wf (kW46) n) {v42_beasts : Int32} {v42_seated : Int32} {v42_quota : Int32} {v42_known : Int32} {v42_surveyed : Int32} {v42_steadyBench : Int32} {v42_steadyWays : Int32} {v42_steadySwing : Int64} {v42_seats : Int32} {a46 : Nat → Int32} {a47 : Nat → Int32} {x1 : Int32} {x2 : Int32} {R : Int32} (hf : fX1_can v42_seats a46 a47 x1 x2 = some R) : E G b yX1_can cX1_can 3 (some .boolean) (e_rm 2 0 0) e_X0 (e_Z G b (pD (some (.int R)) (e_ov (kW46) (wW46 G b v42_beasts v42_seats v42_seated v42_quota v42_known v42_surveyed v42_steadyBench v42_steadyWays v42_steadySwing a46 a47) c0) n) 0 0) 0 [(0, .ref (b + 42)), (1, .int x1), (2, .int x2)] [] (e_ov (kW46) (wW46 G b v42_beasts v42_seats v42_seated v42_quota v42_known v42_surveyed v42_steadyBench v42_steadyWays v42_steadySwing a46 a47) c0) n 0 0 := by
  unfold fX1_can at hf
  refine E.iload_n 2 dX1_can_0 rfl ?_
  refine E.aload_n 0 dX1_can_1 rfl ?_
  refine E.get hw 0 42 dX1_can_2 flX1_62 rfl rfl rfl rfl ?_
  refine E.iconst (v := -1) dX1_can_5 (by decide) ?_
  refine E.ixor dX1_can_6 ?_
  refine E.iand dX1_can_7 ?_
  refine E.if_ne dX1_can_8 (fun h => ?_) (fun h => ?_)
  · have hf := e_iff hf h
    refine E.locals [] rfl ?_
    exact tX1_can_L24 hw hf
  · have hf := e_ift hf h
    refine E.aload_n 0 dX1_can_11 rfl ?_
    refine E.iload_n 1 dX1_can_12 rfl ?_
    refine E.iload_n 2 dX1_can_13 rfl ?_
    obtain ⟨r1, hc1, hf⟩ := e_bind hf
    refine E.callVD [] dX1_can_14 mlX1_103 ⟨hw.sub (p := 0) rfl, e_ov_get hw.1 (p := 0) rfl rfl⟩ rfl rfl (mX1_affords hw hc1) ⟨Nat.le_of_ble_eq_true rfl, Nat.le_of_ble_eq_true rfl⟩ rfl rfl (Nat.le_of_ble_eq_true rfl) ⟨Nat.le_refl _, Nat.le_refl _⟩ rfl ?_
    refine E.if_eq dX1_can_17 (fun h => ?_) (fun h => ?_)
    · have hf := e_ift hf h
      refine E.locals [] rfl ?_
      exact tX1_can_L24 hw hf
    · have hf := e_iff hf h
      refine E.iconst (v := 1) dX1_can_20 (by decide) ?_
      refine E.goto dX1_can_21 ?_
      cases hf
      exact E.zret dX1_can_25 rfl (Nat.le_refl _) (Nat.le_refl _) (pD_rf _ _ _)
set_option maxRecDepth 100000 in
theorem mX1_can {G : GT} {b : Nat} {c0 : Hp} {n : Nat} (hw : e_wf (kW46) n) {v42_beasts : Int32} {v42_seated : Int32} {v42_quota : Int32} {v42_known : Int32} {v42_surveyed : Int32} {v42_steadyBench : Int32} {v42_steadyWays : Int32} {v42_steadySwing : Int64} {v42_seats : Int32} {a46 : Nat → Int32} {a47 : Nat → Int32} {x1 : Int32} {x2 : Int32} {R : Int32} (hf : fX1_can v42_seats a46 a47 x1 x2 = some R) : e_C G b yX1_can cX1_can 3 (some .boolean) 2 0 0 [.ref (b + 42), .int x1, .int x2] (e_ov (kW46) (wW46 G b v42_beasts v42_seats v42_seated v42_quota v42_known v42_surveyed v42_steadyBench v42_steadyWays v42_steadySwing a46 a47) c0) n (pD (some (.int R)) (e_ov (kW46) (wW46 G b v42_beasts v42_seats v42_seated v42_quota v42_known v42_surveyed v42_steadyBench v42_steadyWays v42_steadySwing a46 a47) c0) n) := e_C.of (by decide) (Nat.le_of_ble_eq_true rfl) (tX1_can hw hf)
abbrev kW47 : List Nat := [42, 43, 44]
abbrev wW47 (G : GT) (b  : Nat) (v42_beasts : Int32) (v42_seats : Int32) (v42_seated : Int32) (v42_quota : Int32) (v42_known : Int32) (v42_surveyed : Int32) (v42_steadyBench : Int32) (v42_steadyWays : Int32) (v42_steadySwing : Int64) (a43 : Nat → Int32) (a44 : Nat → Int32) : List va_E := [.inr (1, [.ref (b + 43), .ref (b + 44), .ref (b + 45), .ref (b + 46), .ref (b + 47), .ref (b + 48), .ref (b + 49), .ref (b + 50), .ref (b + 67), .int v42_beasts, .int v42_seats, .int v42_seated, .int v42_quota, .int v42_known, .int v42_surveyed, .int v42_steadyBench, .int v42_steadyWays, .long v42_steadySwing]), aI G 32 a43, aI G 8 a44]
def fX1_chanceWith (a43 : Nat → Int32) (a44 : Nat → Int32) (x1 : Int32) (x2 : Int32) : Option (Int32) := gd x1 8 (gd ((x1 * 4) + ((a44 (x1 : Int32).toNatClampNeg) ||| x2)) 32 (some ((a43 (((x1 * 4) + ((a44 (x1 : Int32).toNatClampNeg) ||| x2)) : Int32).toNatClampNeg))))
set_option maxHeartbeats 4000000 in
set_option maxRecDepth 100000 in
theorem tX1_chanceWith {G : GT} {b : Nat} {c0 : Hp} {n : Nat} (hw : e_wf (kW47) n) {v42_beasts : Int32} {v42_seats : Int32} {v42_seated : Int32} {v42_quota : Int32} {v42_known : Int32} {v42_surveyed : Int32} {v42_steadyBench : Int32} {v42_steadyWays : Int32} {v42_steadySwing : Int64} {a43 : Nat → Int32} {a44 : Nat → Int32} {x1 : Int32} {x2 : Int32} {R : Int32} (hf : fX1_chanceWith a43 a44 x1 x2 = some R) : E G b yX1_chanceWith cX1_chanceWith 3 (some .int) (e_rm 0 0 0) e_X0 (e_Z G b (pD (some (.int R)) (e_ov (kW47) (wW47 G b v42_beasts v42_seats v42_seated v42_quota v42_known v42_surveyed v42_steadyBench v42_steadyWays v42_steadySwing a43 a44) c0) n) 0 0) 0 [(0, .ref (b + 42)), (1, .int x1), (2, .int x2)] [] (e_ov (kW47) (wW47 G b v42_beasts v42_seats v42_seated v42_quota v42_known v42_surveyed v42_steadyBench v42_steadyWays v42_steadySwing a43 a44) c0) n 0 0 := by
  unfold fX1_chanceWith at hf
  refine E.aload_n 0 dX1_chanceWith_0 rfl ?_
  refine E.get hw 0 42 dX1_chanceWith_1 flX1_9 rfl rfl rfl rfl ?_
  refine E.iload_n 1 dX1_chanceWith_4 rfl ?_
  refine E.iconst (v := 4) dX1_chanceWith_5 (by decide) ?_
  refine E.imul dX1_chanceWith_6 ?_
  refine E.aload_n 0 dX1_chanceWith_7 rfl ?_
  refine E.get hw 0 42 dX1_chanceWith_8 flX1_15 rfl rfl rfl rfl ?_
  refine E.iload_n 1 dX1_chanceWith_11 rfl ?_
  obtain ⟨g1, hf⟩ := gd_some hf
  refine E.iald hw 2 44 dX1_chanceWith_12 rfl rfl g1 ?_
  refine E.iload_n 2 dX1_chanceWith_13 rfl ?_
  refine E.ior dX1_chanceWith_14 ?_
  refine E.iadd dX1_chanceWith_15 ?_
  obtain ⟨g2, hf⟩ := gd_some hf
  refine E.iald hw 1 43 dX1_chanceWith_16 rfl rfl g2 ?_
  cases hf
  exact E.iret dX1_chanceWith_17 (Nat.le_refl _) (Nat.le_refl _) (pD_rf _ _ _)
set_option maxRecDepth 100000 in
theorem mX1_chanceWith {G : GT} {b : Nat} {c0 : Hp} {n : Nat} (hw : e_wf (kW47) n) {v42_beasts : Int32} {v42_seats : Int32} {v42_seated : Int32} {v42_quota : Int32} {v42_known : Int32} {v42_surveyed : Int32} {v42_steadyBench : Int32} {v42_steadyWays : Int32} {v42_steadySwing : Int64} {a43 : Nat → Int32} {a44 : Nat → Int32} {x1 : Int32} {x2 : Int32} {R : Int32} (hf : fX1_chanceWith a43 a44 x1 x2 = some R) : e_C G b yX1_chanceWith cX1_chanceWith 3 (some .int) 0 0 0 [.ref (b + 42), .int x1, .int x2] (e_ov (kW47) (wW47 G b v42_beasts v42_seats v42_seated v42_quota v42_known v42_surveyed v42_steadyBench v42_steadyWays v42_steadySwing a43 a44) c0) n (pD (some (.int R)) (e_ov (kW47) (wW47 G b v42_beasts v42_seats v42_seated v42_quota v42_known v42_surveyed v42_steadyBench v42_steadyWays v42_steadySwing a43 a44) c0) n) := e_C.of (by decide) (Nat.le_of_ble_eq_true rfl) (tX1_chanceWith hw hf)
abbrev kW48 : List Nat := [42, 43, 44, 67, 68]
abbrev wW48 (G : GT) (b  : Nat) (v42_beasts : Int32) (v42_seats : Int32) (v42_seated : Int32) (v42_quota : Int32) (v42_known : Int32) (v42_surveyed : Int32) (v42_steadyBench : Int32) (v42_steadyWays : Int32) (v42_steadySwing : Int64) (a43 : Nat → Int32) (a44 : Nat → Int32) (v67_voters : Int32) (a68 : Nat → Int64) : List va_E := [.inr (1, [.ref (b + 43), .ref (b + 44), .ref (b + 45), .ref (b + 46), .ref (b + 47), .ref (b + 48), .ref (b + 49), .ref (b + 50), .ref (b + 67), .int v42_beasts, .int v42_seats, .int v42_seated, .int v42_quota, .int v42_known, .int v42_surveyed, .int v42_steadyBench, .int v42_steadyWays, .long v42_steadySwing]), aI G 32 a43, aI G 8 a44, .inr (8, [.ref (b + 68), .int v67_voters]), aJ G 9 a68]
def fX1_winningOn_L10 (Fu : Nat) : Nat → Int32 → (Nat → Int32) → (Nat → Int32) → Int32 → (Nat → Int64) → Int32 → Int32 → Int32 → Int32 → Int32 → Option (Int64 × Int32 × (Nat → Int64))
  | 0, _, _, _, _, _, _, _, _, _, _ => none
  | k + 1, v42_beasts, a43, a44, v67_voters, a68, x1, x2, x3, x4, x5 => if (v42_beasts : Int32) ≤ (x5 : Int32) then ((fX8_atLeast Fu v67_voters a68 x2).bind fun r2 => (some (r2, v67_voters, a68))) else (if ((((x1 : Int32) >>> ((x5 : Int32) &&& 31)) &&& 1) : Int32) = (1 : Int32) then ((fX1_chanceWith a43 a44 x5 ((((x3 : Int32) >>> ((x5 : Int32) &&& 31)) &&& 1) ||| (((((x4 : Int32) >>> ((x5 : Int32) &&& 31)) &&& 1) : Int32) <<< ((1 : Int32) &&& 31)))).bind fun r3 => ((fX8_vote Fu v67_voters a68 r3).bind fun r4 => ((fX1_winningOn_L10 Fu k) v42_beasts a43 a44 r4.1 r4.2 x1 x2 x3 x4 (x5 + 1)))) else ((fX1_winningOn_L10 Fu k) v42_beasts a43 a44 v67_voters a68 x1 x2 x3 x4 (x5 + 1)))
set_option maxHeartbeats 4000000 in
set_option maxRecDepth 100000 in
theorem tX1_winningOn_L10 {G : GT} {b : Nat} {c0 : Hp} {n : Nat} (hw : e_wf (kW48) n) {v42_seats : Int32} {v42_seated : Int32} {v42_quota : Int32} {v42_known : Int32} {v42_surveyed : Int32} {v42_steadyBench : Int32} {v42_steadyWays : Int32} {v42_steadySwing : Int64} {Fu : Nat} : ∀ (k : Nat) {v42_beasts : Int32} {a43 : Nat → Int32} {a44 : Nat → Int32} {v67_voters : Int32} {a68 : Nat → Int64} {x1 : Int32} {x2 : Int32} {x3 : Int32} {x4 : Int32} {x5 : Int32} {R : Int64 × Int32 × (Nat → Int64)}, fX1_winningOn_L10 Fu k v42_beasts a43 a44 v67_voters a68 x1 x2 x3 x4 x5 = some R → E G b yX1_winningOn cX1_winningOn 6 (some .long) (e_rm 2 0 0) e_X0 (e_Z G b (pD (some (.long R.1)) (e_ov (kW48) (wW48 G b v42_beasts v42_seats v42_seated v42_quota v42_known v42_surveyed v42_steadyBench v42_steadyWays v42_steadySwing a43 a44 R.2.1 R.2.2) c0) n) 0 0) 10 [(0, .ref (b + 42)), (1, .int x1), (2, .int x2), (3, .int x3), (4, .int x4), (5, .int x5)] [] (e_ov (kW48) (wW48 G b v42_beasts v42_seats v42_seated v42_quota v42_known v42_surveyed v42_steadyBench v42_steadyWays v42_steadySwing a43 a44 v67_voters a68) c0) n 0 0 := by
  intro k
  induction k with
  | zero =>
    intro _ _ _ _ _ _ _ _ _ _ _ hf
    have hf : (none : Option (Int64 × Int32 × (Nat → Int64))) = some _ := hf
    cases hf
  | succ k ih =>
    intro v42_beasts a43 a44 v67_voters a68 x1 x2 x3 x4 x5 R hf
    rw [fX1_winningOn_L10] at hf
    refine E.iload 5 dX1_winningOn_10 rfl ?_
    refine E.aload_n 0 dX1_winningOn_12 rfl ?_
    refine E.get hw 0 42 dX1_winningOn_13 flX1_58 rfl rfl rfl rfl ?_
    refine E.icmp_ge dX1_winningOn_16 (fun h => ?_) (fun h => ?_)
    · have hf := e_ift hf h
      refine E.aload_n 0 dX1_winningOn_64 rfl ?_
      refine E.get hw 0 42 dX1_winningOn_65 flX1_41 rfl rfl rfl rfl ?_
      refine E.iload_n 2 dX1_winningOn_68 rfl ?_
      obtain ⟨r2, hc2, hf⟩ := e_bind hf
      refine E.callVDs (es' := (wW48 G b v42_beasts v42_seats v42_seated v42_quota v42_known v42_surveyed v42_steadyBench v42_steadyWays v42_steadySwing a43 a44 v67_voters a68)) [] [3, 4] 3 67 dX1_winningOn_69 mlX1_120 hw rfl rfl rfl rfl (mX8_atLeast (hw.pick2 [3, 4] rfl (by decide)) hc2) rfl rfl rfl rfl ⟨Nat.le_of_ble_eq_true rfl, Nat.le_of_ble_eq_true rfl⟩ rfl rfl (Nat.le_of_ble_eq_true rfl) ⟨Nat.le_refl _, Nat.le_refl _⟩ rfl ?_
      cases hf
      exact E.lret dX1_winningOn_72 (Nat.le_refl _) (Nat.le_refl _) (pD_rf _ _ _)
    · have hf := e_iff hf h
      refine E.iload_n 1 dX1_winningOn_19 rfl ?_
      refine E.iload 5 dX1_winningOn_20 rfl ?_
      refine E.ishr dX1_winningOn_22 ?_
      refine E.iconst (v := 1) dX1_winningOn_23 (by decide) ?_
      refine E.iand dX1_winningOn_24 ?_
      refine E.iconst (v := 1) dX1_winningOn_25 (by decide) ?_
      refine E.icmp_ne dX1_winningOn_26 (fun h => ?_) (fun h => ?_)
      · have hf := e_iff hf h
        refine E.iinc (q := 5) (v := (x5 + 1)) (lv' := [(5, .int (x5 + 1)), (0, .ref (b + 42)), (1, .int x1), (2, .int x2), (3, .int x3), (4, .int x4)]) dX1_winningOn_58 rfl rfl (by decide) rfl ?_
        refine E.goto dX1_winningOn_61 ?_
        refine E.locals [1, 2, 3, 4, 5, 0] rfl ?_
        exact ih hf
      · have hf := e_ift hf h
        refine E.aload_n 0 dX1_winningOn_29 rfl ?_
        refine E.get hw 0 42 dX1_winningOn_30 flX1_41 rfl rfl rfl rfl ?_
        refine E.aload_n 0 dX1_winningOn_33 rfl ?_
        refine E.iload 5 dX1_winningOn_34 rfl ?_
        refine E.iload_n 3 dX1_winningOn_36 rfl ?_
        refine E.iload 5 dX1_winningOn_37 rfl ?_
        refine E.ishr dX1_winningOn_39 ?_
        refine E.iconst (v := 1) dX1_winningOn_40 (by decide) ?_
        refine E.iand dX1_winningOn_41 ?_
        refine E.iload 4 dX1_winningOn_42 rfl ?_
        refine E.iload 5 dX1_winningOn_44 rfl ?_
        refine E.ishr dX1_winningOn_46 ?_
        refine E.iconst (v := 1) dX1_winningOn_47 (by decide) ?_
        refine E.iand dX1_winningOn_48 ?_
        refine E.iconst (v := 1) dX1_winningOn_49 (by decide) ?_
        refine E.ishl dX1_winningOn_50 ?_
        refine E.ior dX1_winningOn_51 ?_
        obtain ⟨r3, hc3, hf⟩ := e_bind hf
        refine E.callVDs (es' := (wW48 G b v42_beasts v42_seats v42_seated v42_quota v42_known v42_surveyed v42_steadyBench v42_steadyWays v42_steadySwing a43 a44 v67_voters a68)) [.ref (b + 67)] [0, 1, 2] 0 42 dX1_winningOn_52 mlX1_114 hw rfl rfl rfl rfl (mX1_chanceWith (hw.pick2 [0, 1, 2] rfl (by decide)) hc3) rfl rfl rfl rfl ⟨Nat.le_of_ble_eq_true rfl, Nat.le_of_ble_eq_true rfl⟩ rfl rfl (Nat.le_of_ble_eq_true rfl) ⟨Nat.le_refl _, Nat.le_refl _⟩ rfl ?_
        obtain ⟨r4, hc4, hf⟩ := e_bind hf
        refine E.callVDs (es' := (wW48 G b v42_beasts v42_seats v42_seated v42_quota v42_known v42_surveyed v42_steadyBench v42_steadyWays v42_steadySwing a43 a44 r4.1 r4.2)) [] [3, 4] 3 67 dX1_winningOn_55 mlX1_117 hw rfl rfl rfl rfl (mX8_vote (hw.pick2 [3, 4] rfl (by decide)) hc4) rfl rfl rfl rfl ⟨Nat.le_of_ble_eq_true rfl, Nat.le_of_ble_eq_true rfl⟩ rfl rfl (Nat.le_of_ble_eq_true rfl) ⟨Nat.le_refl _, Nat.le_refl _⟩ rfl ?_
        refine E.iinc (q := 5) (v := (x5 + 1)) (lv' := [(5, .int (x5 + 1)), (0, .ref (b + 42)), (1, .int x1), (2, .int x2), (3, .int x3), (4, .int x4)]) dX1_winningOn_58 rfl rfl (by decide) rfl ?_
        refine E.goto dX1_winningOn_61 ?_
        refine E.locals [1, 2, 3, 4, 5, 0] rfl ?_
        exact ih hf
def fX1_winningOn (Fu : Nat) (v42_beasts : Int32) (a43 : Nat → Int32) (a44 : Nat → Int32) (v67_voters : Int32) (a68 : Nat → Int64) (x1 : Int32) (x2 : Int32) (x3 : Int32) (x4 : Int32) : Option (Int64 × Int32 × (Nat → Int64)) := (fX8_clear Fu v67_voters a68).bind fun r1 => (fX1_winningOn_L10 Fu Fu v42_beasts a43 a44 r1.1 r1.2 x1 x2 x3 x4 0)
set_option maxHeartbeats 4000000 in
set_option maxRecDepth 100000 in
theorem tX1_winningOn {G : GT} {b : Nat} {c0 : Hp} {n : Nat} (hw : e_wf (kW48) n) {v42_seats : Int32} {v42_seated : Int32} {v42_quota : Int32} {v42_known : Int32} {v42_surveyed : Int32} {v42_steadyBench : Int32} {v42_steadyWays : Int32} {v42_steadySwing : Int64} {Fu : Nat} {v42_beasts : Int32} {a43 : Nat → Int32} {a44 : Nat → Int32} {v67_voters : Int32} {a68 : Nat → Int64} {x1 : Int32} {x2 : Int32} {x3 : Int32} {x4 : Int32} {R : Int64 × Int32 × (Nat → Int64)} (hf : fX1_winningOn Fu v42_beasts a43 a44 v67_voters a68 x1 x2 x3 x4 = some R) : E G b yX1_winningOn cX1_winningOn 6 (some .long) (e_rm 2 0 0) e_X0 (e_Z G b (pD (some (.long R.1)) (e_ov (kW48) (wW48 G b v42_beasts v42_seats v42_seated v42_quota v42_known v42_surveyed v42_steadyBench v42_steadyWays v42_steadySwing a43 a44 R.2.1 R.2.2) c0) n) 0 0) 0 [(0, .ref (b + 42)), (1, .int x1), (2, .int x2), (3, .int x3), (4, .int x4)] [] (e_ov (kW48) (wW48 G b v42_beasts v42_seats v42_seated v42_quota v42_known v42_surveyed v42_steadyBench v42_steadyWays v42_steadySwing a43 a44 v67_voters a68) c0) n 0 0 := by
  unfold fX1_winningOn at hf
  refine E.aload_n 0 dX1_winningOn_0 rfl ?_
  refine E.get hw 0 42 dX1_winningOn_1 flX1_41 rfl rfl rfl rfl ?_
  obtain ⟨r1, hc1, hf⟩ := e_bind hf
  refine E.callVDs (es' := (wW48 G b v42_beasts v42_seats v42_seated v42_quota v42_known v42_surveyed v42_steadyBench v42_steadyWays v42_steadySwing a43 a44 r1.1 r1.2)) [] [3, 4] 3 67 dX1_winningOn_4 mlX1_111 hw rfl rfl rfl rfl (mX8_clear (hw.pick2 [3, 4] rfl (by decide)) hc1) rfl rfl rfl rfl ⟨Nat.le_of_ble_eq_true rfl, Nat.le_of_ble_eq_true rfl⟩ rfl rfl (Nat.le_of_ble_eq_true rfl) ⟨Nat.le_refl _, Nat.le_refl _⟩ rfl ?_
  refine E.iconst (v := 0) dX1_winningOn_7 (by decide) ?_
  refine E.istore (lv' := [(5, .int 0), (0, .ref (b + 42)), (1, .int x1), (2, .int x2), (3, .int x3), (4, .int x4)]) dX1_winningOn_8 (by decide) rfl ?_
  refine E.locals [1, 2, 3, 4, 5, 0] rfl ?_
  exact tX1_winningOn_L10 hw _ hf
set_option maxRecDepth 100000 in
theorem mX1_winningOn {G : GT} {b : Nat} {c0 : Hp} {n : Nat} (hw : e_wf (kW48) n) {v42_seats : Int32} {v42_seated : Int32} {v42_quota : Int32} {v42_known : Int32} {v42_surveyed : Int32} {v42_steadyBench : Int32} {v42_steadyWays : Int32} {v42_steadySwing : Int64} {Fu : Nat} {v42_beasts : Int32} {a43 : Nat → Int32} {a44 : Nat → Int32} {v67_voters : Int32} {a68 : Nat → Int64} {x1 : Int32} {x2 : Int32} {x3 : Int32} {x4 : Int32} {R : Int64 × Int32 × (Nat → Int64)} (hf : fX1_winningOn Fu v42_beasts a43 a44 v67_voters a68 x1 x2 x3 x4 = some R) : e_C G b yX1_winningOn cX1_winningOn 6 (some .long) 2 0 0 [.ref (b + 42), .int x1, .int x2, .int x3, .int x4] (e_ov (kW48) (wW48 G b v42_beasts v42_seats v42_seated v42_quota v42_known v42_surveyed v42_steadyBench v42_steadyWays v42_steadySwing a43 a44 v67_voters a68) c0) n (pD (some (.long R.1)) (e_ov (kW48) (wW48 G b v42_beasts v42_seats v42_seated v42_quota v42_known v42_surveyed v42_steadyBench v42_steadyWays v42_steadySwing a43 a44 R.2.1 R.2.2) c0) n) := e_C.of (by decide) (Nat.le_of_ble_eq_true rfl) (tX1_winningOn hw hf)
def fX1_winning (Fu : Nat) (v42_beasts : Int32) (v42_seats : Int32) (v42_quota : Int32) (a43 : Nat → Int32) (a44 : Nat → Int32) (v67_voters : Int32) (a68 : Nat → Int64) (x1 : Int32) (x2 : Int32) : Option (Int64 × Int32 × (Nat → Int64)) := (fX1_winningOn Fu v42_beasts a43 a44 v67_voters a68 v42_seats v42_quota x1 x2).bind fun r1 => (some (r1.1, r1.2.1, r1.2.2))
set_option maxHeartbeats 4000000 in
set_option maxRecDepth 100000 in
theorem tX1_winning {G : GT} {b : Nat} {c0 : Hp} {n : Nat} (hw : e_wf (kW48) n) {v42_seated : Int32} {v42_known : Int32} {v42_surveyed : Int32} {v42_steadyBench : Int32} {v42_steadyWays : Int32} {v42_steadySwing : Int64} {Fu : Nat} {v42_beasts : Int32} {v42_seats : Int32} {v42_quota : Int32} {a43 : Nat → Int32} {a44 : Nat → Int32} {v67_voters : Int32} {a68 : Nat → Int64} {x1 : Int32} {x2 : Int32} {R : Int64 × Int32 × (Nat → Int64)} (hf : fX1_winning Fu v42_beasts v42_seats v42_quota a43 a44 v67_voters a68 x1 x2 = some R) : E G b yX1_winning cX1_winning 3 (some .long) (e_rm 3 0 0) e_X0 (e_Z G b (pD (some (.long R.1)) (e_ov (kW48) (wW48 G b v42_beasts v42_seats v42_seated v42_quota v42_known v42_surveyed v42_steadyBench v42_steadyWays v42_steadySwing a43 a44 R.2.1 R.2.2) c0) n) 0 0) 0 [(0, .ref (b + 42)), (1, .int x1), (2, .int x2)] [] (e_ov (kW48) (wW48 G b v42_beasts v42_seats v42_seated v42_quota v42_known v42_surveyed v42_steadyBench v42_steadyWays v42_steadySwing a43 a44 v67_voters a68) c0) n 0 0 := by
  unfold fX1_winning at hf
  refine E.aload_n 0 dX1_winning_0 rfl ?_
  refine E.aload_n 0 dX1_winning_1 rfl ?_
  refine E.get hw 0 42 dX1_winning_2 flX1_62 rfl rfl rfl rfl ?_
  refine E.aload_n 0 dX1_winning_5 rfl ?_
  refine E.get hw 0 42 dX1_winning_6 flX1_66 rfl rfl rfl rfl ?_
  refine E.iload_n 1 dX1_winning_9 rfl ?_
  refine E.iload_n 2 dX1_winning_10 rfl ?_
  obtain ⟨r1, hc1, hf⟩ := e_bind hf
  refine E.callVD [] dX1_winning_11 mlX1_107 ⟨hw.sub (p := 0) rfl, e_ov_get hw.1 (p := 0) rfl rfl⟩ rfl rfl (mX1_winningOn hw hc1) ⟨Nat.le_of_ble_eq_true rfl, Nat.le_of_ble_eq_true rfl⟩ rfl rfl (Nat.le_of_ble_eq_true rfl) ⟨Nat.le_refl _, Nat.le_refl _⟩ rfl ?_
  cases hf
  exact E.lret dX1_winning_14 (Nat.le_refl _) (Nat.le_refl _) (pD_rf _ _ _)
set_option maxRecDepth 100000 in
theorem mX1_winning {G : GT} {b : Nat} {c0 : Hp} {n : Nat} (hw : e_wf (kW48) n) {v42_seated : Int32} {v42_known : Int32} {v42_surveyed : Int32} {v42_steadyBench : Int32} {v42_steadyWays : Int32} {v42_steadySwing : Int64} {Fu : Nat} {v42_beasts : Int32} {v42_seats : Int32} {v42_quota : Int32} {a43 : Nat → Int32} {a44 : Nat → Int32} {v67_voters : Int32} {a68 : Nat → Int64} {x1 : Int32} {x2 : Int32} {R : Int64 × Int32 × (Nat → Int64)} (hf : fX1_winning Fu v42_beasts v42_seats v42_quota a43 a44 v67_voters a68 x1 x2 = some R) : e_C G b yX1_winning cX1_winning 3 (some .long) 3 0 0 [.ref (b + 42), .int x1, .int x2] (e_ov (kW48) (wW48 G b v42_beasts v42_seats v42_seated v42_quota v42_known v42_surveyed v42_steadyBench v42_steadyWays v42_steadySwing a43 a44 v67_voters a68) c0) n (pD (some (.long R.1)) (e_ov (kW48) (wW48 G b v42_beasts v42_seats v42_seated v42_quota v42_known v42_surveyed v42_steadyBench v42_steadyWays v42_steadySwing a43 a44 R.2.1 R.2.2) c0) n) := e_C.of (by decide) (Nat.le_of_ble_eq_true rfl) (tX1_winning hw hf)
abbrev kW49 : List Nat := [0, 1, 2, 3, 4, 5, 37, 38, 42, 43, 44, 45, 46, 47, 49, 67, 68]
abbrev wW49 (G : GT) (b  : Nat) (v0_faultPlace : Int32) (v0_quashedRows : Int32) (v0_lastRefusal : Int32) (v1_beasts : Int32) (v1_meals : Int32) (v1_seats : Int32) (v1_laws : Int32) (v1_inForce : Int32) (a2 : Nat → Int32) (a3 : Nat → Int32) (a4 : Nat → Int32) (a5 : Nat → Option Nat) (v37_height : Int32) (v37_answer : Int64) (a38 : Nat → Int32) (v42_beasts : Int32) (v42_seats : Int32) (v42_seated : Int32) (v42_quota : Int32) (v42_known : Int32) (v42_surveyed : Int32) (v42_steadyBench : Int32) (v42_steadyWays : Int32) (v42_steadySwing : Int64) (a43 : Nat → Int32) (a44 : Nat → Int32) (a45 : Nat → Int32) (a46 : Nat → Int32) (a47 : Nat → Int32) (a49 : Nat → Int32) (v67_voters : Int32) (a68 : Nat → Int64) : List va_E := [.inr (11, [.ref (b + 1), .ref (b + 10), .ref (b + 29), .ref (b + 30), .ref (b + 32), .ref (b + 37), .ref (b + 40), .ref (b + 42), .ref (b + 69), .ref (b + 73), .ref (b + 74), .ref (b + 76), .ref (b + 78), .int v0_faultPlace, .int v0_quashedRows, .int v0_lastRefusal]), .inr (10, [.ref (b + 2), .ref (b + 3), .ref (b + 4), .ref (b + 5), .ref (b + 6), .int v1_beasts, .int v1_meals, .int v1_seats, .int v1_laws, .int v1_inForce]), aI G 48 a2, aI G 8 a3, aI G 6 a4, aQ G 4 6 a5, .inr (0, [.ref (b + 38), .ref (b + 39), .int v37_height, .long v37_answer]), aI G 10 a38, .inr (1, [.ref (b + 43), .ref (b + 44), .ref (b + 45), .ref (b + 46), .ref (b + 47), .ref (b + 48), .ref (b + 49), .ref (b + 50), .ref (b + 67), .int v42_beasts, .int v42_seats, .int v42_seated, .int v42_quota, .int v42_known, .int v42_surveyed, .int v42_steadyBench, .int v42_steadyWays, .long v42_steadySwing]), aI G 32 a43, aI G 8 a44, aI G 16 a45, aI G 512 a46, aI G 2 a47, aI G 8 a49, .inr (8, [.ref (b + 68), .int v67_voters]), aJ G 9 a68]
def fX11_bribed_N (Fu : Nat) (v1_beasts : Int32) (v1_seats : Int32) (v1_laws : Int32) (v1_inForce : Int32) (a2 : Nat → Int32) (a3 : Nat → Int32) (a4 : Nat → Int32) (a5 : Nat → Option Nat) (a38 : Nat → Int32) (v42_beasts : Int32) (v42_seats : Int32) (v42_seated : Int32) (v42_quota : Int32) (v42_known : Int32) (v42_surveyed : Int32) (a43 : Nat → Int32) (a44 : Nat → Int32) (a45 : Nat → Int32) (a46 : Nat → Int32) (a47 : Nat → Int32) (a49 : Nat → Int32) (v67_voters : Int32) (a68 : Nat → Int64) (x1 : Int32) (x2 : Int32) : Option (Int64 × (Nat → Int32) × Int32 × Int32 × Int32 × Int32 × Int32 × Int32 × (Nat → Int32) × (Nat → Int32) × (Nat → Int32) × (Nat → Int32) × (Nat → Int32) × (Nat → Int32) × Int32 × (Nat → Int64)) := (fX1_learn_N Fu v1_beasts v1_seats v1_laws v1_inForce a2 a3 a4 a5 a38 v42_beasts v42_seats v42_seated v42_quota v42_known v42_surveyed a43 a44 a45 a46 a47 a49).bind fun r1 => ((fX1_can r1.2.2.1 r1.2.2.2.2.2.2.2.2.2.2.1 r1.2.2.2.2.2.2.2.2.2.2.2.1 0 x1).bind fun r2 => (if (r2 : Int32) = (0 : Int32) then (some ((-1 : Int64), r1.1, r1.2.1, r1.2.2.1, r1.2.2.2.1, r1.2.2.2.2.1, r1.2.2.2.2.2.1, r1.2.2.2.2.2.2.1, r1.2.2.2.2.2.2.2.1, r1.2.2.2.2.2.2.2.2.1, r1.2.2.2.2.2.2.2.2.2.1, r1.2.2.2.2.2.2.2.2.2.2.1, r1.2.2.2.2.2.2.2.2.2.2.2.1, r1.2.2.2.2.2.2.2.2.2.2.2.2, v67_voters, a68)) else ((fX1_can r1.2.2.1 r1.2.2.2.2.2.2.2.2.2.2.1 r1.2.2.2.2.2.2.2.2.2.2.2.1 1 x2).bind fun r3 => (if (r3 : Int32) = (0 : Int32) then (some ((-1 : Int64), r1.1, r1.2.1, r1.2.2.1, r1.2.2.2.1, r1.2.2.2.2.1, r1.2.2.2.2.2.1, r1.2.2.2.2.2.2.1, r1.2.2.2.2.2.2.2.1, r1.2.2.2.2.2.2.2.2.1, r1.2.2.2.2.2.2.2.2.2.1, r1.2.2.2.2.2.2.2.2.2.2.1, r1.2.2.2.2.2.2.2.2.2.2.2.1, r1.2.2.2.2.2.2.2.2.2.2.2.2, v67_voters, a68)) else ((fX1_winning Fu r1.2.1 r1.2.2.1 r1.2.2.2.2.1 r1.2.2.2.2.2.2.2.1 r1.2.2.2.2.2.2.2.2.1 v67_voters a68 x1 x2).bind fun r4 => (some (r4.1, r1.1, r1.2.1, r1.2.2.1, r1.2.2.2.1, r1.2.2.2.2.1, r1.2.2.2.2.2.1, r1.2.2.2.2.2.2.1, r1.2.2.2.2.2.2.2.1, r1.2.2.2.2.2.2.2.2.1, r1.2.2.2.2.2.2.2.2.2.1, r1.2.2.2.2.2.2.2.2.2.2.1, r1.2.2.2.2.2.2.2.2.2.2.2.1, r1.2.2.2.2.2.2.2.2.2.2.2.2, r4.2.1, r4.2.2)))))))
set_option maxHeartbeats 4000000 in
set_option maxRecDepth 100000 in
theorem tX11_bribed_N {G : GT} {b : Nat} {c0 : Hp} {n : Nat} (hw : e_wf (kW49) n) {v0_faultPlace : Int32} {v0_quashedRows : Int32} {v0_lastRefusal : Int32} {v1_meals : Int32} {v37_height : Int32} {v37_answer : Int64} {v42_steadyBench : Int32} {v42_steadyWays : Int32} {v42_steadySwing : Int64} {Fu : Nat} {v1_beasts : Int32} {v1_seats : Int32} {v1_laws : Int32} {v1_inForce : Int32} {a2 : Nat → Int32} {a3 : Nat → Int32} {a4 : Nat → Int32} {a5 : Nat → Option Nat} {a38 : Nat → Int32} {v42_beasts : Int32} {v42_seats : Int32} {v42_seated : Int32} {v42_quota : Int32} {v42_known : Int32} {v42_surveyed : Int32} {a43 : Nat → Int32} {a44 : Nat → Int32} {a45 : Nat → Int32} {a46 : Nat → Int32} {a47 : Nat → Int32} {a49 : Nat → Int32} {v67_voters : Int32} {a68 : Nat → Int64} {x1 : Int32} {x2 : Int32} {R : Int64 × (Nat → Int32) × Int32 × Int32 × Int32 × Int32 × Int32 × Int32 × (Nat → Int32) × (Nat → Int32) × (Nat → Int32) × (Nat → Int32) × (Nat → Int32) × (Nat → Int32) × Int32 × (Nat → Int64)} (hf : fX11_bribed_N Fu v1_beasts v1_seats v1_laws v1_inForce a2 a3 a4 a5 a38 v42_beasts v42_seats v42_seated v42_quota v42_known v42_surveyed a43 a44 a45 a46 a47 a49 v67_voters a68 x1 x2 = some R) : E G b yX11_bribed cX11_bribed 3 (some .long) (e_rm 5 0 0) e_X0 (e_Z G b (pD (some (.long R.1)) (e_ov (kW49) (wW49 G b v0_faultPlace v0_quashedRows v0_lastRefusal v1_beasts v1_meals v1_seats v1_laws v1_inForce a2 a3 a4 a5 v37_height v37_answer R.2.1 R.2.2.1 R.2.2.2.1 R.2.2.2.2.1 R.2.2.2.2.2.1 R.2.2.2.2.2.2.1 R.2.2.2.2.2.2.2.1 v42_steadyBench v42_steadyWays v42_steadySwing R.2.2.2.2.2.2.2.2.1 R.2.2.2.2.2.2.2.2.2.1 R.2.2.2.2.2.2.2.2.2.2.1 R.2.2.2.2.2.2.2.2.2.2.2.1 R.2.2.2.2.2.2.2.2.2.2.2.2.1 R.2.2.2.2.2.2.2.2.2.2.2.2.2.1 R.2.2.2.2.2.2.2.2.2.2.2.2.2.2.1 R.2.2.2.2.2.2.2.2.2.2.2.2.2.2.2) c0) n) 0 0) 0 [(0, .ref (b + 0)), (1, .int x1), (2, .int x2)] [] (e_ov (kW49) (wW49 G b v0_faultPlace v0_quashedRows v0_lastRefusal v1_beasts v1_meals v1_seats v1_laws v1_inForce a2 a3 a4 a5 v37_height v37_answer a38 v42_beasts v42_seats v42_seated v42_quota v42_known v42_surveyed v42_steadyBench v42_steadyWays v42_steadySwing a43 a44 a45 a46 a47 a49 v67_voters a68) c0) n 0 0 := by
  unfold fX11_bribed_N at hf
  refine E.aload_n 0 dX11_bribed_0 rfl ?_
  refine E.get hw 0 0 dX11_bribed_1 flX11_57 rfl rfl rfl rfl ?_
  refine E.aload_n 0 dX11_bribed_4 rfl ?_
  refine E.get hw 0 0 dX11_bribed_5 flX11_10 rfl rfl rfl rfl ?_
  refine E.aload_n 0 dX11_bribed_8 rfl ?_
  refine E.get hw 0 0 dX11_bribed_9 flX11_43 rfl rfl rfl rfl ?_
  obtain ⟨r1, hc1, hf⟩ := e_bind hf
  refine E.callVDs (es' := (wW49 G b v0_faultPlace v0_quashedRows v0_lastRefusal v1_beasts v1_meals v1_seats v1_laws v1_inForce a2 a3 a4 a5 v37_height v37_answer r1.1 r1.2.1 r1.2.2.1 r1.2.2.2.1 r1.2.2.2.2.1 r1.2.2.2.2.2.1 r1.2.2.2.2.2.2.1 v42_steadyBench v42_steadyWays v42_steadySwing r1.2.2.2.2.2.2.2.1 r1.2.2.2.2.2.2.2.2.1 r1.2.2.2.2.2.2.2.2.2.1 r1.2.2.2.2.2.2.2.2.2.2.1 r1.2.2.2.2.2.2.2.2.2.2.2.1 r1.2.2.2.2.2.2.2.2.2.2.2.2 v67_voters a68)) [] [1, 2, 3, 4, 5, 6, 7, 8, 9, 10, 11, 12, 13, 14] 8 42 dX11_bribed_12 mlX11_263 hw rfl rfl rfl rfl (mX1_learn_N (hw.pick2 [1, 2, 3, 4, 5, 6, 7, 8, 9, 10, 11, 12, 13, 14] rfl (by decide)) hc1) rfl rfl rfl rfl ⟨Nat.le_of_ble_eq_true rfl, Nat.le_of_ble_eq_true rfl⟩ rfl rfl (Nat.le_of_ble_eq_true rfl) ⟨Nat.le_refl _, Nat.le_refl _⟩ rfl ?_
  refine E.aload_n 0 dX11_bribed_15 rfl ?_
  refine E.get hw 0 0 dX11_bribed_16 flX11_57 rfl rfl rfl rfl ?_
  refine E.iconst (v := 0) dX11_bribed_19 (by decide) ?_
  refine E.iload_n 1 dX11_bribed_20 rfl ?_
  obtain ⟨r2, hc2, hf⟩ := e_bind hf
  refine E.callVDs (es' := (wW49 G b v0_faultPlace v0_quashedRows v0_lastRefusal v1_beasts v1_meals v1_seats v1_laws v1_inForce a2 a3 a4 a5 v37_height v37_answer r1.1 r1.2.1 r1.2.2.1 r1.2.2.2.1 r1.2.2.2.2.1 r1.2.2.2.2.2.1 r1.2.2.2.2.2.2.1 v42_steadyBench v42_steadyWays v42_steadySwing r1.2.2.2.2.2.2.2.1 r1.2.2.2.2.2.2.2.2.1 r1.2.2.2.2.2.2.2.2.2.1 r1.2.2.2.2.2.2.2.2.2.2.1 r1.2.2.2.2.2.2.2.2.2.2.2.1 r1.2.2.2.2.2.2.2.2.2.2.2.2 v67_voters a68)) [] [8, 12, 13] 8 42 dX11_bribed_21 mlX11_267 hw rfl rfl rfl rfl (mX1_can (hw.pick2 [8, 12, 13] rfl (by decide)) hc2) rfl rfl rfl rfl ⟨Nat.le_of_ble_eq_true rfl, Nat.le_of_ble_eq_true rfl⟩ rfl rfl (Nat.le_of_ble_eq_true rfl) ⟨Nat.le_refl _, Nat.le_refl _⟩ rfl ?_
  refine E.if_eq dX11_bribed_24 (fun h => ?_) (fun h => ?_)
  · have hf := e_ift hf h
    refine E.ldc2 dX11_bribed_39 kX11_210 ?_
    cases hf
    exact E.lret dX11_bribed_42 (Nat.le_refl _) (Nat.le_refl _) (pD_rf _ _ _)
  · have hf := e_iff hf h
    refine E.aload_n 0 dX11_bribed_27 rfl ?_
    refine E.get hw 0 0 dX11_bribed_28 flX11_57 rfl rfl rfl rfl ?_
    refine E.iconst (v := 1) dX11_bribed_31 (by decide) ?_
    refine E.iload_n 2 dX11_bribed_32 rfl ?_
    obtain ⟨r3, hc3, hf⟩ := e_bind hf
    refine E.callVDs (es' := (wW49 G b v0_faultPlace v0_quashedRows v0_lastRefusal v1_beasts v1_meals v1_seats v1_laws v1_inForce a2 a3 a4 a5 v37_height v37_answer r1.1 r1.2.1 r1.2.2.1 r1.2.2.2.1 r1.2.2.2.2.1 r1.2.2.2.2.2.1 r1.2.2.2.2.2.2.1 v42_steadyBench v42_steadyWays v42_steadySwing r1.2.2.2.2.2.2.2.1 r1.2.2.2.2.2.2.2.2.1 r1.2.2.2.2.2.2.2.2.2.1 r1.2.2.2.2.2.2.2.2.2.2.1 r1.2.2.2.2.2.2.2.2.2.2.2.1 r1.2.2.2.2.2.2.2.2.2.2.2.2 v67_voters a68)) [] [8, 12, 13] 8 42 dX11_bribed_33 mlX11_267 hw rfl rfl rfl rfl (mX1_can (hw.pick2 [8, 12, 13] rfl (by decide)) hc3) rfl rfl rfl rfl ⟨Nat.le_of_ble_eq_true rfl, Nat.le_of_ble_eq_true rfl⟩ rfl rfl (Nat.le_of_ble_eq_true rfl) ⟨Nat.le_refl _, Nat.le_refl _⟩ rfl ?_
    refine E.if_ne dX11_bribed_36 (fun h => ?_) (fun h => ?_)
    · have hf := e_iff hf h
      refine E.aload_n 0 dX11_bribed_43 rfl ?_
      refine E.get hw 0 0 dX11_bribed_44 flX11_57 rfl rfl rfl rfl ?_
      refine E.iload_n 1 dX11_bribed_47 rfl ?_
      refine E.iload_n 2 dX11_bribed_48 rfl ?_
      obtain ⟨r4, hc4, hf⟩ := e_bind hf
      refine E.callVDs (es' := (wW49 G b v0_faultPlace v0_quashedRows v0_lastRefusal v1_beasts v1_meals v1_seats v1_laws v1_inForce a2 a3 a4 a5 v37_height v37_answer r1.1 r1.2.1 r1.2.2.1 r1.2.2.2.1 r1.2.2.2.2.1 r1.2.2.2.2.2.1 r1.2.2.2.2.2.2.1 v42_steadyBench v42_steadyWays v42_steadySwing r1.2.2.2.2.2.2.2.1 r1.2.2.2.2.2.2.2.2.1 r1.2.2.2.2.2.2.2.2.2.1 r1.2.2.2.2.2.2.2.2.2.2.1 r1.2.2.2.2.2.2.2.2.2.2.2.1 r1.2.2.2.2.2.2.2.2.2.2.2.2 r4.2.1 r4.2.2)) [] [8, 9, 10, 15, 16] 8 42 dX11_bribed_49 mlX11_270 hw rfl rfl rfl rfl (mX1_winning (hw.pick2 [8, 9, 10, 15, 16] rfl (by decide)) hc4) rfl rfl rfl rfl ⟨Nat.le_of_ble_eq_true rfl, Nat.le_of_ble_eq_true rfl⟩ rfl rfl (Nat.le_of_ble_eq_true rfl) ⟨Nat.le_refl _, Nat.le_refl _⟩ rfl ?_
      cases hf
      exact E.lret dX11_bribed_52 (Nat.le_refl _) (Nat.le_refl _) (pD_rf _ _ _)
    · have hf := e_ift hf h
      refine E.ldc2 dX11_bribed_39 kX11_210 ?_
      cases hf
      exact E.lret dX11_bribed_42 (Nat.le_refl _) (Nat.le_refl _) (pD_rf _ _ _)
set_option maxRecDepth 100000 in
theorem mX11_bribed_N {G : GT} {b : Nat} {c0 : Hp} {n : Nat} (hw : e_wf (kW49) n) {v0_faultPlace : Int32} {v0_quashedRows : Int32} {v0_lastRefusal : Int32} {v1_meals : Int32} {v37_height : Int32} {v37_answer : Int64} {v42_steadyBench : Int32} {v42_steadyWays : Int32} {v42_steadySwing : Int64} {Fu : Nat} {v1_beasts : Int32} {v1_seats : Int32} {v1_laws : Int32} {v1_inForce : Int32} {a2 : Nat → Int32} {a3 : Nat → Int32} {a4 : Nat → Int32} {a5 : Nat → Option Nat} {a38 : Nat → Int32} {v42_beasts : Int32} {v42_seats : Int32} {v42_seated : Int32} {v42_quota : Int32} {v42_known : Int32} {v42_surveyed : Int32} {a43 : Nat → Int32} {a44 : Nat → Int32} {a45 : Nat → Int32} {a46 : Nat → Int32} {a47 : Nat → Int32} {a49 : Nat → Int32} {v67_voters : Int32} {a68 : Nat → Int64} {x1 : Int32} {x2 : Int32} {R : Int64 × (Nat → Int32) × Int32 × Int32 × Int32 × Int32 × Int32 × Int32 × (Nat → Int32) × (Nat → Int32) × (Nat → Int32) × (Nat → Int32) × (Nat → Int32) × (Nat → Int32) × Int32 × (Nat → Int64)} (hf : fX11_bribed_N Fu v1_beasts v1_seats v1_laws v1_inForce a2 a3 a4 a5 a38 v42_beasts v42_seats v42_seated v42_quota v42_known v42_surveyed a43 a44 a45 a46 a47 a49 v67_voters a68 x1 x2 = some R) : e_C G b yX11_bribed cX11_bribed 3 (some .long) 5 0 0 [.ref (b + 0), .int x1, .int x2] (e_ov (kW49) (wW49 G b v0_faultPlace v0_quashedRows v0_lastRefusal v1_beasts v1_meals v1_seats v1_laws v1_inForce a2 a3 a4 a5 v37_height v37_answer a38 v42_beasts v42_seats v42_seated v42_quota v42_known v42_surveyed v42_steadyBench v42_steadyWays v42_steadySwing a43 a44 a45 a46 a47 a49 v67_voters a68) c0) n (pD (some (.long R.1)) (e_ov (kW49) (wW49 G b v0_faultPlace v0_quashedRows v0_lastRefusal v1_beasts v1_meals v1_seats v1_laws v1_inForce a2 a3 a4 a5 v37_height v37_answer R.2.1 R.2.2.1 R.2.2.2.1 R.2.2.2.2.1 R.2.2.2.2.2.1 R.2.2.2.2.2.2.1 R.2.2.2.2.2.2.2.1 v42_steadyBench v42_steadyWays v42_steadySwing R.2.2.2.2.2.2.2.2.1 R.2.2.2.2.2.2.2.2.2.1 R.2.2.2.2.2.2.2.2.2.2.1 R.2.2.2.2.2.2.2.2.2.2.2.1 R.2.2.2.2.2.2.2.2.2.2.2.2.1 R.2.2.2.2.2.2.2.2.2.2.2.2.2.1 R.2.2.2.2.2.2.2.2.2.2.2.2.2.2.1 R.2.2.2.2.2.2.2.2.2.2.2.2.2.2.2) c0) n) := e_C.of (by decide) (Nat.le_of_ble_eq_true rfl) (tX11_bribed_N hw hf)
abbrev kW50 (q : Nat) : List Nat := [1, 2, 3, 4, 5, 37, 38, 39, 42, 43, 44, 45, 46, 47, 49, q, (q + 1), (q + 2), (q + 3), (q + 4)]
abbrev wW50 (G : GT) (b q nh nt ne ns : Nat) (v1_beasts : Int32) (v1_meals : Int32) (v1_seats : Int32) (v1_laws : Int32) (v1_inForce : Int32) (a2 : Nat → Int32) (a3 : Nat → Int32) (a4 : Nat → Int32) (a5 : Nat → Option Nat) (v37_height : Int32) (v37_answer : Int64) (a38 : Nat → Int32) (a39 : Nat → Int64) (v42_beasts : Int32) (v42_seats : Int32) (v42_seated : Int32) (v42_quota : Int32) (v42_known : Int32) (v42_surveyed : Int32) (v42_steadyBench : Int32) (v42_steadyWays : Int32) (v42_steadySwing : Int64) (a43 : Nat → Int32) (a44 : Nat → Int32) (a45 : Nat → Int32) (a46 : Nat → Int32) (a47 : Nat → Int32) (a49 : Nat → Int32) (aL1 : Nat → Int32) (aL2 : Nat → Int32) (aL3 : Nat → Int32) (aL4 : Nat → Int32) : List va_E := [.inr (10, [.ref (b + 2), .ref (b + 3), .ref (b + 4), .ref (b + 5), .ref (b + 6), .int v1_beasts, .int v1_meals, .int v1_seats, .int v1_laws, .int v1_inForce]), aI G 48 a2, aI G 8 a3, aI G 6 a4, aQ G 4 6 a5, .inr (0, [.ref (b + 38), .ref (b + 39), .int v37_height, .long v37_answer]), aI G 10 a38, aJ G 51 a39, .inr (1, [.ref (b + 43), .ref (b + 44), .ref (b + 45), .ref (b + 46), .ref (b + 47), .ref (b + 48), .ref (b + 49), .ref (b + 50), .ref (b + 67), .int v42_beasts, .int v42_seats, .int v42_seated, .int v42_quota, .int v42_known, .int v42_surveyed, .int v42_steadyBench, .int v42_steadyWays, .long v42_steadySwing]), aI G 32 a43, aI G 8 a44, aI G 16 a45, aI G 512 a46, aI G 2 a47, aI G 8 a49, .inr (5, [.ref (b + (q + 1)), .ref (b + (q + 2)), .ref (b + (q + 3)), .ref (b + (q + 4))]), aI G nh aL1, aI G nt aL2, aI G ne aL3, aI G ns aL4]
def fX1_learn_L_L170 (Fu : Nat) (nh : Nat) (nt : Nat) (ne : Nat) (ns : Nat) (b q : Nat) (k148 : Int32 → Int32 → Int32 → Int32 → (Nat → Int32) → (Nat → Int32) → (Nat → Int32) → (Nat → Option Nat) → Int32 → Int64 → (Nat → Int32) → (Nat → Int64) → Int32 → Int32 → Int32 → Int32 → Int32 → Int32 → (Nat → Int32) → (Nat → Int32) → (Nat → Int32) → (Nat → Int32) → (Nat → Int32) → (Nat → Int32) → (Nat → Int32) → (Nat → Int32) → (Nat → Int32) → (Nat → Int32) → Int32 → Option (Int32 × Int64 × (Nat → Int32) × (Nat → Int64) × Int32 × Int32 × Int32 × Int32 × Int32 × Int32 × (Nat → Int32) × (Nat → Int32) × (Nat → Int32) × (Nat → Int32) × (Nat → Int32) × (Nat → Int32))) : Nat → Int32 → Int32 → Int32 → Int32 → (Nat → Int32) → (Nat → Int32) → (Nat → Int32) → (Nat → Option Nat) → Int32 → Int64 → (Nat → Int32) → (Nat → Int64) → Int32 → Int32 → Int32 → Int32 → Int32 → Int32 → (Nat → Int32) → (Nat → Int32) → (Nat → Int32) → (Nat → Int32) → (Nat → Int32) → (Nat → Int32) → (Nat → Int32) → (Nat → Int32) → (Nat → Int32) → (Nat → Int32) → Int32 → Int32 → Option (Int32 × Int64 × (Nat → Int32) × (Nat → Int64) × Int32 × Int32 × Int32 × Int32 × Int32 × Int32 × (Nat → Int32) × (Nat → Int32) × (Nat → Int32) × (Nat → Int32) × (Nat → Int32) × (Nat → Int32))
  | 0, _, _, _, _, _, _, _, _, _, _, _, _, _, _, _, _, _, _, _, _, _, _, _, _, _, _, _, _, _, _ => none
  | k + 1, v1_beasts, v1_seats, v1_laws, v1_inForce, a2, a3, a4, a5, v37_height, v37_answer, a38, a39, v42_beasts, v42_seats, v42_seated, v42_quota, v42_known, v42_surveyed, a43, a44, a45, a46, a47, a49, aL1, aL2, aL3, aL4, x3, x4 => if (v42_beasts : Int32) ≤ (x4 : Int32) then ((fX1_addPrices Fu v42_beasts a45 a46 x3).bind fun r6 => (k148 v1_beasts v1_seats v1_laws v1_inForce a2 a3 a4 a5 v37_height v37_answer a38 a39 v42_beasts v42_seats v42_seated v42_quota v42_known v42_surveyed a43 a44 a45 r6 a47 a49 aL1 aL2 aL3 aL4 (x3 + 1))) else ((fX0_priceOf_L Fu nh nt ne ns b q v1_laws v1_inForce a2 a3 a4 a5 v37_height v37_answer a38 a39 aL1 aL2 aL3 aL4 x4 x3).bind fun r7 => (gd ((x3 * 8) + x4) 16 ((fX1_learn_L_L170 Fu nh nt ne ns b q k148 k) v1_beasts v1_seats v1_laws v1_inForce a2 a3 a4 a5 r7.2.1 r7.2.2.1 r7.2.2.2.1 r7.2.2.2.2 v42_beasts v42_seats v42_seated v42_quota v42_known v42_surveyed a43 a44 (va_up a45 (((x3 * 8) + x4) : Int32).toNatClampNeg r7.1) a46 a47 a49 aL1 aL2 aL3 aL4 x3 (x4 + 1))))
set_option maxHeartbeats 4000000 in
set_option maxRecDepth 100000 in
theorem tX1_learn_L_L170 {G : GT} {b : Nat} {q nh nt ne ns : Nat} {c0 : Hp} {n : Nat} (hw : e_wf (kW50 q) n) {v1_meals : Int32} {v42_steadyBench : Int32} {v42_steadyWays : Int32} {v42_steadySwing : Int64} {Fu : Nat} {k148 : Int32 → Int32 → Int32 → Int32 → (Nat → Int32) → (Nat → Int32) → (Nat → Int32) → (Nat → Option Nat) → Int32 → Int64 → (Nat → Int32) → (Nat → Int64) → Int32 → Int32 → Int32 → Int32 → Int32 → Int32 → (Nat → Int32) → (Nat → Int32) → (Nat → Int32) → (Nat → Int32) → (Nat → Int32) → (Nat → Int32) → (Nat → Int32) → (Nat → Int32) → (Nat → Int32) → (Nat → Int32) → Int32 → Option (Int32 × Int64 × (Nat → Int32) × (Nat → Int64) × Int32 × Int32 × Int32 × Int32 × Int32 × Int32 × (Nat → Int32) × (Nat → Int32) × (Nat → Int32) × (Nat → Int32) × (Nat → Int32) × (Nat → Int32))} (hk148 : ∀ {v1_beasts : Int32} {v1_seats : Int32} {v1_laws : Int32} {v1_inForce : Int32} {a2 : Nat → Int32} {a3 : Nat → Int32} {a4 : Nat → Int32} {a5 : Nat → Option Nat} {v37_height : Int32} {v37_answer : Int64} {a38 : Nat → Int32} {a39 : Nat → Int64} {v42_beasts : Int32} {v42_seats : Int32} {v42_seated : Int32} {v42_quota : Int32} {v42_known : Int32} {v42_surveyed : Int32} {a43 : Nat → Int32} {a44 : Nat → Int32} {a45 : Nat → Int32} {a46 : Nat → Int32} {a47 : Nat → Int32} {a49 : Nat → Int32} {aL1 : Nat → Int32} {aL2 : Nat → Int32} {aL3 : Nat → Int32} {aL4 : Nat → Int32} {x3 : Int32} {R : Int32 × Int64 × (Nat → Int32) × (Nat → Int64) × Int32 × Int32 × Int32 × Int32 × Int32 × Int32 × (Nat → Int32) × (Nat → Int32) × (Nat → Int32) × (Nat → Int32) × (Nat → Int32) × (Nat → Int32)}, k148 v1_beasts v1_seats v1_laws v1_inForce a2 a3 a4 a5 v37_height v37_answer a38 a39 v42_beasts v42_seats v42_seated v42_quota v42_known v42_surveyed a43 a44 a45 a46 a47 a49 aL1 aL2 aL3 aL4 x3 = some R → E G b yX1_learn cX1_learn 5 none (e_rm 5 0 0) e_X0 (e_Z G b (pD none (e_ov (kW50 q) (wW50 G b q nh nt ne ns v1_beasts v1_meals v1_seats v1_laws v1_inForce a2 a3 a4 a5 R.1 R.2.1 R.2.2.1 R.2.2.2.1 R.2.2.2.2.1 R.2.2.2.2.2.1 R.2.2.2.2.2.2.1 R.2.2.2.2.2.2.2.1 R.2.2.2.2.2.2.2.2.1 R.2.2.2.2.2.2.2.2.2.1 v42_steadyBench v42_steadyWays v42_steadySwing R.2.2.2.2.2.2.2.2.2.2.1 R.2.2.2.2.2.2.2.2.2.2.2.1 R.2.2.2.2.2.2.2.2.2.2.2.2.1 R.2.2.2.2.2.2.2.2.2.2.2.2.2.1 R.2.2.2.2.2.2.2.2.2.2.2.2.2.2.1 R.2.2.2.2.2.2.2.2.2.2.2.2.2.2.2 aL1 aL2 aL3 aL4) c0) n) 0 0) 148 [(0, .ref (b + 42)), (1, .ref (b + 1)), (2, .ref (b + 37)), (3, .int x3)] [] (e_ov (kW50 q) (wW50 G b q nh nt ne ns v1_beasts v1_meals v1_seats v1_laws v1_inForce a2 a3 a4 a5 v37_height v37_answer a38 a39 v42_beasts v42_seats v42_seated v42_quota v42_known v42_surveyed v42_steadyBench v42_steadyWays v42_steadySwing a43 a44 a45 a46 a47 a49 aL1 aL2 aL3 aL4) c0) n 0 0) : ∀ (k : Nat) {v1_beasts : Int32} {v1_seats : Int32} {v1_laws : Int32} {v1_inForce : Int32} {a2 : Nat → Int32} {a3 : Nat → Int32} {a4 : Nat → Int32} {a5 : Nat → Option Nat} {v37_height : Int32} {v37_answer : Int64} {a38 : Nat → Int32} {a39 : Nat → Int64} {v42_beasts : Int32} {v42_seats : Int32} {v42_seated : Int32} {v42_quota : Int32} {v42_known : Int32} {v42_surveyed : Int32} {a43 : Nat → Int32} {a44 : Nat → Int32} {a45 : Nat → Int32} {a46 : Nat → Int32} {a47 : Nat → Int32} {a49 : Nat → Int32} {aL1 : Nat → Int32} {aL2 : Nat → Int32} {aL3 : Nat → Int32} {aL4 : Nat → Int32} {x3 : Int32} {x4 : Int32} {R : Int32 × Int64 × (Nat → Int32) × (Nat → Int64) × Int32 × Int32 × Int32 × Int32 × Int32 × Int32 × (Nat → Int32) × (Nat → Int32) × (Nat → Int32) × (Nat → Int32) × (Nat → Int32) × (Nat → Int32)}, fX1_learn_L_L170 Fu nh nt ne ns b q k148 k v1_beasts v1_seats v1_laws v1_inForce a2 a3 a4 a5 v37_height v37_answer a38 a39 v42_beasts v42_seats v42_seated v42_quota v42_known v42_surveyed a43 a44 a45 a46 a47 a49 aL1 aL2 aL3 aL4 x3 x4 = some R → E G b yX1_learn cX1_learn 5 none (e_rm 5 0 0) e_X0 (e_Z G b (pD none (e_ov (kW50 q) (wW50 G b q nh nt ne ns v1_beasts v1_meals v1_seats v1_laws v1_inForce a2 a3 a4 a5 R.1 R.2.1 R.2.2.1 R.2.2.2.1 R.2.2.2.2.1 R.2.2.2.2.2.1 R.2.2.2.2.2.2.1 R.2.2.2.2.2.2.2.1 R.2.2.2.2.2.2.2.2.1 R.2.2.2.2.2.2.2.2.2.1 v42_steadyBench v42_steadyWays v42_steadySwing R.2.2.2.2.2.2.2.2.2.2.1 R.2.2.2.2.2.2.2.2.2.2.2.1 R.2.2.2.2.2.2.2.2.2.2.2.2.1 R.2.2.2.2.2.2.2.2.2.2.2.2.2.1 R.2.2.2.2.2.2.2.2.2.2.2.2.2.2.1 R.2.2.2.2.2.2.2.2.2.2.2.2.2.2.2 aL1 aL2 aL3 aL4) c0) n) 0 0) 170 [(0, .ref (b + 42)), (1, .ref (b + 1)), (2, .ref (b + 37)), (3, .int x3), (4, .int x4)] [] (e_ov (kW50 q) (wW50 G b q nh nt ne ns v1_beasts v1_meals v1_seats v1_laws v1_inForce a2 a3 a4 a5 v37_height v37_answer a38 a39 v42_beasts v42_seats v42_seated v42_quota v42_known v42_surveyed v42_steadyBench v42_steadyWays v42_steadySwing a43 a44 a45 a46 a47 a49 aL1 aL2 aL3 aL4) c0) n 0 0 := by
  intro k
  induction k with
  | zero =>
    intro _ _ _ _ _ _ _ _ _ _ _ _ _ _ _ _ _ _ _ _ _ _ _ _ _ _ _ _ _ _ _ hf
    have hf : (none : Option (Int32 × Int64 × (Nat → Int32) × (Nat → Int64) × Int32 × Int32 × Int32 × Int32 × Int32 × Int32 × (Nat → Int32) × (Nat → Int32) × (Nat → Int32) × (Nat → Int32) × (Nat → Int32) × (Nat → Int32))) = some _ := hf
    cases hf
  | succ k ih =>
    intro v1_beasts v1_seats v1_laws v1_inForce a2 a3 a4 a5 v37_height v37_answer a38 a39 v42_beasts v42_seats v42_seated v42_quota v42_known v42_surveyed a43 a44 a45 a46 a47 a49 aL1 aL2 aL3 aL4 x3 x4 R hf
    rw [fX1_learn_L_L170] at hf
    refine E.iload 4 dX1_learn_170 rfl ?_
    refine E.aload_n 0 dX1_learn_172 rfl ?_
    refine E.get hw 8 42 dX1_learn_173 flX1_58 rfl rfl rfl rfl ?_
    refine E.icmp_ge dX1_learn_176 (fun h => ?_) (fun h => ?_)
    · have hf := e_ift hf h
      refine E.aload_n 0 dX1_learn_205 rfl ?_
      refine E.iload_n 3 dX1_learn_206 rfl ?_
      obtain ⟨r6, hc6, hf⟩ := e_bind hf
      refine E.callVDs (es' := (wW50 G b q nh nt ne ns v1_beasts v1_meals v1_seats v1_laws v1_inForce a2 a3 a4 a5 v37_height v37_answer a38 a39 v42_beasts v42_seats v42_seated v42_quota v42_known v42_surveyed v42_steadyBench v42_steadyWays v42_steadySwing a43 a44 a45 r6 a47 a49 aL1 aL2 aL3 aL4)) [] [8, 11, 12] 8 42 dX1_learn_207 mlX1_90 hw rfl rfl rfl rfl (mX1_addPrices (hw.pick2 [8, 11, 12] rfl (by decide)) hc6) rfl rfl rfl rfl ⟨Nat.le_of_ble_eq_true rfl, Nat.le_of_ble_eq_true rfl⟩ rfl rfl (Nat.le_of_ble_eq_true rfl) ⟨Nat.le_refl _, Nat.le_refl _⟩ rfl ?_
      refine E.iinc (q := 3) (v := (x3 + 1)) (lv' := [(3, .int (x3 + 1)), (0, .ref (b + 42)), (1, .ref (b + 1)), (2, .ref (b + 37)), (4, .int x4)]) dX1_learn_210 rfl rfl (by decide) rfl ?_
      refine E.goto dX1_learn_213 ?_
      refine E.locals [1, 2, 3, 0] rfl ?_
      exact hk148 hf
    · have hf := e_iff hf h
      refine E.aload_n 0 dX1_learn_179 rfl ?_
      refine E.get hw 8 42 dX1_learn_180 flX1_18 rfl rfl rfl rfl ?_
      refine E.iload_n 3 dX1_learn_183 rfl ?_
      refine E.bipush (v := 8) dX1_learn_184 (by decide) ?_
      refine E.imul dX1_learn_186 ?_
      refine E.iload 4 dX1_learn_187 rfl ?_
      refine E.iadd dX1_learn_189 ?_
      refine E.aload_n 2 dX1_learn_190 rfl ?_
      refine E.aload_n 1 dX1_learn_191 rfl ?_
      refine E.iload 4 dX1_learn_192 rfl ?_
      refine E.iload_n 3 dX1_learn_194 rfl ?_
      obtain ⟨r7, hc7, hf⟩ := e_bind hf
      refine E.callVDs (es' := (wW50 G b q nh nt ne ns v1_beasts v1_meals v1_seats v1_laws v1_inForce a2 a3 a4 a5 r7.2.1 r7.2.2.1 r7.2.2.2.1 r7.2.2.2.2 v42_beasts v42_seats v42_seated v42_quota v42_known v42_surveyed v42_steadyBench v42_steadyWays v42_steadySwing a43 a44 a45 a46 a47 a49 aL1 aL2 aL3 aL4)) [.int ((x3 * 8) + x4), .ref (b + 45)] [0, 1, 2, 3, 4, 5, 6, 7, 15, 16, 17, 18, 19] 5 37 dX1_learn_195 mlX1_86 hw rfl rfl rfl rfl (mX0_priceOf_L (hw.pick2 [0, 1, 2, 3, 4, 5, 6, 7, 15, 16, 17, 18, 19] rfl (by decide)) hc7) rfl rfl rfl rfl ⟨Nat.le_of_ble_eq_true rfl, Nat.le_of_ble_eq_true rfl⟩ rfl rfl (Nat.le_of_ble_eq_true rfl) ⟨Nat.le_refl _, Nat.le_refl _⟩ rfl ?_
      obtain ⟨g8, hf⟩ := gd_some hf
      refine E.iast (es' := (wW50 G b q nh nt ne ns v1_beasts v1_meals v1_seats v1_laws v1_inForce a2 a3 a4 a5 r7.2.1 r7.2.2.1 r7.2.2.2.1 r7.2.2.2.2 v42_beasts v42_seats v42_seated v42_quota v42_known v42_surveyed v42_steadyBench v42_steadyWays v42_steadySwing a43 a44 (va_up a45 (((x3 * 8) + x4) : Int32).toNatClampNeg r7.1) a46 a47 a49 aL1 aL2 aL3 aL4)) hw 11 45 dX1_learn_198 rfl rfl g8 rfl ?_
      refine E.iinc (q := 4) (v := (x4 + 1)) (lv' := [(4, .int (x4 + 1)), (0, .ref (b + 42)), (1, .ref (b + 1)), (2, .ref (b + 37)), (3, .int x3)]) dX1_learn_199 rfl rfl (by decide) rfl ?_
      refine E.goto dX1_learn_202 ?_
      refine E.locals [1, 2, 3, 4, 0] rfl ?_
      exact ih hf
def fX1_learn_L_L148 (Fu : Nat) (nh : Nat) (nt : Nat) (ne : Nat) (ns : Nat) (b q : Nat) : Nat → Int32 → Int32 → Int32 → Int32 → (Nat → Int32) → (Nat → Int32) → (Nat → Int32) → (Nat → Option Nat) → Int32 → Int64 → (Nat → Int32) → (Nat → Int64) → Int32 → Int32 → Int32 → Int32 → Int32 → Int32 → (Nat → Int32) → (Nat → Int32) → (Nat → Int32) → (Nat → Int32) → (Nat → Int32) → (Nat → Int32) → (Nat → Int32) → (Nat → Int32) → (Nat → Int32) → (Nat → Int32) → Int32 → Option (Int32 × Int64 × (Nat → Int32) × (Nat → Int64) × Int32 × Int32 × Int32 × Int32 × Int32 × Int32 × (Nat → Int32) × (Nat → Int32) × (Nat → Int32) × (Nat → Int32) × (Nat → Int32) × (Nat → Int32))
  | 0, _, _, _, _, _, _, _, _, _, _, _, _, _, _, _, _, _, _, _, _, _, _, _, _, _, _, _, _, _ => none
  | k + 1, v1_beasts, v1_seats, v1_laws, v1_inForce, a2, a3, a4, a5, v37_height, v37_answer, a38, a39, v42_beasts, v42_seats, v42_seated, v42_quota, v42_known, v42_surveyed, a43, a44, a45, a46, a47, a49, aL1, aL2, aL3, aL4, x3 => if (2 : Int32) ≤ (x3 : Int32) then (some (v37_height, v37_answer, a38, a39, v42_beasts, v42_seats, v42_seated, v42_quota, v42_known, v42_surveyed, a43, a44, a45, a46, a47, a49)) else (gd (3 + x3) 6 (gd x3 2 (fX1_learn_L_L170 Fu nh nt ne ns b q (fX1_learn_L_L148 Fu nh nt ne ns b q k) Fu v1_beasts v1_seats v1_laws v1_inForce a2 a3 a4 a5 v37_height v37_answer a38 a39 v42_beasts v42_seats v42_seated v42_quota v42_known v42_surveyed a43 a44 a45 a46 (va_up a47 (x3 : Int32).toNatClampNeg (a4 ((3 + x3) : Int32).toNatClampNeg)) a49 aL1 aL2 aL3 aL4 x3 0)))
set_option maxHeartbeats 4000000 in
set_option maxRecDepth 100000 in
theorem tX1_learn_L_L148 {G : GT} {b : Nat} {q nh nt ne ns : Nat} {c0 : Hp} {n : Nat} (hw : e_wf (kW50 q) n) {v1_meals : Int32} {v42_steadyBench : Int32} {v42_steadyWays : Int32} {v42_steadySwing : Int64} {Fu : Nat} : ∀ (k : Nat) {v1_beasts : Int32} {v1_seats : Int32} {v1_laws : Int32} {v1_inForce : Int32} {a2 : Nat → Int32} {a3 : Nat → Int32} {a4 : Nat → Int32} {a5 : Nat → Option Nat} {v37_height : Int32} {v37_answer : Int64} {a38 : Nat → Int32} {a39 : Nat → Int64} {v42_beasts : Int32} {v42_seats : Int32} {v42_seated : Int32} {v42_quota : Int32} {v42_known : Int32} {v42_surveyed : Int32} {a43 : Nat → Int32} {a44 : Nat → Int32} {a45 : Nat → Int32} {a46 : Nat → Int32} {a47 : Nat → Int32} {a49 : Nat → Int32} {aL1 : Nat → Int32} {aL2 : Nat → Int32} {aL3 : Nat → Int32} {aL4 : Nat → Int32} {x3 : Int32} {R : Int32 × Int64 × (Nat → Int32) × (Nat → Int64) × Int32 × Int32 × Int32 × Int32 × Int32 × Int32 × (Nat → Int32) × (Nat → Int32) × (Nat → Int32) × (Nat → Int32) × (Nat → Int32) × (Nat → Int32)}, fX1_learn_L_L148 Fu nh nt ne ns b q k v1_beasts v1_seats v1_laws v1_inForce a2 a3 a4 a5 v37_height v37_answer a38 a39 v42_beasts v42_seats v42_seated v42_quota v42_known v42_surveyed a43 a44 a45 a46 a47 a49 aL1 aL2 aL3 aL4 x3 = some R → E G b yX1_learn cX1_learn 5 none (e_rm 5 0 0) e_X0 (e_Z G b (pD none (e_ov (kW50 q) (wW50 G b q nh nt ne ns v1_beasts v1_meals v1_seats v1_laws v1_inForce a2 a3 a4 a5 R.1 R.2.1 R.2.2.1 R.2.2.2.1 R.2.2.2.2.1 R.2.2.2.2.2.1 R.2.2.2.2.2.2.1 R.2.2.2.2.2.2.2.1 R.2.2.2.2.2.2.2.2.1 R.2.2.2.2.2.2.2.2.2.1 v42_steadyBench v42_steadyWays v42_steadySwing R.2.2.2.2.2.2.2.2.2.2.1 R.2.2.2.2.2.2.2.2.2.2.2.1 R.2.2.2.2.2.2.2.2.2.2.2.2.1 R.2.2.2.2.2.2.2.2.2.2.2.2.2.1 R.2.2.2.2.2.2.2.2.2.2.2.2.2.2.1 R.2.2.2.2.2.2.2.2.2.2.2.2.2.2.2 aL1 aL2 aL3 aL4) c0) n) 0 0) 148 [(0, .ref (b + 42)), (1, .ref (b + 1)), (2, .ref (b + 37)), (3, .int x3)] [] (e_ov (kW50 q) (wW50 G b q nh nt ne ns v1_beasts v1_meals v1_seats v1_laws v1_inForce a2 a3 a4 a5 v37_height v37_answer a38 a39 v42_beasts v42_seats v42_seated v42_quota v42_known v42_surveyed v42_steadyBench v42_steadyWays v42_steadySwing a43 a44 a45 a46 a47 a49 aL1 aL2 aL3 aL4) c0) n 0 0 := by
  intro k
  induction k with
  | zero =>
    intro _ _ _ _ _ _ _ _ _ _ _ _ _ _ _ _ _ _ _ _ _ _ _ _ _ _ _ _ _ _ hf
    have hf : (none : Option (Int32 × Int64 × (Nat → Int32) × (Nat → Int64) × Int32 × Int32 × Int32 × Int32 × Int32 × Int32 × (Nat → Int32) × (Nat → Int32) × (Nat → Int32) × (Nat → Int32) × (Nat → Int32) × (Nat → Int32))) = some _ := hf
    cases hf
  | succ k ih =>
    intro v1_beasts v1_seats v1_laws v1_inForce a2 a3 a4 a5 v37_height v37_answer a38 a39 v42_beasts v42_seats v42_seated v42_quota v42_known v42_surveyed a43 a44 a45 a46 a47 a49 aL1 aL2 aL3 aL4 x3 R hf
    rw [fX1_learn_L_L148] at hf
    refine E.iload_n 3 dX1_learn_148 rfl ?_
    refine E.iconst (v := 2) dX1_learn_149 (by decide) ?_
    refine E.icmp_ge dX1_learn_150 (fun h => ?_) (fun h => ?_)
    · have hf := e_ift hf h
      cases hf
      exact E.vret dX1_learn_216 (Nat.le_refl _) (Nat.le_refl _) (pD_rf _ _ _)
    · have hf := e_iff hf h
      refine E.aload_n 0 dX1_learn_153 rfl ?_
      refine E.get hw 8 42 dX1_learn_154 flX1_24 rfl rfl rfl rfl ?_
      refine E.iload_n 3 dX1_learn_157 rfl ?_
      refine E.aload_n 1 dX1_learn_158 rfl ?_
      refine E.getN hw 0 1 dX1_learn_159 fnX1_63 rfl rfl rfl rfl ?_
      refine E.iconst (v := 3) dX1_learn_162 (by decide) ?_
      refine E.iload_n 3 dX1_learn_163 rfl ?_
      refine E.iadd dX1_learn_164 ?_
      obtain ⟨g4, hf⟩ := gd_some hf
      refine E.iald hw 3 4 dX1_learn_165 rfl rfl g4 ?_
      obtain ⟨g5, hf⟩ := gd_some hf
      refine E.iast (es' := (wW50 G b q nh nt ne ns v1_beasts v1_meals v1_seats v1_laws v1_inForce a2 a3 a4 a5 v37_height v37_answer a38 a39 v42_beasts v42_seats v42_seated v42_quota v42_known v42_surveyed v42_steadyBench v42_steadyWays v42_steadySwing a43 a44 a45 a46 (va_up a47 (x3 : Int32).toNatClampNeg (a4 ((3 + x3) : Int32).toNatClampNeg)) a49 aL1 aL2 aL3 aL4)) hw 13 47 dX1_learn_166 rfl rfl g5 rfl ?_
      refine E.iconst (v := 0) dX1_learn_167 (by decide) ?_
      refine E.istore (lv' := [(4, .int 0), (0, .ref (b + 42)), (1, .ref (b + 1)), (2, .ref (b + 37)), (3, .int x3)]) dX1_learn_168 (by decide) rfl ?_
      refine E.locals [1, 2, 3, 4, 0] rfl ?_
      exact tX1_learn_L_L170 hw ih _ hf
def fX1_learn_L_L102 (Fu : Nat) (nh : Nat) (nt : Nat) (ne : Nat) (ns : Nat) (b q : Nat) (k51 : Int32 → Int32 → Int32 → Int32 → (Nat → Int32) → (Nat → Int32) → (Nat → Int32) → (Nat → Option Nat) → Int32 → Int64 → (Nat → Int32) → (Nat → Int64) → Int32 → Int32 → Int32 → Int32 → Int32 → Int32 → (Nat → Int32) → (Nat → Int32) → (Nat → Int32) → (Nat → Int32) → (Nat → Int32) → (Nat → Int32) → (Nat → Int32) → (Nat → Int32) → (Nat → Int32) → (Nat → Int32) → Int32 → Option (Int32 × Int64 × (Nat → Int32) × (Nat → Int64) × Int32 × Int32 × Int32 × Int32 × Int32 × Int32 × (Nat → Int32) × (Nat → Int32) × (Nat → Int32) × (Nat → Int32) × (Nat → Int32) × (Nat → Int32))) : Nat → Int32 → Int32 → Int32 → Int32 → (Nat → Int32) → (Nat → Int32) → (Nat → Int32) → (Nat → Option Nat) → Int32 → Int64 → (Nat → Int32) → (Nat → Int64) → Int32 → Int32 → Int32 → Int32 → Int32 → Int32 → (Nat → Int32) → (Nat → Int32) → (Nat → Int32) → (Nat → Int32) → (Nat → Int32) → (Nat → Int32) → (Nat → Int32) → (Nat → Int32) → (Nat → Int32) → (Nat → Int32) → Int32 → Int32 → Option (Int32 × Int64 × (Nat → Int32) × (Nat → Int64) × Int32 × Int32 × Int32 × Int32 × Int32 × Int32 × (Nat → Int32) × (Nat → Int32) × (Nat → Int32) × (Nat → Int32) × (Nat → Int32) × (Nat → Int32))
  | 0, _, _, _, _, _, _, _, _, _, _, _, _, _, _, _, _, _, _, _, _, _, _, _, _, _, _, _, _, _, _ => none
  | k + 1, v1_beasts, v1_seats, v1_laws, v1_inForce, a2, a3, a4, a5, v37_height, v37_answer, a38, a39, v42_beasts, v42_seats, v42_seated, v42_quota, v42_known, v42_surveyed, a43, a44, a45, a46, a47, a49, aL1, aL2, aL3, aL4, x3, x4 => if (3 : Int32) < (x4 : Int32) then (k51 v1_beasts v1_seats v1_laws v1_inForce a2 a3 a4 a5 v37_height v37_answer a38 a39 v42_beasts v42_seats v42_seated v42_quota v42_known v42_surveyed a43 a44 a45 a46 a47 a49 aL1 aL2 aL3 aL4 (x3 + 1)) else (gd 1 6 ((fX0_chanceOf_L Fu nh nt ne ns b q v1_laws v1_inForce a2 a3 a4 a5 v37_height v37_answer a38 a39 aL1 aL2 aL3 aL4 x3 (a4 (1 : Int32).toNatClampNeg) x4 0).bind fun r12 => (gd ((x3 * 4) + x4) 32 ((fX1_learn_L_L102 Fu nh nt ne ns b q k51 k) v1_beasts v1_seats v1_laws v1_inForce a2 a3 a4 a5 r12.2.1 r12.2.2.1 r12.2.2.2.1 r12.2.2.2.2 v42_beasts v42_seats v42_seated v42_quota v42_known v42_surveyed (va_up a43 (((x3 * 4) + x4) : Int32).toNatClampNeg r12.1) a44 a45 a46 a47 a49 aL1 aL2 aL3 aL4 x3 (x4 + 1)))))
set_option maxHeartbeats 4000000 in
set_option maxRecDepth 100000 in
theorem tX1_learn_L_L102 {G : GT} {b : Nat} {q nh nt ne ns : Nat} {c0 : Hp} {n : Nat} (hw : e_wf (kW50 q) n) {v1_meals : Int32} {v42_steadyBench : Int32} {v42_steadyWays : Int32} {v42_steadySwing : Int64} {Fu : Nat} {k51 : Int32 → Int32 → Int32 → Int32 → (Nat → Int32) → (Nat → Int32) → (Nat → Int32) → (Nat → Option Nat) → Int32 → Int64 → (Nat → Int32) → (Nat → Int64) → Int32 → Int32 → Int32 → Int32 → Int32 → Int32 → (Nat → Int32) → (Nat → Int32) → (Nat → Int32) → (Nat → Int32) → (Nat → Int32) → (Nat → Int32) → (Nat → Int32) → (Nat → Int32) → (Nat → Int32) → (Nat → Int32) → Int32 → Option (Int32 × Int64 × (Nat → Int32) × (Nat → Int64) × Int32 × Int32 × Int32 × Int32 × Int32 × Int32 × (Nat → Int32) × (Nat → Int32) × (Nat → Int32) × (Nat → Int32) × (Nat → Int32) × (Nat → Int32))} (hk51 : ∀ {v1_beasts : Int32} {v1_seats : Int32} {v1_laws : Int32} {v1_inForce : Int32} {a2 : Nat → Int32} {a3 : Nat → Int32} {a4 : Nat → Int32} {a5 : Nat → Option Nat} {v37_height : Int32} {v37_answer : Int64} {a38 : Nat → Int32} {a39 : Nat → Int64} {v42_beasts : Int32} {v42_seats : Int32} {v42_seated : Int32} {v42_quota : Int32} {v42_known : Int32} {v42_surveyed : Int32} {a43 : Nat → Int32} {a44 : Nat → Int32} {a45 : Nat → Int32} {a46 : Nat → Int32} {a47 : Nat → Int32} {a49 : Nat → Int32} {aL1 : Nat → Int32} {aL2 : Nat → Int32} {aL3 : Nat → Int32} {aL4 : Nat → Int32} {x3 : Int32} {R : Int32 × Int64 × (Nat → Int32) × (Nat → Int64) × Int32 × Int32 × Int32 × Int32 × Int32 × Int32 × (Nat → Int32) × (Nat → Int32) × (Nat → Int32) × (Nat → Int32) × (Nat → Int32) × (Nat → Int32)}, k51 v1_beasts v1_seats v1_laws v1_inForce a2 a3 a4 a5 v37_height v37_answer a38 a39 v42_beasts v42_seats v42_seated v42_quota v42_known v42_surveyed a43 a44 a45 a46 a47 a49 aL1 aL2 aL3 aL4 x3 = some R → E G b yX1_learn cX1_learn 5 none (e_rm 5 0 0) e_X0 (e_Z G b (pD none (e_ov (kW50 q) (wW50 G b q nh nt ne ns v1_beasts v1_meals v1_seats v1_laws v1_inForce a2 a3 a4 a5 R.1 R.2.1 R.2.2.1 R.2.2.2.1 R.2.2.2.2.1 R.2.2.2.2.2.1 R.2.2.2.2.2.2.1 R.2.2.2.2.2.2.2.1 R.2.2.2.2.2.2.2.2.1 R.2.2.2.2.2.2.2.2.2.1 v42_steadyBench v42_steadyWays v42_steadySwing R.2.2.2.2.2.2.2.2.2.2.1 R.2.2.2.2.2.2.2.2.2.2.2.1 R.2.2.2.2.2.2.2.2.2.2.2.2.1 R.2.2.2.2.2.2.2.2.2.2.2.2.2.1 R.2.2.2.2.2.2.2.2.2.2.2.2.2.2.1 R.2.2.2.2.2.2.2.2.2.2.2.2.2.2.2 aL1 aL2 aL3 aL4) c0) n) 0 0) 51 [(0, .ref (b + 42)), (1, .ref (b + 1)), (2, .ref (b + 37)), (3, .int x3)] [] (e_ov (kW50 q) (wW50 G b q nh nt ne ns v1_beasts v1_meals v1_seats v1_laws v1_inForce a2 a3 a4 a5 v37_height v37_answer a38 a39 v42_beasts v42_seats v42_seated v42_quota v42_known v42_surveyed v42_steadyBench v42_steadyWays v42_steadySwing a43 a44 a45 a46 a47 a49 aL1 aL2 aL3 aL4) c0) n 0 0) : ∀ (k : Nat) {v1_beasts : Int32} {v1_seats : Int32} {v1_laws : Int32} {v1_inForce : Int32} {a2 : Nat → Int32} {a3 : Nat → Int32} {a4 : Nat → Int32} {a5 : Nat → Option Nat} {v37_height : Int32} {v37_answer : Int64} {a38 : Nat → Int32} {a39 : Nat → Int64} {v42_beasts : Int32} {v42_seats : Int32} {v42_seated : Int32} {v42_quota : Int32} {v42_known : Int32} {v42_surveyed : Int32} {a43 : Nat → Int32} {a44 : Nat → Int32} {a45 : Nat → Int32} {a46 : Nat → Int32} {a47 : Nat → Int32} {a49 : Nat → Int32} {aL1 : Nat → Int32} {aL2 : Nat → Int32} {aL3 : Nat → Int32} {aL4 : Nat → Int32} {x3 : Int32} {x4 : Int32} {R : Int32 × Int64 × (Nat → Int32) × (Nat → Int64) × Int32 × Int32 × Int32 × Int32 × Int32 × Int32 × (Nat → Int32) × (Nat → Int32) × (Nat → Int32) × (Nat → Int32) × (Nat → Int32) × (Nat → Int32)}, fX1_learn_L_L102 Fu nh nt ne ns b q k51 k v1_beasts v1_seats v1_laws v1_inForce a2 a3 a4 a5 v37_height v37_answer a38 a39 v42_beasts v42_seats v42_seated v42_quota v42_known v42_surveyed a43 a44 a45 a46 a47 a49 aL1 aL2 aL3 aL4 x3 x4 = some R → E G b yX1_learn cX1_learn 5 none (e_rm 5 0 0) e_X0 (e_Z G b (pD none (e_ov (kW50 q) (wW50 G b q nh nt ne ns v1_beasts v1_meals v1_seats v1_laws v1_inForce a2 a3 a4 a5 R.1 R.2.1 R.2.2.1 R.2.2.2.1 R.2.2.2.2.1 R.2.2.2.2.2.1 R.2.2.2.2.2.2.1 R.2.2.2.2.2.2.2.1 R.2.2.2.2.2.2.2.2.1 R.2.2.2.2.2.2.2.2.2.1 v42_steadyBench v42_steadyWays v42_steadySwing R.2.2.2.2.2.2.2.2.2.2.1 R.2.2.2.2.2.2.2.2.2.2.2.1 R.2.2.2.2.2.2.2.2.2.2.2.2.1 R.2.2.2.2.2.2.2.2.2.2.2.2.2.1 R.2.2.2.2.2.2.2.2.2.2.2.2.2.2.1 R.2.2.2.2.2.2.2.2.2.2.2.2.2.2.2 aL1 aL2 aL3 aL4) c0) n) 0 0) 102 [(0, .ref (b + 42)), (1, .ref (b + 1)), (2, .ref (b + 37)), (3, .int x3), (4, .int x4)] [] (e_ov (kW50 q) (wW50 G b q nh nt ne ns v1_beasts v1_meals v1_seats v1_laws v1_inForce a2 a3 a4 a5 v37_height v37_answer a38 a39 v42_beasts v42_seats v42_seated v42_quota v42_known v42_surveyed v42_steadyBench v42_steadyWays v42_steadySwing a43 a44 a45 a46 a47 a49 aL1 aL2 aL3 aL4) c0) n 0 0 := by
  intro k
  induction k with
  | zero =>
    intro _ _ _ _ _ _ _ _ _ _ _ _ _ _ _ _ _ _ _ _ _ _ _ _ _ _ _ _ _ _ _ hf
    have hf : (none : Option (Int32 × Int64 × (Nat → Int32) × (Nat → Int64) × Int32 × Int32 × Int32 × Int32 × Int32 × Int32 × (Nat → Int32) × (Nat → Int32) × (Nat → Int32) × (Nat → Int32) × (Nat → Int32) × (Nat → Int32))) = some _ := hf
    cases hf
  | succ k ih =>
    intro v1_beasts v1_seats v1_laws v1_inForce a2 a3 a4 a5 v37_height v37_answer a38 a39 v42_beasts v42_seats v42_seated v42_quota v42_known v42_surveyed a43 a44 a45 a46 a47 a49 aL1 aL2 aL3 aL4 x3 x4 R hf
    rw [fX1_learn_L_L102] at hf
    refine E.iload 4 dX1_learn_102 rfl ?_
    refine E.iconst (v := 3) dX1_learn_104 (by decide) ?_
    refine E.icmp_gt dX1_learn_105 (fun h => ?_) (fun h => ?_)
    · have hf := e_ift hf h
      refine E.iinc (q := 3) (v := (x3 + 1)) (lv' := [(3, .int (x3 + 1)), (0, .ref (b + 42)), (1, .ref (b + 1)), (2, .ref (b + 37)), (4, .int x4)]) dX1_learn_140 rfl rfl (by decide) rfl ?_
      refine E.goto dX1_learn_143 ?_
      refine E.locals [1, 2, 3, 0] rfl ?_
      exact hk51 hf
    · have hf := e_iff hf h
      refine E.aload_n 0 dX1_learn_108 rfl ?_
      refine E.get hw 8 42 dX1_learn_109 flX1_9 rfl rfl rfl rfl ?_
      refine E.iload_n 3 dX1_learn_112 rfl ?_
      refine E.iconst (v := 4) dX1_learn_113 (by decide) ?_
      refine E.imul dX1_learn_114 ?_
      refine E.iload 4 dX1_learn_115 rfl ?_
      refine E.iadd dX1_learn_117 ?_
      refine E.aload_n 2 dX1_learn_118 rfl ?_
      refine E.aload_n 1 dX1_learn_119 rfl ?_
      refine E.iload_n 3 dX1_learn_120 rfl ?_
      refine E.aload_n 1 dX1_learn_121 rfl ?_
      refine E.getN hw 0 1 dX1_learn_122 fnX1_63 rfl rfl rfl rfl ?_
      refine E.iconst (v := 1) dX1_learn_125 (by decide) ?_
      obtain ⟨g11, hf⟩ := gd_some hf
      refine E.iald hw 3 4 dX1_learn_126 rfl rfl g11 ?_
      refine E.iload 4 dX1_learn_127 rfl ?_
      refine E.iconst (v := 0) dX1_learn_129 (by decide) ?_
      obtain ⟨r12, hc12, hf⟩ := e_bind hf
      refine E.callVDs (es' := (wW50 G b q nh nt ne ns v1_beasts v1_meals v1_seats v1_laws v1_inForce a2 a3 a4 a5 r12.2.1 r12.2.2.1 r12.2.2.2.1 r12.2.2.2.2 v42_beasts v42_seats v42_seated v42_quota v42_known v42_surveyed v42_steadyBench v42_steadyWays v42_steadySwing a43 a44 a45 a46 a47 a49 aL1 aL2 aL3 aL4)) [.int ((x3 * 4) + x4), .ref (b + 43)] [0, 1, 2, 3, 4, 5, 6, 7, 15, 16, 17, 18, 19] 5 37 dX1_learn_130 mlX1_80 hw rfl rfl rfl rfl (mX0_chanceOf_L (hw.pick2 [0, 1, 2, 3, 4, 5, 6, 7, 15, 16, 17, 18, 19] rfl (by decide)) hc12) rfl rfl rfl rfl ⟨Nat.le_of_ble_eq_true rfl, Nat.le_of_ble_eq_true rfl⟩ rfl rfl (Nat.le_of_ble_eq_true rfl) ⟨Nat.le_refl _, Nat.le_refl _⟩ rfl ?_
      obtain ⟨g13, hf⟩ := gd_some hf
      refine E.iast (es' := (wW50 G b q nh nt ne ns v1_beasts v1_meals v1_seats v1_laws v1_inForce a2 a3 a4 a5 r12.2.1 r12.2.2.1 r12.2.2.2.1 r12.2.2.2.2 v42_beasts v42_seats v42_seated v42_quota v42_known v42_surveyed v42_steadyBench v42_steadyWays v42_steadySwing (va_up a43 (((x3 * 4) + x4) : Int32).toNatClampNeg r12.1) a44 a45 a46 a47 a49 aL1 aL2 aL3 aL4)) hw 9 43 dX1_learn_133 rfl rfl g13 rfl ?_
      refine E.iinc (q := 4) (v := (x4 + 1)) (lv' := [(4, .int (x4 + 1)), (0, .ref (b + 42)), (1, .ref (b + 1)), (2, .ref (b + 37)), (3, .int x3)]) dX1_learn_134 rfl rfl (by decide) rfl ?_
      refine E.goto dX1_learn_137 ?_
      refine E.locals [1, 2, 3, 4, 0] rfl ?_
      exact ih hf
def fX1_learn_L_L87 (Fu : Nat) (nh : Nat) (nt : Nat) (ne : Nat) (ns : Nat) (b q : Nat) (k51 : Int32 → Int32 → Int32 → Int32 → (Nat → Int32) → (Nat → Int32) → (Nat → Int32) → (Nat → Option Nat) → Int32 → Int64 → (Nat → Int32) → (Nat → Int64) → Int32 → Int32 → Int32 → Int32 → Int32 → Int32 → (Nat → Int32) → (Nat → Int32) → (Nat → Int32) → (Nat → Int32) → (Nat → Int32) → (Nat → Int32) → (Nat → Int32) → (Nat → Int32) → (Nat → Int32) → (Nat → Int32) → Int32 → Option (Int32 × Int64 × (Nat → Int32) × (Nat → Int64) × Int32 × Int32 × Int32 × Int32 × Int32 × Int32 × (Nat → Int32) × (Nat → Int32) × (Nat → Int32) × (Nat → Int32) × (Nat → Int32) × (Nat → Int32))) (v1_beasts : Int32) (v1_seats : Int32) (v1_laws : Int32) (v1_inForce : Int32) (a2 : Nat → Int32) (a3 : Nat → Int32) (a4 : Nat → Int32) (a5 : Nat → Option Nat) (v37_height : Int32) (v37_answer : Int64) (a38 : Nat → Int32) (a39 : Nat → Int64) (v42_beasts : Int32) (v42_seats : Int32) (v42_seated : Int32) (v42_quota : Int32) (v42_known : Int32) (v42_surveyed : Int32) (a43 : Nat → Int32) (a44 : Nat → Int32) (a45 : Nat → Int32) (a46 : Nat → Int32) (a47 : Nat → Int32) (a49 : Nat → Int32) (aL1 : Nat → Int32) (aL2 : Nat → Int32) (aL3 : Nat → Int32) (aL4 : Nat → Int32) (x3 : Int32) : Option (Int32 × Int64 × (Nat → Int32) × (Nat → Int64) × Int32 × Int32 × Int32 × Int32 × Int32 × Int32 × (Nat → Int32) × (Nat → Int32) × (Nat → Int32) × (Nat → Int32) × (Nat → Int32) × (Nat → Int32)) := (fX10_trait a2 x3 5).bind fun r9 => (gd x3 8 (fX1_learn_L_L102 Fu nh nt ne ns b q k51 Fu v1_beasts v1_seats v1_laws v1_inForce a2 a3 a4 a5 v37_height v37_answer a38 a39 v42_beasts v42_seats v42_seated v42_quota v42_known v42_surveyed a43 (va_up a44 (x3 : Int32).toNatClampNeg r9) a45 a46 a47 a49 aL1 aL2 aL3 aL4 x3 0))
set_option maxHeartbeats 4000000 in
set_option maxRecDepth 100000 in
theorem tX1_learn_L_L87 {G : GT} {b : Nat} {q nh nt ne ns : Nat} {c0 : Hp} {n : Nat} (hw : e_wf (kW50 q) n) {v1_meals : Int32} {v42_steadyBench : Int32} {v42_steadyWays : Int32} {v42_steadySwing : Int64} {Fu : Nat} {k51 : Int32 → Int32 → Int32 → Int32 → (Nat → Int32) → (Nat → Int32) → (Nat → Int32) → (Nat → Option Nat) → Int32 → Int64 → (Nat → Int32) → (Nat → Int64) → Int32 → Int32 → Int32 → Int32 → Int32 → Int32 → (Nat → Int32) → (Nat → Int32) → (Nat → Int32) → (Nat → Int32) → (Nat → Int32) → (Nat → Int32) → (Nat → Int32) → (Nat → Int32) → (Nat → Int32) → (Nat → Int32) → Int32 → Option (Int32 × Int64 × (Nat → Int32) × (Nat → Int64) × Int32 × Int32 × Int32 × Int32 × Int32 × Int32 × (Nat → Int32) × (Nat → Int32) × (Nat → Int32) × (Nat → Int32) × (Nat → Int32) × (Nat → Int32))} (hk51 : ∀ {v1_beasts : Int32} {v1_seats : Int32} {v1_laws : Int32} {v1_inForce : Int32} {a2 : Nat → Int32} {a3 : Nat → Int32} {a4 : Nat → Int32} {a5 : Nat → Option Nat} {v37_height : Int32} {v37_answer : Int64} {a38 : Nat → Int32} {a39 : Nat → Int64} {v42_beasts : Int32} {v42_seats : Int32} {v42_seated : Int32} {v42_quota : Int32} {v42_known : Int32} {v42_surveyed : Int32} {a43 : Nat → Int32} {a44 : Nat → Int32} {a45 : Nat → Int32} {a46 : Nat → Int32} {a47 : Nat → Int32} {a49 : Nat → Int32} {aL1 : Nat → Int32} {aL2 : Nat → Int32} {aL3 : Nat → Int32} {aL4 : Nat → Int32} {x3 : Int32} {R : Int32 × Int64 × (Nat → Int32) × (Nat → Int64) × Int32 × Int32 × Int32 × Int32 × Int32 × Int32 × (Nat → Int32) × (Nat → Int32) × (Nat → Int32) × (Nat → Int32) × (Nat → Int32) × (Nat → Int32)}, k51 v1_beasts v1_seats v1_laws v1_inForce a2 a3 a4 a5 v37_height v37_answer a38 a39 v42_beasts v42_seats v42_seated v42_quota v42_known v42_surveyed a43 a44 a45 a46 a47 a49 aL1 aL2 aL3 aL4 x3 = some R → E G b yX1_learn cX1_learn 5 none (e_rm 5 0 0) e_X0 (e_Z G b (pD none (e_ov (kW50 q) (wW50 G b q nh nt ne ns v1_beasts v1_meals v1_seats v1_laws v1_inForce a2 a3 a4 a5 R.1 R.2.1 R.2.2.1 R.2.2.2.1 R.2.2.2.2.1 R.2.2.2.2.2.1 R.2.2.2.2.2.2.1 R.2.2.2.2.2.2.2.1 R.2.2.2.2.2.2.2.2.1 R.2.2.2.2.2.2.2.2.2.1 v42_steadyBench v42_steadyWays v42_steadySwing R.2.2.2.2.2.2.2.2.2.2.1 R.2.2.2.2.2.2.2.2.2.2.2.1 R.2.2.2.2.2.2.2.2.2.2.2.2.1 R.2.2.2.2.2.2.2.2.2.2.2.2.2.1 R.2.2.2.2.2.2.2.2.2.2.2.2.2.2.1 R.2.2.2.2.2.2.2.2.2.2.2.2.2.2.2 aL1 aL2 aL3 aL4) c0) n) 0 0) 51 [(0, .ref (b + 42)), (1, .ref (b + 1)), (2, .ref (b + 37)), (3, .int x3)] [] (e_ov (kW50 q) (wW50 G b q nh nt ne ns v1_beasts v1_meals v1_seats v1_laws v1_inForce a2 a3 a4 a5 v37_height v37_answer a38 a39 v42_beasts v42_seats v42_seated v42_quota v42_known v42_surveyed v42_steadyBench v42_steadyWays v42_steadySwing a43 a44 a45 a46 a47 a49 aL1 aL2 aL3 aL4) c0) n 0 0) {v1_beasts : Int32} {v1_seats : Int32} {v1_laws : Int32} {v1_inForce : Int32} {a2 : Nat → Int32} {a3 : Nat → Int32} {a4 : Nat → Int32} {a5 : Nat → Option Nat} {v37_height : Int32} {v37_answer : Int64} {a38 : Nat → Int32} {a39 : Nat → Int64} {v42_beasts : Int32} {v42_seats : Int32} {v42_seated : Int32} {v42_quota : Int32} {v42_known : Int32} {v42_surveyed : Int32} {a43 : Nat → Int32} {a44 : Nat → Int32} {a45 : Nat → Int32} {a46 : Nat → Int32} {a47 : Nat → Int32} {a49 : Nat → Int32} {aL1 : Nat → Int32} {aL2 : Nat → Int32} {aL3 : Nat → Int32} {aL4 : Nat → Int32} {x3 : Int32} {R : Int32 × Int64 × (Nat → Int32) × (Nat → Int64) × Int32 × Int32 × Int32 × Int32 × Int32 × Int32 × (Nat → Int32) × (Nat → Int32) × (Nat → Int32) × (Nat → Int32) × (Nat → Int32) × (Nat → Int32)} (hf : fX1_learn_L_L87 Fu nh nt ne ns b q k51 v1_beasts v1_seats v1_laws v1_inForce a2 a3 a4 a5 v37_height v37_answer a38 a39 v42_beasts v42_seats v42_seated v42_quota v42_known v42_surveyed a43 a44 a45 a46 a47 a49 aL1 aL2 aL3 aL4 x3 = some R) : E G b yX1_learn cX1_learn 5 none (e_rm 5 0 0) e_X0 (e_Z G b (pD none (e_ov (kW50 q) (wW50 G b q nh nt ne ns v1_beasts v1_meals v1_seats v1_laws v1_inForce a2 a3 a4 a5 R.1 R.2.1 R.2.2.1 R.2.2.2.1 R.2.2.2.2.1 R.2.2.2.2.2.1 R.2.2.2.2.2.2.1 R.2.2.2.2.2.2.2.1 R.2.2.2.2.2.2.2.2.1 R.2.2.2.2.2.2.2.2.2.1 v42_steadyBench v42_steadyWays v42_steadySwing R.2.2.2.2.2.2.2.2.2.2.1 R.2.2.2.2.2.2.2.2.2.2.2.1 R.2.2.2.2.2.2.2.2.2.2.2.2.1 R.2.2.2.2.2.2.2.2.2.2.2.2.2.1 R.2.2.2.2.2.2.2.2.2.2.2.2.2.2.1 R.2.2.2.2.2.2.2.2.2.2.2.2.2.2.2 aL1 aL2 aL3 aL4) c0) n) 0 0) 87 [(0, .ref (b + 42)), (1, .ref (b + 1)), (2, .ref (b + 37)), (3, .int x3)] [] (e_ov (kW50 q) (wW50 G b q nh nt ne ns v1_beasts v1_meals v1_seats v1_laws v1_inForce a2 a3 a4 a5 v37_height v37_answer a38 a39 v42_beasts v42_seats v42_seated v42_quota v42_known v42_surveyed v42_steadyBench v42_steadyWays v42_steadySwing a43 a44 a45 a46 a47 a49 aL1 aL2 aL3 aL4) c0) n 0 0 := by
  unfold fX1_learn_L_L87 at hf
  refine E.aload_n 0 dX1_learn_87 rfl ?_
  refine E.get hw 8 42 dX1_learn_88 flX1_15 rfl rfl rfl rfl ?_
  refine E.iload_n 3 dX1_learn_91 rfl ?_
  refine E.aload_n 1 dX1_learn_92 rfl ?_
  refine E.iload_n 3 dX1_learn_93 rfl ?_
  refine E.iconst (v := 5) dX1_learn_94 (by decide) ?_
  obtain ⟨r9, hc9, hf⟩ := e_bind hf
  refine E.callVDs (es' := (wW50 G b q nh nt ne ns v1_beasts v1_meals v1_seats v1_laws v1_inForce a2 a3 a4 a5 v37_height v37_answer a38 a39 v42_beasts v42_seats v42_seated v42_quota v42_known v42_surveyed v42_steadyBench v42_steadyWays v42_steadySwing a43 a44 a45 a46 a47 a49 aL1 aL2 aL3 aL4)) [.int x3, .ref (b + 44)] [0, 1] 0 1 dX1_learn_95 mlX1_76 hw rfl rfl rfl rfl (mX10_trait (hw.pick2 [0, 1] rfl (by decide)) hc9) rfl rfl rfl rfl ⟨Nat.le_of_ble_eq_true rfl, Nat.le_of_ble_eq_true rfl⟩ rfl rfl (Nat.le_of_ble_eq_true rfl) ⟨Nat.le_refl _, Nat.le_refl _⟩ rfl ?_
  obtain ⟨g10, hf⟩ := gd_some hf
  refine E.iast (es' := (wW50 G b q nh nt ne ns v1_beasts v1_meals v1_seats v1_laws v1_inForce a2 a3 a4 a5 v37_height v37_answer a38 a39 v42_beasts v42_seats v42_seated v42_quota v42_known v42_surveyed v42_steadyBench v42_steadyWays v42_steadySwing a43 (va_up a44 (x3 : Int32).toNatClampNeg r9) a45 a46 a47 a49 aL1 aL2 aL3 aL4)) hw 10 44 dX1_learn_98 rfl rfl g10 rfl ?_
  refine E.iconst (v := 0) dX1_learn_99 (by decide) ?_
  refine E.istore (lv' := [(4, .int 0), (0, .ref (b + 42)), (1, .ref (b + 1)), (2, .ref (b + 37)), (3, .int x3)]) dX1_learn_100 (by decide) rfl ?_
  refine E.locals [1, 2, 3, 4, 0] rfl ?_
  exact tX1_learn_L_L102 hw hk51 _ hf
def fX1_learn_L_L51 (Fu : Nat) (nh : Nat) (nt : Nat) (ne : Nat) (ns : Nat) (b q : Nat) : Nat → Int32 → Int32 → Int32 → Int32 → (Nat → Int32) → (Nat → Int32) → (Nat → Int32) → (Nat → Option Nat) → Int32 → Int64 → (Nat → Int32) → (Nat → Int64) → Int32 → Int32 → Int32 → Int32 → Int32 → Int32 → (Nat → Int32) → (Nat → Int32) → (Nat → Int32) → (Nat → Int32) → (Nat → Int32) → (Nat → Int32) → (Nat → Int32) → (Nat → Int32) → (Nat → Int32) → (Nat → Int32) → Int32 → Option (Int32 × Int64 × (Nat → Int32) × (Nat → Int64) × Int32 × Int32 × Int32 × Int32 × Int32 × Int32 × (Nat → Int32) × (Nat → Int32) × (Nat → Int32) × (Nat → Int32) × (Nat → Int32) × (Nat → Int32))
  | 0, _, _, _, _, _, _, _, _, _, _, _, _, _, _, _, _, _, _, _, _, _, _, _, _, _, _, _, _, _ => none
  | k + 1, v1_beasts, v1_seats, v1_laws, v1_inForce, a2, a3, a4, a5, v37_height, v37_answer, a38, a39, v42_beasts, v42_seats, v42_seated, v42_quota, v42_known, v42_surveyed, a43, a44, a45, a46, a47, a49, aL1, aL2, aL3, aL4, x3 => if (v42_beasts : Int32) ≤ (x3 : Int32) then (fX1_learn_L_L148 Fu nh nt ne ns b q Fu v1_beasts v1_seats v1_laws v1_inForce a2 a3 a4 a5 v37_height v37_answer a38 a39 v42_beasts v42_seats v42_seated v42_quota v42_known v42_surveyed a43 a44 a45 a46 a47 a49 aL1 aL2 aL3 aL4 0) else ((fX10_isSeated v1_beasts v1_seats x3).bind fun r2 => (if (r2 : Int32) = (0 : Int32) then (fX1_learn_L_L87 Fu nh nt ne ns b q (fX1_learn_L_L51 Fu nh nt ne ns b q k) v1_beasts v1_seats v1_laws v1_inForce a2 a3 a4 a5 v37_height v37_answer a38 a39 v42_beasts v42_seats v42_seated v42_quota v42_known v42_surveyed a43 a44 a45 a46 a47 a49 aL1 aL2 aL3 aL4 x3) else (gd v42_seated 8 (fX1_learn_L_L87 Fu nh nt ne ns b q (fX1_learn_L_L51 Fu nh nt ne ns b q k) v1_beasts v1_seats v1_laws v1_inForce a2 a3 a4 a5 v37_height v37_answer a38 a39 v42_beasts v42_seats (v42_seated + 1) v42_quota v42_known v42_surveyed a43 a44 a45 a46 a47 (va_up a49 (v42_seated : Int32).toNatClampNeg x3) aL1 aL2 aL3 aL4 x3))))
set_option maxHeartbeats 4000000 in
set_option maxRecDepth 100000 in
theorem tX1_learn_L_L51 {G : GT} {b : Nat} {q nh nt ne ns : Nat} {c0 : Hp} {n : Nat} (hw : e_wf (kW50 q) n) {v1_meals : Int32} {v42_steadyBench : Int32} {v42_steadyWays : Int32} {v42_steadySwing : Int64} {Fu : Nat} : ∀ (k : Nat) {v1_beasts : Int32} {v1_seats : Int32} {v1_laws : Int32} {v1_inForce : Int32} {a2 : Nat → Int32} {a3 : Nat → Int32} {a4 : Nat → Int32} {a5 : Nat → Option Nat} {v37_height : Int32} {v37_answer : Int64} {a38 : Nat → Int32} {a39 : Nat → Int64} {v42_beasts : Int32} {v42_seats : Int32} {v42_seated : Int32} {v42_quota : Int32} {v42_known : Int32} {v42_surveyed : Int32} {a43 : Nat → Int32} {a44 : Nat → Int32} {a45 : Nat → Int32} {a46 : Nat → Int32} {a47 : Nat → Int32} {a49 : Nat → Int32} {aL1 : Nat → Int32} {aL2 : Nat → Int32} {aL3 : Nat → Int32} {aL4 : Nat → Int32} {x3 : Int32} {R : Int32 × Int64 × (Nat → Int32) × (Nat → Int64) × Int32 × Int32 × Int32 × Int32 × Int32 × Int32 × (Nat → Int32) × (Nat → Int32) × (Nat → Int32) × (Nat → Int32) × (Nat → Int32) × (Nat → Int32)}, fX1_learn_L_L51 Fu nh nt ne ns b q k v1_beasts v1_seats v1_laws v1_inForce a2 a3 a4 a5 v37_height v37_answer a38 a39 v42_beasts v42_seats v42_seated v42_quota v42_known v42_surveyed a43 a44 a45 a46 a47 a49 aL1 aL2 aL3 aL4 x3 = some R → E G b yX1_learn cX1_learn 5 none (e_rm 5 0 0) e_X0 (e_Z G b (pD none (e_ov (kW50 q) (wW50 G b q nh nt ne ns v1_beasts v1_meals v1_seats v1_laws v1_inForce a2 a3 a4 a5 R.1 R.2.1 R.2.2.1 R.2.2.2.1 R.2.2.2.2.1 R.2.2.2.2.2.1 R.2.2.2.2.2.2.1 R.2.2.2.2.2.2.2.1 R.2.2.2.2.2.2.2.2.1 R.2.2.2.2.2.2.2.2.2.1 v42_steadyBench v42_steadyWays v42_steadySwing R.2.2.2.2.2.2.2.2.2.2.1 R.2.2.2.2.2.2.2.2.2.2.2.1 R.2.2.2.2.2.2.2.2.2.2.2.2.1 R.2.2.2.2.2.2.2.2.2.2.2.2.2.1 R.2.2.2.2.2.2.2.2.2.2.2.2.2.2.1 R.2.2.2.2.2.2.2.2.2.2.2.2.2.2.2 aL1 aL2 aL3 aL4) c0) n) 0 0) 51 [(0, .ref (b + 42)), (1, .ref (b + 1)), (2, .ref (b + 37)), (3, .int x3)] [] (e_ov (kW50 q) (wW50 G b q nh nt ne ns v1_beasts v1_meals v1_seats v1_laws v1_inForce a2 a3 a4 a5 v37_height v37_answer a38 a39 v42_beasts v42_seats v42_seated v42_quota v42_known v42_surveyed v42_steadyBench v42_steadyWays v42_steadySwing a43 a44 a45 a46 a47 a49 aL1 aL2 aL3 aL4) c0) n 0 0 := by
  intro k
  induction k with
  | zero =>
    intro _ _ _ _ _ _ _ _ _ _ _ _ _ _ _ _ _ _ _ _ _ _ _ _ _ _ _ _ _ _ hf
    have hf : (none : Option (Int32 × Int64 × (Nat → Int32) × (Nat → Int64) × Int32 × Int32 × Int32 × Int32 × Int32 × Int32 × (Nat → Int32) × (Nat → Int32) × (Nat → Int32) × (Nat → Int32) × (Nat → Int32) × (Nat → Int32))) = some _ := hf
    cases hf
  | succ k ih =>
    intro v1_beasts v1_seats v1_laws v1_inForce a2 a3 a4 a5 v37_height v37_answer a38 a39 v42_beasts v42_seats v42_seated v42_quota v42_known v42_surveyed a43 a44 a45 a46 a47 a49 aL1 aL2 aL3 aL4 x3 R hf
    rw [fX1_learn_L_L51] at hf
    refine E.iload_n 3 dX1_learn_51 rfl ?_
    refine E.aload_n 0 dX1_learn_52 rfl ?_
    refine E.get hw 8 42 dX1_learn_53 flX1_58 rfl rfl rfl rfl ?_
    refine E.icmp_ge dX1_learn_56 (fun h => ?_) (fun h => ?_)
    · have hf := e_ift hf h
      refine E.iconst (v := 0) dX1_learn_146 (by decide) ?_
      refine E.istore_n (lv' := [(3, .int 0), (0, .ref (b + 42)), (1, .ref (b + 1)), (2, .ref (b + 37))]) dX1_learn_147 (by decide) rfl ?_
      refine E.locals [1, 2, 3, 0] rfl ?_
      exact tX1_learn_L_L148 hw _ hf
    · have hf := e_iff hf h
      refine E.aload_n 1 dX1_learn_59 rfl ?_
      refine E.iload_n 3 dX1_learn_60 rfl ?_
      obtain ⟨r2, hc2, hf⟩ := e_bind hf
      refine E.callVDs (es' := (wW50 G b q nh nt ne ns v1_beasts v1_meals v1_seats v1_laws v1_inForce a2 a3 a4 a5 v37_height v37_answer a38 a39 v42_beasts v42_seats v42_seated v42_quota v42_known v42_surveyed v42_steadyBench v42_steadyWays v42_steadySwing a43 a44 a45 a46 a47 a49 aL1 aL2 aL3 aL4)) [] [0] 0 1 dX1_learn_61 mlX1_72 hw rfl rfl rfl rfl (mX10_isSeated (hw.pick2 [0] rfl (by decide)) hc2) rfl rfl rfl rfl ⟨Nat.le_of_ble_eq_true rfl, Nat.le_of_ble_eq_true rfl⟩ rfl rfl (Nat.le_of_ble_eq_true rfl) ⟨Nat.le_refl _, Nat.le_refl _⟩ rfl ?_
      refine E.if_eq dX1_learn_64 (fun h => ?_) (fun h => ?_)
      · have hf := e_ift hf h
        exact tX1_learn_L_L87 hw ih hf
      · have hf := e_iff hf h
        refine E.aload_n 0 dX1_learn_67 rfl ?_
        refine E.get hw 8 42 dX1_learn_68 flX1_31 rfl rfl rfl rfl ?_
        refine E.aload_n 0 dX1_learn_71 rfl ?_
        refine E.get hw 8 42 dX1_learn_72 flX1_69 rfl rfl rfl rfl ?_
        refine E.iload_n 3 dX1_learn_75 rfl ?_
        obtain ⟨g3, hf⟩ := gd_some hf
        refine E.iast (es' := (wW50 G b q nh nt ne ns v1_beasts v1_meals v1_seats v1_laws v1_inForce a2 a3 a4 a5 v37_height v37_answer a38 a39 v42_beasts v42_seats v42_seated v42_quota v42_known v42_surveyed v42_steadyBench v42_steadyWays v42_steadySwing a43 a44 a45 a46 a47 (va_up a49 (v42_seated : Int32).toNatClampNeg x3) aL1 aL2 aL3 aL4)) hw 14 49 dX1_learn_76 rfl rfl g3 rfl ?_
        refine E.aload_n 0 dX1_learn_77 rfl ?_
        refine E.dup dX1_learn_78 rfl ?_
        refine E.get hw 8 42 dX1_learn_79 flX1_69 rfl rfl rfl rfl ?_
        refine E.iconst (v := 1) dX1_learn_82 (by decide) ?_
        refine E.iadd dX1_learn_83 ?_
        refine E.put (es' := (wW50 G b q nh nt ne ns v1_beasts v1_meals v1_seats v1_laws v1_inForce a2 a3 a4 a5 v37_height v37_answer a38 a39 v42_beasts v42_seats (v42_seated + 1) v42_quota v42_known v42_surveyed v42_steadyBench v42_steadyWays v42_steadySwing a43 a44 a45 a46 a47 (va_up a49 (v42_seated : Int32).toNatClampNeg x3) aL1 aL2 aL3 aL4)) hw 8 42 dX1_learn_84 flX1_69 ftX1 rfl rfl rfl rfl rfl rfl (Nat.le_of_ble_eq_true rfl) rfl ?_
        exact tX1_learn_L_L87 hw ih hf
def fX1_learn_L (Fu : Nat) (nh : Nat) (nt : Nat) (ne : Nat) (ns : Nat) (b q : Nat) (v1_beasts : Int32) (v1_seats : Int32) (v1_laws : Int32) (v1_inForce : Int32) (a2 : Nat → Int32) (a3 : Nat → Int32) (a4 : Nat → Int32) (a5 : Nat → Option Nat) (v37_height : Int32) (v37_answer : Int64) (a38 : Nat → Int32) (a39 : Nat → Int64) (v42_beasts : Int32) (v42_seats : Int32) (v42_seated : Int32) (v42_quota : Int32) (v42_known : Int32) (v42_surveyed : Int32) (a43 : Nat → Int32) (a44 : Nat → Int32) (a45 : Nat → Int32) (a46 : Nat → Int32) (a47 : Nat → Int32) (a49 : Nat → Int32) (aL1 : Nat → Int32) (aL2 : Nat → Int32) (aL3 : Nat → Int32) (aL4 : Nat → Int32) : Option (Int32 × Int64 × (Nat → Int32) × (Nat → Int64) × Int32 × Int32 × Int32 × Int32 × Int32 × Int32 × (Nat → Int32) × (Nat → Int32) × (Nat → Int32) × (Nat → Int32) × (Nat → Int32) × (Nat → Int32)) := if (v42_known : Int32) = (0 : Int32) then (gd 0 6 (fX1_learn_L_L51 Fu nh nt ne ns b q Fu v1_beasts v1_seats v1_laws v1_inForce a2 a3 a4 a5 v37_height v37_answer a38 a39 v1_beasts v1_seats 0 (a4 (0 : Int32).toNatClampNeg) 1 0 a43 a44 a45 a46 a47 a49 aL1 aL2 aL3 aL4 0)) else (some (v37_height, v37_answer, a38, a39, v42_beasts, v42_seats, v42_seated, v42_quota, v42_known, v42_surveyed, a43, a44, a45, a46, a47, a49))
set_option maxHeartbeats 4000000 in
set_option maxRecDepth 100000 in
theorem tX1_learn_L {G : GT} {b : Nat} {q nh nt ne ns : Nat} {c0 : Hp} {n : Nat} (hw : e_wf (kW50 q) n) {v1_meals : Int32} {v42_steadyBench : Int32} {v42_steadyWays : Int32} {v42_steadySwing : Int64} {Fu : Nat} {v1_beasts : Int32} {v1_seats : Int32} {v1_laws : Int32} {v1_inForce : Int32} {a2 : Nat → Int32} {a3 : Nat → Int32} {a4 : Nat → Int32} {a5 : Nat → Option Nat} {v37_height : Int32} {v37_answer : Int64} {a38 : Nat → Int32} {a39 : Nat → Int64} {v42_beasts : Int32} {v42_seats : Int32} {v42_seated : Int32} {v42_quota : Int32} {v42_known : Int32} {v42_surveyed : Int32} {a43 : Nat → Int32} {a44 : Nat → Int32} {a45 : Nat → Int32} {a46 : Nat → Int32} {a47 : Nat → Int32} {a49 : Nat → Int32} {aL1 : Nat → Int32} {aL2 : Nat → Int32} {aL3 : Nat → Int32} {aL4 : Nat → Int32} {R : Int32 × Int64 × (Nat → Int32) × (Nat → Int64) × Int32 × Int32 × Int32 × Int32 × Int32 × Int32 × (Nat → Int32) × (Nat → Int32) × (Nat → Int32) × (Nat → Int32) × (Nat → Int32) × (Nat → Int32)} (hf : fX1_learn_L Fu nh nt ne ns b q v1_beasts v1_seats v1_laws v1_inForce a2 a3 a4 a5 v37_height v37_answer a38 a39 v42_beasts v42_seats v42_seated v42_quota v42_known v42_surveyed a43 a44 a45 a46 a47 a49 aL1 aL2 aL3 aL4 = some R) : E G b yX1_learn cX1_learn 5 none (e_rm 5 0 0) e_X0 (e_Z G b (pD none (e_ov (kW50 q) (wW50 G b q nh nt ne ns v1_beasts v1_meals v1_seats v1_laws v1_inForce a2 a3 a4 a5 R.1 R.2.1 R.2.2.1 R.2.2.2.1 R.2.2.2.2.1 R.2.2.2.2.2.1 R.2.2.2.2.2.2.1 R.2.2.2.2.2.2.2.1 R.2.2.2.2.2.2.2.2.1 R.2.2.2.2.2.2.2.2.2.1 v42_steadyBench v42_steadyWays v42_steadySwing R.2.2.2.2.2.2.2.2.2.2.1 R.2.2.2.2.2.2.2.2.2.2.2.1 R.2.2.2.2.2.2.2.2.2.2.2.2.1 R.2.2.2.2.2.2.2.2.2.2.2.2.2.1 R.2.2.2.2.2.2.2.2.2.2.2.2.2.2.1 R.2.2.2.2.2.2.2.2.2.2.2.2.2.2.2 aL1 aL2 aL3 aL4) c0) n) 0 0) 0 [(0, .ref (b + 42)), (1, .ref (b + 1)), (2, .ref (b + 37))] [] (e_ov (kW50 q) (wW50 G b q nh nt ne ns v1_beasts v1_meals v1_seats v1_laws v1_inForce a2 a3 a4 a5 v37_height v37_answer a38 a39 v42_beasts v42_seats v42_seated v42_quota v42_known v42_surveyed v42_steadyBench v42_steadyWays v42_steadySwing a43 a44 a45 a46 a47 a49 aL1 aL2 aL3 aL4) c0) n 0 0 := by
  unfold fX1_learn_L at hf
  refine E.aload_n 0 dX1_learn_0 rfl ?_
  refine E.get hw 8 42 dX1_learn_1 flX1_45 rfl rfl rfl rfl ?_
  refine E.if_eq dX1_learn_4 (fun h => ?_) (fun h => ?_)
  · have hf := e_ift hf h
    refine E.aload_n 0 dX1_learn_8 rfl ?_
    refine E.iconst (v := 1) dX1_learn_9 (by decide) ?_
    refine E.put (es' := (wW50 G b q nh nt ne ns v1_beasts v1_meals v1_seats v1_laws v1_inForce a2 a3 a4 a5 v37_height v37_answer a38 a39 v42_beasts v42_seats v42_seated v42_quota 1 v42_surveyed v42_steadyBench v42_steadyWays v42_steadySwing a43 a44 a45 a46 a47 a49 aL1 aL2 aL3 aL4)) hw 8 42 dX1_learn_10 flX1_45 ftX1 rfl rfl rfl rfl rfl rfl (Nat.le_of_ble_eq_true rfl) rfl ?_
    refine E.aload_n 0 dX1_learn_13 rfl ?_
    refine E.iconst (v := 0) dX1_learn_14 (by decide) ?_
    refine E.put (es' := (wW50 G b q nh nt ne ns v1_beasts v1_meals v1_seats v1_laws v1_inForce a2 a3 a4 a5 v37_height v37_answer a38 a39 v42_beasts v42_seats v42_seated v42_quota 1 0 v42_steadyBench v42_steadyWays v42_steadySwing a43 a44 a45 a46 a47 a49 aL1 aL2 aL3 aL4)) hw 8 42 dX1_learn_15 flX1_49 ftX1 rfl rfl rfl rfl rfl rfl (Nat.le_of_ble_eq_true rfl) rfl ?_
    refine E.aload_n 0 dX1_learn_18 rfl ?_
    refine E.aload_n 1 dX1_learn_19 rfl ?_
    refine E.getN hw 0 1 dX1_learn_20 fnX1_52 rfl rfl rfl rfl ?_
    refine E.put (es' := (wW50 G b q nh nt ne ns v1_beasts v1_meals v1_seats v1_laws v1_inForce a2 a3 a4 a5 v37_height v37_answer a38 a39 v1_beasts v42_seats v42_seated v42_quota 1 0 v42_steadyBench v42_steadyWays v42_steadySwing a43 a44 a45 a46 a47 a49 aL1 aL2 aL3 aL4)) hw 8 42 dX1_learn_23 flX1_58 ftX1 rfl rfl rfl rfl rfl rfl (Nat.le_of_ble_eq_true rfl) rfl ?_
    refine E.aload_n 0 dX1_learn_26 rfl ?_
    refine E.aload_n 1 dX1_learn_27 rfl ?_
    refine E.getN hw 0 1 dX1_learn_28 fnX1_59 rfl rfl rfl rfl ?_
    refine E.put (es' := (wW50 G b q nh nt ne ns v1_beasts v1_meals v1_seats v1_laws v1_inForce a2 a3 a4 a5 v37_height v37_answer a38 a39 v1_beasts v1_seats v42_seated v42_quota 1 0 v42_steadyBench v42_steadyWays v42_steadySwing a43 a44 a45 a46 a47 a49 aL1 aL2 aL3 aL4)) hw 8 42 dX1_learn_31 flX1_62 ftX1 rfl rfl rfl rfl rfl rfl (Nat.le_of_ble_eq_true rfl) rfl ?_
    refine E.aload_n 0 dX1_learn_34 rfl ?_
    refine E.aload_n 1 dX1_learn_35 rfl ?_
    refine E.getN hw 0 1 dX1_learn_36 fnX1_63 rfl rfl rfl rfl ?_
    refine E.iconst (v := 0) dX1_learn_39 (by decide) ?_
    obtain ⟨g1, hf⟩ := gd_some hf
    refine E.iald hw 3 4 dX1_learn_40 rfl rfl g1 ?_
    refine E.put (es' := (wW50 G b q nh nt ne ns v1_beasts v1_meals v1_seats v1_laws v1_inForce a2 a3 a4 a5 v37_height v37_answer a38 a39 v1_beasts v1_seats v42_seated (a4 (0 : Int32).toNatClampNeg) 1 0 v42_steadyBench v42_steadyWays v42_steadySwing a43 a44 a45 a46 a47 a49 aL1 aL2 aL3 aL4)) hw 8 42 dX1_learn_41 flX1_66 ftX1 rfl rfl rfl rfl rfl rfl (Nat.le_of_ble_eq_true rfl) rfl ?_
    refine E.aload_n 0 dX1_learn_44 rfl ?_
    refine E.iconst (v := 0) dX1_learn_45 (by decide) ?_
    refine E.put (es' := (wW50 G b q nh nt ne ns v1_beasts v1_meals v1_seats v1_laws v1_inForce a2 a3 a4 a5 v37_height v37_answer a38 a39 v1_beasts v1_seats 0 (a4 (0 : Int32).toNatClampNeg) 1 0 v42_steadyBench v42_steadyWays v42_steadySwing a43 a44 a45 a46 a47 a49 aL1 aL2 aL3 aL4)) hw 8 42 dX1_learn_46 flX1_69 ftX1 rfl rfl rfl rfl rfl rfl (Nat.le_of_ble_eq_true rfl) rfl ?_
    refine E.iconst (v := 0) dX1_learn_49 (by decide) ?_
    refine E.istore_n (lv' := [(3, .int 0), (0, .ref (b + 42)), (1, .ref (b + 1)), (2, .ref (b + 37))]) dX1_learn_50 (by decide) rfl ?_
    refine E.locals [1, 2, 3, 0] rfl ?_
    exact tX1_learn_L_L51 hw _ hf
  · have hf := e_iff hf h
    cases hf
    exact E.vret dX1_learn_7 (Nat.le_refl _) (Nat.le_refl _) (pD_rf _ _ _)
set_option maxRecDepth 100000 in
theorem mX1_learn_L {G : GT} {b : Nat} {q nh nt ne ns : Nat} {c0 : Hp} {n : Nat} (hw : e_wf (kW50 q) n) {v1_meals : Int32} {v42_steadyBench : Int32} {v42_steadyWays : Int32} {v42_steadySwing : Int64} {Fu : Nat} {v1_beasts : Int32} {v1_seats : Int32} {v1_laws : Int32} {v1_inForce : Int32} {a2 : Nat → Int32} {a3 : Nat → Int32} {a4 : Nat → Int32} {a5 : Nat → Option Nat} {v37_height : Int32} {v37_answer : Int64} {a38 : Nat → Int32} {a39 : Nat → Int64} {v42_beasts : Int32} {v42_seats : Int32} {v42_seated : Int32} {v42_quota : Int32} {v42_known : Int32} {v42_surveyed : Int32} {a43 : Nat → Int32} {a44 : Nat → Int32} {a45 : Nat → Int32} {a46 : Nat → Int32} {a47 : Nat → Int32} {a49 : Nat → Int32} {aL1 : Nat → Int32} {aL2 : Nat → Int32} {aL3 : Nat → Int32} {aL4 : Nat → Int32} {R : Int32 × Int64 × (Nat → Int32) × (Nat → Int64) × Int32 × Int32 × Int32 × Int32 × Int32 × Int32 × (Nat → Int32) × (Nat → Int32) × (Nat → Int32) × (Nat → Int32) × (Nat → Int32) × (Nat → Int32)} (hf : fX1_learn_L Fu nh nt ne ns b q v1_beasts v1_seats v1_laws v1_inForce a2 a3 a4 a5 v37_height v37_answer a38 a39 v42_beasts v42_seats v42_seated v42_quota v42_known v42_surveyed a43 a44 a45 a46 a47 a49 aL1 aL2 aL3 aL4 = some R) : e_C G b yX1_learn cX1_learn 5 none 5 0 0 [.ref (b + 42), .ref (b + 1), .ref (b + 37)] (e_ov (kW50 q) (wW50 G b q nh nt ne ns v1_beasts v1_meals v1_seats v1_laws v1_inForce a2 a3 a4 a5 v37_height v37_answer a38 a39 v42_beasts v42_seats v42_seated v42_quota v42_known v42_surveyed v42_steadyBench v42_steadyWays v42_steadySwing a43 a44 a45 a46 a47 a49 aL1 aL2 aL3 aL4) c0) n (pD none (e_ov (kW50 q) (wW50 G b q nh nt ne ns v1_beasts v1_meals v1_seats v1_laws v1_inForce a2 a3 a4 a5 R.1 R.2.1 R.2.2.1 R.2.2.2.1 R.2.2.2.2.1 R.2.2.2.2.2.1 R.2.2.2.2.2.2.1 R.2.2.2.2.2.2.2.1 R.2.2.2.2.2.2.2.2.1 R.2.2.2.2.2.2.2.2.2.1 v42_steadyBench v42_steadyWays v42_steadySwing R.2.2.2.2.2.2.2.2.2.2.1 R.2.2.2.2.2.2.2.2.2.2.2.1 R.2.2.2.2.2.2.2.2.2.2.2.2.1 R.2.2.2.2.2.2.2.2.2.2.2.2.2.1 R.2.2.2.2.2.2.2.2.2.2.2.2.2.2.1 R.2.2.2.2.2.2.2.2.2.2.2.2.2.2.2 aL1 aL2 aL3 aL4) c0) n) := e_C.of (by decide) (Nat.le_of_ble_eq_true rfl) (tX1_learn_L hw hf)
abbrev kW51 (q : Nat) : List Nat := [0, 1, 2, 3, 4, 5, 37, 38, 39, 42, 43, 44, 45, 46, 47, 49, 67, 68, q, (q + 1), (q + 2), (q + 3), (q + 4)]
abbrev wW51 (G : GT) (b q nh nt ne ns : Nat) (v0_faultPlace : Int32) (v0_quashedRows : Int32) (v0_lastRefusal : Int32) (v1_beasts : Int32) (v1_meals : Int32) (v1_seats : Int32) (v1_laws : Int32) (v1_inForce : Int32) (a2 : Nat → Int32) (a3 : Nat → Int32) (a4 : Nat → Int32) (a5 : Nat → Option Nat) (v37_height : Int32) (v37_answer : Int64) (a38 : Nat → Int32) (a39 : Nat → Int64) (v42_beasts : Int32) (v42_seats : Int32) (v42_seated : Int32) (v42_quota : Int32) (v42_known : Int32) (v42_surveyed : Int32) (v42_steadyBench : Int32) (v42_steadyWays : Int32) (v42_steadySwing : Int64) (a43 : Nat → Int32) (a44 : Nat → Int32) (a45 : Nat → Int32) (a46 : Nat → Int32) (a47 : Nat → Int32) (a49 : Nat → Int32) (v67_voters : Int32) (a68 : Nat → Int64) (aL1 : Nat → Int32) (aL2 : Nat → Int32) (aL3 : Nat → Int32) (aL4 : Nat → Int32) : List va_E := [.inr (11, [.ref (b + 1), .ref (b + 10), .ref (b + 29), .ref (b + 30), .ref (b + 32), .ref (b + 37), .ref (b + 40), .ref (b + 42), .ref (b + 69), .ref (b + 73), .ref (b + 74), .ref (b + 76), .ref (b + 78), .int v0_faultPlace, .int v0_quashedRows, .int v0_lastRefusal]), .inr (10, [.ref (b + 2), .ref (b + 3), .ref (b + 4), .ref (b + 5), .ref (b + 6), .int v1_beasts, .int v1_meals, .int v1_seats, .int v1_laws, .int v1_inForce]), aI G 48 a2, aI G 8 a3, aI G 6 a4, aQ G 4 6 a5, .inr (0, [.ref (b + 38), .ref (b + 39), .int v37_height, .long v37_answer]), aI G 10 a38, aJ G 51 a39, .inr (1, [.ref (b + 43), .ref (b + 44), .ref (b + 45), .ref (b + 46), .ref (b + 47), .ref (b + 48), .ref (b + 49), .ref (b + 50), .ref (b + 67), .int v42_beasts, .int v42_seats, .int v42_seated, .int v42_quota, .int v42_known, .int v42_surveyed, .int v42_steadyBench, .int v42_steadyWays, .long v42_steadySwing]), aI G 32 a43, aI G 8 a44, aI G 16 a45, aI G 512 a46, aI G 2 a47, aI G 8 a49, .inr (8, [.ref (b + 68), .int v67_voters]), aJ G 9 a68, .inr (5, [.ref (b + (q + 1)), .ref (b + (q + 2)), .ref (b + (q + 3)), .ref (b + (q + 4))]), aI G nh aL1, aI G nt aL2, aI G ne aL3, aI G ns aL4]
def fX11_bribed_L (Fu : Nat) (nh : Nat) (nt : Nat) (ne : Nat) (ns : Nat) (b q : Nat) (v1_beasts : Int32) (v1_seats : Int32) (v1_laws : Int32) (v1_inForce : Int32) (a2 : Nat → Int32) (a3 : Nat → Int32) (a4 : Nat → Int32) (a5 : Nat → Option Nat) (v37_height : Int32) (v37_answer : Int64) (a38 : Nat → Int32) (a39 : Nat → Int64) (v42_beasts : Int32) (v42_seats : Int32) (v42_seated : Int32) (v42_quota : Int32) (v42_known : Int32) (v42_surveyed : Int32) (a43 : Nat → Int32) (a44 : Nat → Int32) (a45 : Nat → Int32) (a46 : Nat → Int32) (a47 : Nat → Int32) (a49 : Nat → Int32) (v67_voters : Int32) (a68 : Nat → Int64) (aL1 : Nat → Int32) (aL2 : Nat → Int32) (aL3 : Nat → Int32) (aL4 : Nat → Int32) (x1 : Int32) (x2 : Int32) : Option (Int64 × Int32 × Int64 × (Nat → Int32) × (Nat → Int64) × Int32 × Int32 × Int32 × Int32 × Int32 × Int32 × (Nat → Int32) × (Nat → Int32) × (Nat → Int32) × (Nat → Int32) × (Nat → Int32) × (Nat → Int32) × Int32 × (Nat → Int64)) := (fX1_learn_L Fu nh nt ne ns b q v1_beasts v1_seats v1_laws v1_inForce a2 a3 a4 a5 v37_height v37_answer a38 a39 v42_beasts v42_seats v42_seated v42_quota v42_known v42_surveyed a43 a44 a45 a46 a47 a49 aL1 aL2 aL3 aL4).bind fun r1 => ((fX1_can r1.2.2.2.2.2.1 r1.2.2.2.2.2.2.2.2.2.2.2.2.2.1 r1.2.2.2.2.2.2.2.2.2.2.2.2.2.2.1 0 x1).bind fun r2 => (if (r2 : Int32) = (0 : Int32) then (some ((-1 : Int64), r1.1, r1.2.1, r1.2.2.1, r1.2.2.2.1, r1.2.2.2.2.1, r1.2.2.2.2.2.1, r1.2.2.2.2.2.2.1, r1.2.2.2.2.2.2.2.1, r1.2.2.2.2.2.2.2.2.1, r1.2.2.2.2.2.2.2.2.2.1, r1.2.2.2.2.2.2.2.2.2.2.1, r1.2.2.2.2.2.2.2.2.2.2.2.1, r1.2.2.2.2.2.2.2.2.2.2.2.2.1, r1.2.2.2.2.2.2.2.2.2.2.2.2.2.1, r1.2.2.2.2.2.2.2.2.2.2.2.2.2.2.1, r1.2.2.2.2.2.2.2.2.2.2.2.2.2.2.2, v67_voters, a68)) else ((fX1_can r1.2.2.2.2.2.1 r1.2.2.2.2.2.2.2.2.2.2.2.2.2.1 r1.2.2.2.2.2.2.2.2.2.2.2.2.2.2.1 1 x2).bind fun r3 => (if (r3 : Int32) = (0 : Int32) then (some ((-1 : Int64), r1.1, r1.2.1, r1.2.2.1, r1.2.2.2.1, r1.2.2.2.2.1, r1.2.2.2.2.2.1, r1.2.2.2.2.2.2.1, r1.2.2.2.2.2.2.2.1, r1.2.2.2.2.2.2.2.2.1, r1.2.2.2.2.2.2.2.2.2.1, r1.2.2.2.2.2.2.2.2.2.2.1, r1.2.2.2.2.2.2.2.2.2.2.2.1, r1.2.2.2.2.2.2.2.2.2.2.2.2.1, r1.2.2.2.2.2.2.2.2.2.2.2.2.2.1, r1.2.2.2.2.2.2.2.2.2.2.2.2.2.2.1, r1.2.2.2.2.2.2.2.2.2.2.2.2.2.2.2, v67_voters, a68)) else ((fX1_winning Fu r1.2.2.2.2.1 r1.2.2.2.2.2.1 r1.2.2.2.2.2.2.2.1 r1.2.2.2.2.2.2.2.2.2.2.1 r1.2.2.2.2.2.2.2.2.2.2.2.1 v67_voters a68 x1 x2).bind fun r4 => (some (r4.1, r1.1, r1.2.1, r1.2.2.1, r1.2.2.2.1, r1.2.2.2.2.1, r1.2.2.2.2.2.1, r1.2.2.2.2.2.2.1, r1.2.2.2.2.2.2.2.1, r1.2.2.2.2.2.2.2.2.1, r1.2.2.2.2.2.2.2.2.2.1, r1.2.2.2.2.2.2.2.2.2.2.1, r1.2.2.2.2.2.2.2.2.2.2.2.1, r1.2.2.2.2.2.2.2.2.2.2.2.2.1, r1.2.2.2.2.2.2.2.2.2.2.2.2.2.1, r1.2.2.2.2.2.2.2.2.2.2.2.2.2.2.1, r1.2.2.2.2.2.2.2.2.2.2.2.2.2.2.2, r4.2.1, r4.2.2)))))))
set_option maxHeartbeats 4000000 in
set_option maxRecDepth 100000 in
theorem tX11_bribed_L {G : GT} {b : Nat} {q nh nt ne ns : Nat} {c0 : Hp} {n : Nat} (hw : e_wf (kW51 q) n) {v0_faultPlace : Int32} {v0_quashedRows : Int32} {v0_lastRefusal : Int32} {v1_meals : Int32} {v42_steadyBench : Int32} {v42_steadyWays : Int32} {v42_steadySwing : Int64} {Fu : Nat} {v1_beasts : Int32} {v1_seats : Int32} {v1_laws : Int32} {v1_inForce : Int32} {a2 : Nat → Int32} {a3 : Nat → Int32} {a4 : Nat → Int32} {a5 : Nat → Option Nat} {v37_height : Int32} {v37_answer : Int64} {a38 : Nat → Int32} {a39 : Nat → Int64} {v42_beasts : Int32} {v42_seats : Int32} {v42_seated : Int32} {v42_quota : Int32} {v42_known : Int32} {v42_surveyed : Int32} {a43 : Nat → Int32} {a44 : Nat → Int32} {a45 : Nat → Int32} {a46 : Nat → Int32} {a47 : Nat → Int32} {a49 : Nat → Int32} {v67_voters : Int32} {a68 : Nat → Int64} {aL1 : Nat → Int32} {aL2 : Nat → Int32} {aL3 : Nat → Int32} {aL4 : Nat → Int32} {x1 : Int32} {x2 : Int32} {R : Int64 × Int32 × Int64 × (Nat → Int32) × (Nat → Int64) × Int32 × Int32 × Int32 × Int32 × Int32 × Int32 × (Nat → Int32) × (Nat → Int32) × (Nat → Int32) × (Nat → Int32) × (Nat → Int32) × (Nat → Int32) × Int32 × (Nat → Int64)} (hf : fX11_bribed_L Fu nh nt ne ns b q v1_beasts v1_seats v1_laws v1_inForce a2 a3 a4 a5 v37_height v37_answer a38 a39 v42_beasts v42_seats v42_seated v42_quota v42_known v42_surveyed a43 a44 a45 a46 a47 a49 v67_voters a68 aL1 aL2 aL3 aL4 x1 x2 = some R) : E G b yX11_bribed cX11_bribed 3 (some .long) (e_rm 6 0 0) e_X0 (e_Z G b (pD (some (.long R.1)) (e_ov (kW51 q) (wW51 G b q nh nt ne ns v0_faultPlace v0_quashedRows v0_lastRefusal v1_beasts v1_meals v1_seats v1_laws v1_inForce a2 a3 a4 a5 R.2.1 R.2.2.1 R.2.2.2.1 R.2.2.2.2.1 R.2.2.2.2.2.1 R.2.2.2.2.2.2.1 R.2.2.2.2.2.2.2.1 R.2.2.2.2.2.2.2.2.1 R.2.2.2.2.2.2.2.2.2.1 R.2.2.2.2.2.2.2.2.2.2.1 v42_steadyBench v42_steadyWays v42_steadySwing R.2.2.2.2.2.2.2.2.2.2.2.1 R.2.2.2.2.2.2.2.2.2.2.2.2.1 R.2.2.2.2.2.2.2.2.2.2.2.2.2.1 R.2.2.2.2.2.2.2.2.2.2.2.2.2.2.1 R.2.2.2.2.2.2.2.2.2.2.2.2.2.2.2.1 R.2.2.2.2.2.2.2.2.2.2.2.2.2.2.2.2.1 R.2.2.2.2.2.2.2.2.2.2.2.2.2.2.2.2.2.1 R.2.2.2.2.2.2.2.2.2.2.2.2.2.2.2.2.2.2 aL1 aL2 aL3 aL4) c0) n) 0 0) 0 [(0, .ref (b + 0)), (1, .int x1), (2, .int x2)] [] (e_ov (kW51 q) (wW51 G b q nh nt ne ns v0_faultPlace v0_quashedRows v0_lastRefusal v1_beasts v1_meals v1_seats v1_laws v1_inForce a2 a3 a4 a5 v37_height v37_answer a38 a39 v42_beasts v42_seats v42_seated v42_quota v42_known v42_surveyed v42_steadyBench v42_steadyWays v42_steadySwing a43 a44 a45 a46 a47 a49 v67_voters a68 aL1 aL2 aL3 aL4) c0) n 0 0 := by
  unfold fX11_bribed_L at hf
  refine E.aload_n 0 dX11_bribed_0 rfl ?_
  refine E.get hw 0 0 dX11_bribed_1 flX11_57 rfl rfl rfl rfl ?_
  refine E.aload_n 0 dX11_bribed_4 rfl ?_
  refine E.get hw 0 0 dX11_bribed_5 flX11_10 rfl rfl rfl rfl ?_
  refine E.aload_n 0 dX11_bribed_8 rfl ?_
  refine E.get hw 0 0 dX11_bribed_9 flX11_43 rfl rfl rfl rfl ?_
  obtain ⟨r1, hc1, hf⟩ := e_bind hf
  refine E.callVDs (es' := (wW51 G b q nh nt ne ns v0_faultPlace v0_quashedRows v0_lastRefusal v1_beasts v1_meals v1_seats v1_laws v1_inForce a2 a3 a4 a5 r1.1 r1.2.1 r1.2.2.1 r1.2.2.2.1 r1.2.2.2.2.1 r1.2.2.2.2.2.1 r1.2.2.2.2.2.2.1 r1.2.2.2.2.2.2.2.1 r1.2.2.2.2.2.2.2.2.1 r1.2.2.2.2.2.2.2.2.2.1 v42_steadyBench v42_steadyWays v42_steadySwing r1.2.2.2.2.2.2.2.2.2.2.1 r1.2.2.2.2.2.2.2.2.2.2.2.1 r1.2.2.2.2.2.2.2.2.2.2.2.2.1 r1.2.2.2.2.2.2.2.2.2.2.2.2.2.1 r1.2.2.2.2.2.2.2.2.2.2.2.2.2.2.1 r1.2.2.2.2.2.2.2.2.2.2.2.2.2.2.2 v67_voters a68 aL1 aL2 aL3 aL4)) [] [1, 2, 3, 4, 5, 6, 7, 8, 9, 10, 11, 12, 13, 14, 15, 18, 19, 20, 21, 22] 9 42 dX11_bribed_12 mlX11_263 hw rfl rfl rfl rfl (mX1_learn_L (hw.pick2 [1, 2, 3, 4, 5, 6, 7, 8, 9, 10, 11, 12, 13, 14, 15, 18, 19, 20, 21, 22] rfl (by decide)) hc1) rfl rfl rfl rfl ⟨Nat.le_of_ble_eq_true rfl, Nat.le_of_ble_eq_true rfl⟩ rfl rfl (Nat.le_of_ble_eq_true rfl) ⟨Nat.le_refl _, Nat.le_refl _⟩ rfl ?_
  refine E.aload_n 0 dX11_bribed_15 rfl ?_
  refine E.get hw 0 0 dX11_bribed_16 flX11_57 rfl rfl rfl rfl ?_
  refine E.iconst (v := 0) dX11_bribed_19 (by decide) ?_
  refine E.iload_n 1 dX11_bribed_20 rfl ?_
  obtain ⟨r2, hc2, hf⟩ := e_bind hf
  refine E.callVDs (es' := (wW51 G b q nh nt ne ns v0_faultPlace v0_quashedRows v0_lastRefusal v1_beasts v1_meals v1_seats v1_laws v1_inForce a2 a3 a4 a5 r1.1 r1.2.1 r1.2.2.1 r1.2.2.2.1 r1.2.2.2.2.1 r1.2.2.2.2.2.1 r1.2.2.2.2.2.2.1 r1.2.2.2.2.2.2.2.1 r1.2.2.2.2.2.2.2.2.1 r1.2.2.2.2.2.2.2.2.2.1 v42_steadyBench v42_steadyWays v42_steadySwing r1.2.2.2.2.2.2.2.2.2.2.1 r1.2.2.2.2.2.2.2.2.2.2.2.1 r1.2.2.2.2.2.2.2.2.2.2.2.2.1 r1.2.2.2.2.2.2.2.2.2.2.2.2.2.1 r1.2.2.2.2.2.2.2.2.2.2.2.2.2.2.1 r1.2.2.2.2.2.2.2.2.2.2.2.2.2.2.2 v67_voters a68 aL1 aL2 aL3 aL4)) [] [9, 13, 14] 9 42 dX11_bribed_21 mlX11_267 hw rfl rfl rfl rfl (mX1_can (hw.pick2 [9, 13, 14] rfl (by decide)) hc2) rfl rfl rfl rfl ⟨Nat.le_of_ble_eq_true rfl, Nat.le_of_ble_eq_true rfl⟩ rfl rfl (Nat.le_of_ble_eq_true rfl) ⟨Nat.le_refl _, Nat.le_refl _⟩ rfl ?_
  refine E.if_eq dX11_bribed_24 (fun h => ?_) (fun h => ?_)
  · have hf := e_ift hf h
    refine E.ldc2 dX11_bribed_39 kX11_210 ?_
    cases hf
    exact E.lret dX11_bribed_42 (Nat.le_refl _) (Nat.le_refl _) (pD_rf _ _ _)
  · have hf := e_iff hf h
    refine E.aload_n 0 dX11_bribed_27 rfl ?_
    refine E.get hw 0 0 dX11_bribed_28 flX11_57 rfl rfl rfl rfl ?_
    refine E.iconst (v := 1) dX11_bribed_31 (by decide) ?_
    refine E.iload_n 2 dX11_bribed_32 rfl ?_
    obtain ⟨r3, hc3, hf⟩ := e_bind hf
    refine E.callVDs (es' := (wW51 G b q nh nt ne ns v0_faultPlace v0_quashedRows v0_lastRefusal v1_beasts v1_meals v1_seats v1_laws v1_inForce a2 a3 a4 a5 r1.1 r1.2.1 r1.2.2.1 r1.2.2.2.1 r1.2.2.2.2.1 r1.2.2.2.2.2.1 r1.2.2.2.2.2.2.1 r1.2.2.2.2.2.2.2.1 r1.2.2.2.2.2.2.2.2.1 r1.2.2.2.2.2.2.2.2.2.1 v42_steadyBench v42_steadyWays v42_steadySwing r1.2.2.2.2.2.2.2.2.2.2.1 r1.2.2.2.2.2.2.2.2.2.2.2.1 r1.2.2.2.2.2.2.2.2.2.2.2.2.1 r1.2.2.2.2.2.2.2.2.2.2.2.2.2.1 r1.2.2.2.2.2.2.2.2.2.2.2.2.2.2.1 r1.2.2.2.2.2.2.2.2.2.2.2.2.2.2.2 v67_voters a68 aL1 aL2 aL3 aL4)) [] [9, 13, 14] 9 42 dX11_bribed_33 mlX11_267 hw rfl rfl rfl rfl (mX1_can (hw.pick2 [9, 13, 14] rfl (by decide)) hc3) rfl rfl rfl rfl ⟨Nat.le_of_ble_eq_true rfl, Nat.le_of_ble_eq_true rfl⟩ rfl rfl (Nat.le_of_ble_eq_true rfl) ⟨Nat.le_refl _, Nat.le_refl _⟩ rfl ?_
    refine E.if_ne dX11_bribed_36 (fun h => ?_) (fun h => ?_)
    · have hf := e_iff hf h
      refine E.aload_n 0 dX11_bribed_43 rfl ?_
      refine E.get hw 0 0 dX11_bribed_44 flX11_57 rfl rfl rfl rfl ?_
      refine E.iload_n 1 dX11_bribed_47 rfl ?_
      refine E.iload_n 2 dX11_bribed_48 rfl ?_
      obtain ⟨r4, hc4, hf⟩ := e_bind hf
      refine E.callVDs (es' := (wW51 G b q nh nt ne ns v0_faultPlace v0_quashedRows v0_lastRefusal v1_beasts v1_meals v1_seats v1_laws v1_inForce a2 a3 a4 a5 r1.1 r1.2.1 r1.2.2.1 r1.2.2.2.1 r1.2.2.2.2.1 r1.2.2.2.2.2.1 r1.2.2.2.2.2.2.1 r1.2.2.2.2.2.2.2.1 r1.2.2.2.2.2.2.2.2.1 r1.2.2.2.2.2.2.2.2.2.1 v42_steadyBench v42_steadyWays v42_steadySwing r1.2.2.2.2.2.2.2.2.2.2.1 r1.2.2.2.2.2.2.2.2.2.2.2.1 r1.2.2.2.2.2.2.2.2.2.2.2.2.1 r1.2.2.2.2.2.2.2.2.2.2.2.2.2.1 r1.2.2.2.2.2.2.2.2.2.2.2.2.2.2.1 r1.2.2.2.2.2.2.2.2.2.2.2.2.2.2.2 r4.2.1 r4.2.2 aL1 aL2 aL3 aL4)) [] [9, 10, 11, 16, 17] 9 42 dX11_bribed_49 mlX11_270 hw rfl rfl rfl rfl (mX1_winning (hw.pick2 [9, 10, 11, 16, 17] rfl (by decide)) hc4) rfl rfl rfl rfl ⟨Nat.le_of_ble_eq_true rfl, Nat.le_of_ble_eq_true rfl⟩ rfl rfl (Nat.le_of_ble_eq_true rfl) ⟨Nat.le_refl _, Nat.le_refl _⟩ rfl ?_
      cases hf
      exact E.lret dX11_bribed_52 (Nat.le_refl _) (Nat.le_refl _) (pD_rf _ _ _)
    · have hf := e_ift hf h
      refine E.ldc2 dX11_bribed_39 kX11_210 ?_
      cases hf
      exact E.lret dX11_bribed_42 (Nat.le_refl _) (Nat.le_refl _) (pD_rf _ _ _)
set_option maxRecDepth 100000 in
theorem mX11_bribed_L {G : GT} {b : Nat} {q nh nt ne ns : Nat} {c0 : Hp} {n : Nat} (hw : e_wf (kW51 q) n) {v0_faultPlace : Int32} {v0_quashedRows : Int32} {v0_lastRefusal : Int32} {v1_meals : Int32} {v42_steadyBench : Int32} {v42_steadyWays : Int32} {v42_steadySwing : Int64} {Fu : Nat} {v1_beasts : Int32} {v1_seats : Int32} {v1_laws : Int32} {v1_inForce : Int32} {a2 : Nat → Int32} {a3 : Nat → Int32} {a4 : Nat → Int32} {a5 : Nat → Option Nat} {v37_height : Int32} {v37_answer : Int64} {a38 : Nat → Int32} {a39 : Nat → Int64} {v42_beasts : Int32} {v42_seats : Int32} {v42_seated : Int32} {v42_quota : Int32} {v42_known : Int32} {v42_surveyed : Int32} {a43 : Nat → Int32} {a44 : Nat → Int32} {a45 : Nat → Int32} {a46 : Nat → Int32} {a47 : Nat → Int32} {a49 : Nat → Int32} {v67_voters : Int32} {a68 : Nat → Int64} {aL1 : Nat → Int32} {aL2 : Nat → Int32} {aL3 : Nat → Int32} {aL4 : Nat → Int32} {x1 : Int32} {x2 : Int32} {R : Int64 × Int32 × Int64 × (Nat → Int32) × (Nat → Int64) × Int32 × Int32 × Int32 × Int32 × Int32 × Int32 × (Nat → Int32) × (Nat → Int32) × (Nat → Int32) × (Nat → Int32) × (Nat → Int32) × (Nat → Int32) × Int32 × (Nat → Int64)} (hf : fX11_bribed_L Fu nh nt ne ns b q v1_beasts v1_seats v1_laws v1_inForce a2 a3 a4 a5 v37_height v37_answer a38 a39 v42_beasts v42_seats v42_seated v42_quota v42_known v42_surveyed a43 a44 a45 a46 a47 a49 v67_voters a68 aL1 aL2 aL3 aL4 x1 x2 = some R) : e_C G b yX11_bribed cX11_bribed 3 (some .long) 6 0 0 [.ref (b + 0), .int x1, .int x2] (e_ov (kW51 q) (wW51 G b q nh nt ne ns v0_faultPlace v0_quashedRows v0_lastRefusal v1_beasts v1_meals v1_seats v1_laws v1_inForce a2 a3 a4 a5 v37_height v37_answer a38 a39 v42_beasts v42_seats v42_seated v42_quota v42_known v42_surveyed v42_steadyBench v42_steadyWays v42_steadySwing a43 a44 a45 a46 a47 a49 v67_voters a68 aL1 aL2 aL3 aL4) c0) n (pD (some (.long R.1)) (e_ov (kW51 q) (wW51 G b q nh nt ne ns v0_faultPlace v0_quashedRows v0_lastRefusal v1_beasts v1_meals v1_seats v1_laws v1_inForce a2 a3 a4 a5 R.2.1 R.2.2.1 R.2.2.2.1 R.2.2.2.2.1 R.2.2.2.2.2.1 R.2.2.2.2.2.2.1 R.2.2.2.2.2.2.2.1 R.2.2.2.2.2.2.2.2.1 R.2.2.2.2.2.2.2.2.2.1 R.2.2.2.2.2.2.2.2.2.2.1 v42_steadyBench v42_steadyWays v42_steadySwing R.2.2.2.2.2.2.2.2.2.2.2.1 R.2.2.2.2.2.2.2.2.2.2.2.2.1 R.2.2.2.2.2.2.2.2.2.2.2.2.2.1 R.2.2.2.2.2.2.2.2.2.2.2.2.2.2.1 R.2.2.2.2.2.2.2.2.2.2.2.2.2.2.2.1 R.2.2.2.2.2.2.2.2.2.2.2.2.2.2.2.2.1 R.2.2.2.2.2.2.2.2.2.2.2.2.2.2.2.2.2.1 R.2.2.2.2.2.2.2.2.2.2.2.2.2.2.2.2.2.2 aL1 aL2 aL3 aL4) c0) n) := e_C.of (by decide) (Nat.le_of_ble_eq_true rfl) (tX11_bribed_L hw hf)
def fX11_isEither (x0 : Int32) : Option (Int32) := if (x0 : Int32) = (0 : Int32) then (some (1)) else (if (x0 : Int32) = (1 : Int32) then (some (1)) else (some (0)))
set_option maxHeartbeats 4000000 in
set_option maxRecDepth 100000 in
theorem tX11_isEither {G : GT} {b : Nat} {c : Hp} {n : Nat} {x0 : Int32} {R : Int32} (hf : fX11_isEither x0 = some R) : E G b yX11_isEither cX11_isEither 1 (some .boolean) (e_rm 0 0 0) e_X0 (e_Z G b (pD (some (.int R)) c n) 0 0) 0 [(0, .int x0)] [] c n 0 0 := by
  unfold fX11_isEither at hf
  refine E.iload_n 0 dX11_isEither_0 rfl ?_
  refine E.if_eq dX11_isEither_1 (fun h => ?_) (fun h => ?_)
  · have hf := e_ift hf h
    refine E.iconst (v := 1) dX11_isEither_9 (by decide) ?_
    refine E.goto dX11_isEither_10 ?_
    cases hf
    exact E.zret dX11_isEither_14 rfl (Nat.le_refl _) (Nat.le_refl _) (pD_rf _ _ _)
  · have hf := e_iff hf h
    refine E.iload_n 0 dX11_isEither_4 rfl ?_
    refine E.iconst (v := 1) dX11_isEither_5 (by decide) ?_
    refine E.icmp_ne dX11_isEither_6 (fun h => ?_) (fun h => ?_)
    · have hf := e_iff hf h
      refine E.iconst (v := 0) dX11_isEither_13 (by decide) ?_
      cases hf
      exact E.zret dX11_isEither_14 rfl (Nat.le_refl _) (Nat.le_refl _) (pD_rf _ _ _)
    · have hf := e_ift hf h
      refine E.iconst (v := 1) dX11_isEither_9 (by decide) ?_
      refine E.goto dX11_isEither_10 ?_
      cases hf
      exact E.zret dX11_isEither_14 rfl (Nat.le_refl _) (Nat.le_refl _) (pD_rf _ _ _)
set_option maxRecDepth 100000 in
theorem mX11_isEither {G : GT} {b : Nat} {c : Hp} {n : Nat} {x0 : Int32} {R : Int32} (hf : fX11_isEither x0 = some R) : e_C G b yX11_isEither cX11_isEither 1 (some .boolean) 0 0 0 [.int x0] c n (pD (some (.int R)) c n) := e_C.of (by decide) (Nat.le_of_ble_eq_true rfl) (tX11_isEither hf)
def fX1_winningBy (Fu : Nat) (v42_beasts : Int32) (v42_seats : Int32) (v42_quota : Int32) (a43 : Nat → Int32) (a44 : Nat → Int32) (v67_voters : Int32) (a68 : Nat → Int64) (x1 : Int32) (x2 : Int32) (x3 : Int32) : Option (Int64 × Int32 × (Nat → Int64)) := if (x1 : Int32) = (0 : Int32) then ((fX1_winning Fu v42_beasts v42_seats v42_quota a43 a44 v67_voters a68 x2 x3).bind fun r2 => (some (r2.1, r2.2.1, r2.2.2))) else ((fX1_winning Fu v42_beasts v42_seats v42_quota a43 a44 v67_voters a68 x3 x2).bind fun r1 => (some (r1.1, r1.2.1, r1.2.2)))
set_option maxHeartbeats 4000000 in
set_option maxRecDepth 100000 in
theorem tX1_winningBy {G : GT} {b : Nat} {c0 : Hp} {n : Nat} (hw : e_wf (kW48) n) {v42_seated : Int32} {v42_known : Int32} {v42_surveyed : Int32} {v42_steadyBench : Int32} {v42_steadyWays : Int32} {v42_steadySwing : Int64} {Fu : Nat} {v42_beasts : Int32} {v42_seats : Int32} {v42_quota : Int32} {a43 : Nat → Int32} {a44 : Nat → Int32} {v67_voters : Int32} {a68 : Nat → Int64} {x1 : Int32} {x2 : Int32} {x3 : Int32} {R : Int64 × Int32 × (Nat → Int64)} (hf : fX1_winningBy Fu v42_beasts v42_seats v42_quota a43 a44 v67_voters a68 x1 x2 x3 = some R) : E G b yX1_winningBy cX1_winningBy 4 (some .long) (e_rm 4 0 0) e_X0 (e_Z G b (pD (some (.long R.1)) (e_ov (kW48) (wW48 G b v42_beasts v42_seats v42_seated v42_quota v42_known v42_surveyed v42_steadyBench v42_steadyWays v42_steadySwing a43 a44 R.2.1 R.2.2) c0) n) 0 0) 0 [(0, .ref (b + 42)), (1, .int x1), (2, .int x2), (3, .int x3)] [] (e_ov (kW48) (wW48 G b v42_beasts v42_seats v42_seated v42_quota v42_known v42_surveyed v42_steadyBench v42_steadyWays v42_steadySwing a43 a44 v67_voters a68) c0) n 0 0 := by
  unfold fX1_winningBy at hf
  refine E.iload_n 1 dX1_winningBy_0 rfl ?_
  refine E.if_ne dX1_winningBy_1 (fun h => ?_) (fun h => ?_)
  · have hf := e_iff hf h
    refine E.aload_n 0 dX1_winningBy_13 rfl ?_
    refine E.iload_n 3 dX1_winningBy_14 rfl ?_
    refine E.iload_n 2 dX1_winningBy_15 rfl ?_
    obtain ⟨r1, hc1, hf⟩ := e_bind hf
    refine E.callVD [] dX1_winningBy_16 mlX1_124 ⟨hw.sub (p := 0) rfl, e_ov_get hw.1 (p := 0) rfl rfl⟩ rfl rfl (mX1_winning hw hc1) ⟨Nat.le_of_ble_eq_true rfl, Nat.le_of_ble_eq_true rfl⟩ rfl rfl (Nat.le_of_ble_eq_true rfl) ⟨Nat.le_refl _, Nat.le_refl _⟩ rfl ?_
    cases hf
    exact E.lret dX1_winningBy_19 (Nat.le_refl _) (Nat.le_refl _) (pD_rf _ _ _)
  · have hf := e_ift hf h
    refine E.aload_n 0 dX1_winningBy_4 rfl ?_
    refine E.iload_n 2 dX1_winningBy_5 rfl ?_
    refine E.iload_n 3 dX1_winningBy_6 rfl ?_
    obtain ⟨r2, hc2, hf⟩ := e_bind hf
    refine E.callVD [] dX1_winningBy_7 mlX1_124 ⟨hw.sub (p := 0) rfl, e_ov_get hw.1 (p := 0) rfl rfl⟩ rfl rfl (mX1_winning hw hc2) ⟨Nat.le_of_ble_eq_true rfl, Nat.le_of_ble_eq_true rfl⟩ rfl rfl (Nat.le_of_ble_eq_true rfl) ⟨Nat.le_refl _, Nat.le_refl _⟩ rfl ?_
    refine E.goto dX1_winningBy_10 ?_
    cases hf
    exact E.lret dX1_winningBy_19 (Nat.le_refl _) (Nat.le_refl _) (pD_rf _ _ _)
set_option maxRecDepth 100000 in
theorem mX1_winningBy {G : GT} {b : Nat} {c0 : Hp} {n : Nat} (hw : e_wf (kW48) n) {v42_seated : Int32} {v42_known : Int32} {v42_surveyed : Int32} {v42_steadyBench : Int32} {v42_steadyWays : Int32} {v42_steadySwing : Int64} {Fu : Nat} {v42_beasts : Int32} {v42_seats : Int32} {v42_quota : Int32} {a43 : Nat → Int32} {a44 : Nat → Int32} {v67_voters : Int32} {a68 : Nat → Int64} {x1 : Int32} {x2 : Int32} {x3 : Int32} {R : Int64 × Int32 × (Nat → Int64)} (hf : fX1_winningBy Fu v42_beasts v42_seats v42_quota a43 a44 v67_voters a68 x1 x2 x3 = some R) : e_C G b yX1_winningBy cX1_winningBy 4 (some .long) 4 0 0 [.ref (b + 42), .int x1, .int x2, .int x3] (e_ov (kW48) (wW48 G b v42_beasts v42_seats v42_seated v42_quota v42_known v42_surveyed v42_steadyBench v42_steadyWays v42_steadySwing a43 a44 v67_voters a68) c0) n (pD (some (.long R.1)) (e_ov (kW48) (wW48 G b v42_beasts v42_seats v42_seated v42_quota v42_known v42_surveyed v42_steadyBench v42_steadyWays v42_steadySwing a43 a44 R.2.1 R.2.2) c0) n) := e_C.of (by decide) (Nat.le_of_ble_eq_true rfl) (tX1_winningBy hw hf)
def fX1_worth (x0 : Int32) (x1 : Int64) : Option (Int64) := if (x0 : Int32) = (0 : Int32) then (some (x1)) else (some ((-x1)))
set_option maxHeartbeats 4000000 in
set_option maxRecDepth 100000 in
theorem tX1_worth {G : GT} {b : Nat} {c : Hp} {n : Nat} {x0 : Int32} {x1 : Int64} {R : Int64} (hf : fX1_worth x0 x1 = some R) : E G b yX1_worth cX1_worth 3 (some .long) (e_rm 0 0 0) e_X0 (e_Z G b (pD (some (.long R)) c n) 0 0) 0 [(0, .int x0), (1, .long x1)] [] c n 0 0 := by
  unfold fX1_worth at hf
  refine E.iload_n 0 dX1_worth_0 rfl ?_
  refine E.if_ne dX1_worth_1 (fun h => ?_) (fun h => ?_)
  · have hf := e_iff hf h
    refine E.lload_n 1 dX1_worth_8 rfl ?_
    refine E.lneg dX1_worth_9 ?_
    cases hf
    exact E.lret dX1_worth_10 (Nat.le_refl _) (Nat.le_refl _) (pD_rf _ _ _)
  · have hf := e_ift hf h
    refine E.lload_n 1 dX1_worth_4 rfl ?_
    refine E.goto dX1_worth_5 ?_
    cases hf
    exact E.lret dX1_worth_10 (Nat.le_refl _) (Nat.le_refl _) (pD_rf _ _ _)
set_option maxRecDepth 100000 in
theorem mX1_worth {G : GT} {b : Nat} {c : Hp} {n : Nat} {x0 : Int32} {x1 : Int64} {R : Int64} (hf : fX1_worth x0 x1 = some R) : e_C G b yX1_worth cX1_worth 3 (some .long) 0 0 0 [.int x0, .long x1] c n (pD (some (.long R)) c n) := e_C.of (by decide) (Nat.le_of_ble_eq_true rfl) (tX1_worth hf)
abbrev kW52 : List Nat := [42, 43, 44, 46, 47, 67, 68]
abbrev wW52 (G : GT) (b  : Nat) (v42_beasts : Int32) (v42_seats : Int32) (v42_seated : Int32) (v42_quota : Int32) (v42_known : Int32) (v42_surveyed : Int32) (v42_steadyBench : Int32) (v42_steadyWays : Int32) (v42_steadySwing : Int64) (a43 : Nat → Int32) (a44 : Nat → Int32) (a46 : Nat → Int32) (a47 : Nat → Int32) (v67_voters : Int32) (a68 : Nat → Int64) : List va_E := [.inr (1, [.ref (b + 43), .ref (b + 44), .ref (b + 45), .ref (b + 46), .ref (b + 47), .ref (b + 48), .ref (b + 49), .ref (b + 50), .ref (b + 67), .int v42_beasts, .int v42_seats, .int v42_seated, .int v42_quota, .int v42_known, .int v42_surveyed, .int v42_steadyBench, .int v42_steadyWays, .long v42_steadySwing]), aI G 32 a43, aI G 8 a44, aI G 512 a46, aI G 2 a47, .inr (8, [.ref (b + 68), .int v67_voters]), aJ G 9 a68]
def fX1_bestReply_L75 (Fu : Nat) (k10 : Int32 → Int32 → Int32 → (Nat → Int32) → (Nat → Int32) → (Nat → Int32) → (Nat → Int32) → Int32 → (Nat → Int64) → Int32 → Int32 → Int32 → Int64 → Int32 → Option (Int32 × Int32 × (Nat → Int64))) (v42_beasts : Int32) (v42_seats : Int32) (v42_quota : Int32) (a43 : Nat → Int32) (a44 : Nat → Int32) (a46 : Nat → Int32) (a47 : Nat → Int32) (v67_voters : Int32) (a68 : Nat → Int64) (x1 : Int32) (x2 : Int32) (x6 : Int32) (x7 : Int64) : Option (Int32 × Int32 × (Nat → Int64)) := k10 v42_beasts v42_seats v42_quota a43 a44 a46 a47 v67_voters a68 x1 x2 x6 x7 (x6 + 1)
set_option maxHeartbeats 4000000 in
set_option maxRecDepth 100000 in
theorem tX1_bestReply_L75 {G : GT} {b : Nat} {c0 : Hp} {n : Nat} (hw : e_wf (kW52) n) {v42_seated : Int32} {v42_known : Int32} {v42_surveyed : Int32} {v42_steadyBench : Int32} {v42_steadyWays : Int32} {v42_steadySwing : Int64} {Fu : Nat} {k10 : Int32 → Int32 → Int32 → (Nat → Int32) → (Nat → Int32) → (Nat → Int32) → (Nat → Int32) → Int32 → (Nat → Int64) → Int32 → Int32 → Int32 → Int64 → Int32 → Option (Int32 × Int32 × (Nat → Int64))} (hk10 : ∀ {v42_beasts : Int32} {v42_seats : Int32} {v42_quota : Int32} {a43 : Nat → Int32} {a44 : Nat → Int32} {a46 : Nat → Int32} {a47 : Nat → Int32} {v67_voters : Int32} {a68 : Nat → Int64} {x1 : Int32} {x2 : Int32} {x3 : Int32} {x4 : Int64} {x6 : Int32} {R : Int32 × Int32 × (Nat → Int64)}, k10 v42_beasts v42_seats v42_quota a43 a44 a46 a47 v67_voters a68 x1 x2 x3 x4 x6 = some R → E G b yX1_bestReply cX1_bestReply 9 (some .int) (e_rm 5 0 0) e_X0 (e_Z G b (pD (some (.int R.1)) (e_ov (kW52) (wW52 G b v42_beasts v42_seats v42_seated v42_quota v42_known v42_surveyed v42_steadyBench v42_steadyWays v42_steadySwing a43 a44 a46 a47 R.2.1 R.2.2) c0) n) 0 0) 10 [(0, .ref (b + 42)), (1, .int x1), (2, .int x2), (3, .int x3), (4, .long x4), (6, .int x6)] [] (e_ov (kW52) (wW52 G b v42_beasts v42_seats v42_seated v42_quota v42_known v42_surveyed v42_steadyBench v42_steadyWays v42_steadySwing a43 a44 a46 a47 v67_voters a68) c0) n 0 0) {v42_beasts : Int32} {v42_seats : Int32} {v42_quota : Int32} {a43 : Nat → Int32} {a44 : Nat → Int32} {a46 : Nat → Int32} {a47 : Nat → Int32} {v67_voters : Int32} {a68 : Nat → Int64} {x1 : Int32} {x2 : Int32} {x6 : Int32} {x7 : Int64} {R : Int32 × Int32 × (Nat → Int64)} (hf : fX1_bestReply_L75 Fu k10 v42_beasts v42_seats v42_quota a43 a44 a46 a47 v67_voters a68 x1 x2 x6 x7 = some R) : E G b yX1_bestReply cX1_bestReply 9 (some .int) (e_rm 5 0 0) e_X0 (e_Z G b (pD (some (.int R.1)) (e_ov (kW52) (wW52 G b v42_beasts v42_seats v42_seated v42_quota v42_known v42_surveyed v42_steadyBench v42_steadyWays v42_steadySwing a43 a44 a46 a47 R.2.1 R.2.2) c0) n) 0 0) 75 [(0, .ref (b + 42)), (1, .int x1), (2, .int x2), (6, .int x6), (7, .long x7)] [] (e_ov (kW52) (wW52 G b v42_beasts v42_seats v42_seated v42_quota v42_known v42_surveyed v42_steadyBench v42_steadyWays v42_steadySwing a43 a44 a46 a47 v67_voters a68) c0) n 0 0 := by
  unfold fX1_bestReply_L75 at hf
  refine E.lload 4 dX1_bestReply_75 rfl ?_
  refine E.lstore (lv' := [(4, .long x7), (0, .ref (b + 42)), (1, .int x1), (2, .int x2), (6, .int x6), (7, .long x7)]) dX1_bestReply_77 (by decide) rfl ?_
  refine E.iload 4 dX1_bestReply_79 rfl ?_
  refine E.istore_n (lv' := [(3, .int x6), (4, .long x7), (0, .ref (b + 42)), (1, .int x1), (2, .int x2), (6, .int x6), (7, .long x7)]) dX1_bestReply_81 (by decide) rfl ?_
  refine E.iinc (q := 5) (v := (x6 + 1)) (lv' := [(6, .int (x6 + 1)), (3, .int x6), (4, .long x7), (0, .ref (b + 42)), (1, .int x1), (2, .int x2), (7, .long x7)]) dX1_bestReply_82 rfl rfl (by decide) rfl ?_
  refine E.goto dX1_bestReply_85 ?_
  refine E.locals [3, 4, 5, 1, 2, 0] rfl ?_
  exact hk10 hf
def fX1_bestReply_L10 (Fu : Nat) : Nat → Int32 → Int32 → Int32 → (Nat → Int32) → (Nat → Int32) → (Nat → Int32) → (Nat → Int32) → Int32 → (Nat → Int64) → Int32 → Int32 → Int32 → Int64 → Int32 → Option (Int32 × Int32 × (Nat → Int64))
  | 0, _, _, _, _, _, _, _, _, _, _, _, _, _, _ => none
  | k + 1, v42_beasts, v42_seats, v42_quota, a43, a44, a46, a47, v67_voters, a68, x1, x2, x3, x4, x6 => if (v42_seats : Int32) < (x6 : Int32) then (some (x3, v67_voters, a68)) else ((fX1_can v42_seats a46 a47 x1 x6).bind fun r1 => (if (r1 : Int32) = (0 : Int32) then ((fX1_bestReply_L10 Fu k) v42_beasts v42_seats v42_quota a43 a44 a46 a47 v67_voters a68 x1 x2 x3 x4 (x6 + 1)) else ((fX1_winningBy Fu v42_beasts v42_seats v42_quota a43 a44 v67_voters a68 x1 x6 x2).bind fun r2 => ((fX1_worth x1 r2.1).bind fun r3 => (if (x4 : Int64) < (r3 : Int64) then (fX1_bestReply_L75 Fu (fX1_bestReply_L10 Fu k) v42_beasts v42_seats v42_quota a43 a44 a46 a47 r2.2.1 r2.2.2 x1 x2 x6 r3) else (if (r3 : Int64) = (x4 : Int64) then ((fX1_cost a46 x1 x6).bind fun r4 => ((fX1_cost a46 x1 x3).bind fun r5 => (if (r5 : Int32) ≤ (r4 : Int32) then ((fX1_bestReply_L10 Fu k) v42_beasts v42_seats v42_quota a43 a44 a46 a47 r2.2.1 r2.2.2 x1 x2 x3 x4 (x6 + 1)) else (fX1_bestReply_L75 Fu (fX1_bestReply_L10 Fu k) v42_beasts v42_seats v42_quota a43 a44 a46 a47 r2.2.1 r2.2.2 x1 x2 x6 r3)))) else ((fX1_bestReply_L10 Fu k) v42_beasts v42_seats v42_quota a43 a44 a46 a47 r2.2.1 r2.2.2 x1 x2 x3 x4 (x6 + 1))))))))
set_option maxHeartbeats 4000000 in
set_option maxRecDepth 100000 in
theorem tX1_bestReply_L10 {G : GT} {b : Nat} {c0 : Hp} {n : Nat} (hw : e_wf (kW52) n) {v42_seated : Int32} {v42_known : Int32} {v42_surveyed : Int32} {v42_steadyBench : Int32} {v42_steadyWays : Int32} {v42_steadySwing : Int64} {Fu : Nat} : ∀ (k : Nat) {v42_beasts : Int32} {v42_seats : Int32} {v42_quota : Int32} {a43 : Nat → Int32} {a44 : Nat → Int32} {a46 : Nat → Int32} {a47 : Nat → Int32} {v67_voters : Int32} {a68 : Nat → Int64} {x1 : Int32} {x2 : Int32} {x3 : Int32} {x4 : Int64} {x6 : Int32} {R : Int32 × Int32 × (Nat → Int64)}, fX1_bestReply_L10 Fu k v42_beasts v42_seats v42_quota a43 a44 a46 a47 v67_voters a68 x1 x2 x3 x4 x6 = some R → E G b yX1_bestReply cX1_bestReply 9 (some .int) (e_rm 5 0 0) e_X0 (e_Z G b (pD (some (.int R.1)) (e_ov (kW52) (wW52 G b v42_beasts v42_seats v42_seated v42_quota v42_known v42_surveyed v42_steadyBench v42_steadyWays v42_steadySwing a43 a44 a46 a47 R.2.1 R.2.2) c0) n) 0 0) 10 [(0, .ref (b + 42)), (1, .int x1), (2, .int x2), (3, .int x3), (4, .long x4), (6, .int x6)] [] (e_ov (kW52) (wW52 G b v42_beasts v42_seats v42_seated v42_quota v42_known v42_surveyed v42_steadyBench v42_steadyWays v42_steadySwing a43 a44 a46 a47 v67_voters a68) c0) n 0 0 := by
  intro k
  induction k with
  | zero =>
    intro _ _ _ _ _ _ _ _ _ _ _ _ _ _ _ hf
    have hf : (none : Option (Int32 × Int32 × (Nat → Int64))) = some _ := hf
    cases hf
  | succ k ih =>
    intro v42_beasts v42_seats v42_quota a43 a44 a46 a47 v67_voters a68 x1 x2 x3 x4 x6 R hf
    rw [fX1_bestReply_L10] at hf
    refine E.iload 5 dX1_bestReply_10 rfl ?_
    refine E.aload_n 0 dX1_bestReply_12 rfl ?_
    refine E.get hw 0 42 dX1_bestReply_13 flX1_62 rfl rfl rfl rfl ?_
    refine E.icmp_gt dX1_bestReply_16 (fun h => ?_) (fun h => ?_)
    · have hf := e_ift hf h
      refine E.iload_n 3 dX1_bestReply_88 rfl ?_
      cases hf
      exact E.iret dX1_bestReply_89 (Nat.le_refl _) (Nat.le_refl _) (pD_rf _ _ _)
    · have hf := e_iff hf h
      refine E.aload_n 0 dX1_bestReply_19 rfl ?_
      refine E.iload_n 1 dX1_bestReply_20 rfl ?_
      refine E.iload 5 dX1_bestReply_21 rfl ?_
      obtain ⟨r1, hc1, hf⟩ := e_bind hf
      refine E.callVDs (es' := (wW52 G b v42_beasts v42_seats v42_seated v42_quota v42_known v42_surveyed v42_steadyBench v42_steadyWays v42_steadySwing a43 a44 a46 a47 v67_voters a68)) [] [0, 3, 4] 0 42 dX1_bestReply_23 mlX1_132 hw rfl rfl rfl rfl (mX1_can (hw.pick2 [0, 3, 4] rfl (by decide)) hc1) rfl rfl rfl rfl ⟨Nat.le_of_ble_eq_true rfl, Nat.le_of_ble_eq_true rfl⟩ rfl rfl (Nat.le_of_ble_eq_true rfl) ⟨Nat.le_refl _, Nat.le_refl _⟩ rfl ?_
      refine E.if_eq dX1_bestReply_26 (fun h => ?_) (fun h => ?_)
      · have hf := e_ift hf h
        refine E.iinc (q := 5) (v := (x6 + 1)) (lv' := [(6, .int (x6 + 1)), (0, .ref (b + 42)), (1, .int x1), (2, .int x2), (3, .int x3), (4, .long x4)]) dX1_bestReply_82 rfl rfl (by decide) rfl ?_
        refine E.goto dX1_bestReply_85 ?_
        refine E.locals [1, 2, 3, 4, 5, 0] rfl ?_
        exact ih hf
      · have hf := e_iff hf h
        refine E.iload_n 1 dX1_bestReply_29 rfl ?_
        refine E.aload_n 0 dX1_bestReply_30 rfl ?_
        refine E.iload_n 1 dX1_bestReply_31 rfl ?_
        refine E.iload 5 dX1_bestReply_32 rfl ?_
        refine E.iload_n 2 dX1_bestReply_34 rfl ?_
        obtain ⟨r2, hc2, hf⟩ := e_bind hf
        refine E.callVDs (es' := (wW52 G b v42_beasts v42_seats v42_seated v42_quota v42_known v42_surveyed v42_steadyBench v42_steadyWays v42_steadySwing a43 a44 a46 a47 r2.2.1 r2.2.2)) [.int x1] [0, 1, 2, 5, 6] 0 42 dX1_bestReply_35 mlX1_135 hw rfl rfl rfl rfl (mX1_winningBy (hw.pick2 [0, 1, 2, 5, 6] rfl (by decide)) hc2) rfl rfl rfl rfl ⟨Nat.le_of_ble_eq_true rfl, Nat.le_of_ble_eq_true rfl⟩ rfl rfl (Nat.le_of_ble_eq_true rfl) ⟨Nat.le_refl _, Nat.le_refl _⟩ rfl ?_
        obtain ⟨r3, hc3, hf⟩ := e_bind hf
        refine E.callSD [] dX1_bestReply_38 mlX1_139 (mX1_worth hc3) ⟨Nat.le_of_ble_eq_true rfl, Nat.le_of_ble_eq_true rfl⟩ rfl rfl (Nat.le_of_ble_eq_true rfl) ⟨Nat.le_refl _, Nat.le_refl _⟩ rfl ?_
        refine E.lstore (lv' := [(7, .long r3), (0, .ref (b + 42)), (1, .int x1), (2, .int x2), (3, .int x3), (4, .long x4), (6, .int x6)]) dX1_bestReply_41 (by decide) rfl ?_
        refine E.lload 0 dX1_bestReply_43 rfl ?_
        refine E.lload 5 dX1_bestReply_45 rfl ?_
        refine E.lc_gt dX1_bestReply_47 dX1_bestReply_48 (fun h => ?_) (fun h => ?_)
        · have hf := e_ift hf h
          refine E.locals [1, 2, 3, 6, 0] rfl ?_
          exact tX1_bestReply_L75 hw ih hf
        · have hf := e_iff hf h
          refine E.lload 0 dX1_bestReply_51 rfl ?_
          refine E.lload 5 dX1_bestReply_53 rfl ?_
          refine E.lc_ne dX1_bestReply_55 dX1_bestReply_56 (fun h => ?_) (fun h => ?_)
          · have hf := e_iff hf h
            refine E.iinc (q := 6) (v := (x6 + 1)) (lv' := [(6, .int (x6 + 1)), (7, .long r3), (0, .ref (b + 42)), (1, .int x1), (2, .int x2), (3, .int x3), (4, .long x4)]) dX1_bestReply_82 rfl rfl (by decide) rfl ?_
            refine E.goto dX1_bestReply_85 ?_
            refine E.locals [2, 3, 4, 5, 6, 0] rfl ?_
            exact ih hf
          · have hf := e_ift hf h
            refine E.aload_n 1 dX1_bestReply_59 rfl ?_
            refine E.iload_n 2 dX1_bestReply_60 rfl ?_
            refine E.iload 6 dX1_bestReply_61 rfl ?_
            obtain ⟨r4, hc4, hf⟩ := e_bind hf
            refine E.callVDs (es' := (wW52 G b v42_beasts v42_seats v42_seated v42_quota v42_known v42_surveyed v42_steadyBench v42_steadyWays v42_steadySwing a43 a44 a46 a47 r2.2.1 r2.2.2)) [] [0, 3] 0 42 dX1_bestReply_63 mlX1_100 hw rfl rfl rfl rfl (mX1_cost (hw.pick2 [0, 3] rfl (by decide)) hc4) rfl rfl rfl rfl ⟨Nat.le_of_ble_eq_true rfl, Nat.le_of_ble_eq_true rfl⟩ rfl rfl (Nat.le_of_ble_eq_true rfl) ⟨Nat.le_refl _, Nat.le_refl _⟩ rfl ?_
            refine E.aload_n 1 dX1_bestReply_66 rfl ?_
            refine E.iload_n 2 dX1_bestReply_67 rfl ?_
            refine E.iload_n 4 dX1_bestReply_68 rfl ?_
            obtain ⟨r5, hc5, hf⟩ := e_bind hf
            refine E.callVDs (es' := (wW52 G b v42_beasts v42_seats v42_seated v42_quota v42_known v42_surveyed v42_steadyBench v42_steadyWays v42_steadySwing a43 a44 a46 a47 r2.2.1 r2.2.2)) [.int r4] [0, 3] 0 42 dX1_bestReply_69 mlX1_100 hw rfl rfl rfl rfl (mX1_cost (hw.pick2 [0, 3] rfl (by decide)) hc5) rfl rfl rfl rfl ⟨Nat.le_of_ble_eq_true rfl, Nat.le_of_ble_eq_true rfl⟩ rfl rfl (Nat.le_of_ble_eq_true rfl) ⟨Nat.le_refl _, Nat.le_refl _⟩ rfl ?_
            refine E.icmp_ge dX1_bestReply_72 (fun h => ?_) (fun h => ?_)
            · have hf := e_ift hf h
              refine E.iinc (q := 6) (v := (x6 + 1)) (lv' := [(6, .int (x6 + 1)), (7, .long r3), (0, .ref (b + 42)), (1, .int x1), (2, .int x2), (3, .int x3), (4, .long x4)]) dX1_bestReply_82 rfl rfl (by decide) rfl ?_
              refine E.goto dX1_bestReply_85 ?_
              refine E.locals [2, 3, 4, 5, 6, 0] rfl ?_
              exact ih hf
            · have hf := e_iff hf h
              refine E.locals [1, 2, 3, 6, 0] rfl ?_
              exact tX1_bestReply_L75 hw ih hf
def fX1_bestReply (Fu : Nat) (v42_beasts : Int32) (v42_seats : Int32) (v42_quota : Int32) (a43 : Nat → Int32) (a44 : Nat → Int32) (a46 : Nat → Int32) (a47 : Nat → Int32) (v67_voters : Int32) (a68 : Nat → Int64) (x1 : Int32) (x2 : Int32) : Option (Int32 × Int32 × (Nat → Int64)) := fX1_bestReply_L10 Fu Fu v42_beasts v42_seats v42_quota a43 a44 a46 a47 v67_voters a68 x1 x2 0 (-9223372036854775808 : Int64) 0
set_option maxHeartbeats 4000000 in
set_option maxRecDepth 100000 in
theorem tX1_bestReply {G : GT} {b : Nat} {c0 : Hp} {n : Nat} (hw : e_wf (kW52) n) {v42_seated : Int32} {v42_known : Int32} {v42_surveyed : Int32} {v42_steadyBench : Int32} {v42_steadyWays : Int32} {v42_steadySwing : Int64} {Fu : Nat} {v42_beasts : Int32} {v42_seats : Int32} {v42_quota : Int32} {a43 : Nat → Int32} {a44 : Nat → Int32} {a46 : Nat → Int32} {a47 : Nat → Int32} {v67_voters : Int32} {a68 : Nat → Int64} {x1 : Int32} {x2 : Int32} {R : Int32 × Int32 × (Nat → Int64)} (hf : fX1_bestReply Fu v42_beasts v42_seats v42_quota a43 a44 a46 a47 v67_voters a68 x1 x2 = some R) : E G b yX1_bestReply cX1_bestReply 9 (some .int) (e_rm 5 0 0) e_X0 (e_Z G b (pD (some (.int R.1)) (e_ov (kW52) (wW52 G b v42_beasts v42_seats v42_seated v42_quota v42_known v42_surveyed v42_steadyBench v42_steadyWays v42_steadySwing a43 a44 a46 a47 R.2.1 R.2.2) c0) n) 0 0) 0 [(0, .ref (b + 42)), (1, .int x1), (2, .int x2)] [] (e_ov (kW52) (wW52 G b v42_beasts v42_seats v42_seated v42_quota v42_known v42_surveyed v42_steadyBench v42_steadyWays v42_steadySwing a43 a44 a46 a47 v67_voters a68) c0) n 0 0 := by
  unfold fX1_bestReply at hf
  refine E.iconst (v := 0) dX1_bestReply_0 (by decide) ?_
  refine E.istore_n (lv' := [(3, .int 0), (0, .ref (b + 42)), (1, .int x1), (2, .int x2)]) dX1_bestReply_1 (by decide) rfl ?_
  refine E.ldc2 dX1_bestReply_2 kX1_130 ?_
  refine E.lstore (lv' := [(4, .long (-9223372036854775808 : Int64)), (3, .int 0), (0, .ref (b + 42)), (1, .int x1), (2, .int x2)]) dX1_bestReply_5 (by decide) rfl ?_
  refine E.iconst (v := 0) dX1_bestReply_7 (by decide) ?_
  refine E.istore (lv' := [(6, .int 0), (4, .long (-9223372036854775808 : Int64)), (3, .int 0), (0, .ref (b + 42)), (1, .int x1), (2, .int x2)]) dX1_bestReply_8 (by decide) rfl ?_
  refine E.locals [3, 4, 5, 2, 1, 0] rfl ?_
  exact tX1_bestReply_L10 hw _ hf
set_option maxRecDepth 100000 in
theorem mX1_bestReply {G : GT} {b : Nat} {c0 : Hp} {n : Nat} (hw : e_wf (kW52) n) {v42_seated : Int32} {v42_known : Int32} {v42_surveyed : Int32} {v42_steadyBench : Int32} {v42_steadyWays : Int32} {v42_steadySwing : Int64} {Fu : Nat} {v42_beasts : Int32} {v42_seats : Int32} {v42_quota : Int32} {a43 : Nat → Int32} {a44 : Nat → Int32} {a46 : Nat → Int32} {a47 : Nat → Int32} {v67_voters : Int32} {a68 : Nat → Int64} {x1 : Int32} {x2 : Int32} {R : Int32 × Int32 × (Nat → Int64)} (hf : fX1_bestReply Fu v42_beasts v42_seats v42_quota a43 a44 a46 a47 v67_voters a68 x1 x2 = some R) : e_C G b yX1_bestReply cX1_bestReply 9 (some .int) 5 0 0 [.ref (b + 42), .int x1, .int x2] (e_ov (kW52) (wW52 G b v42_beasts v42_seats v42_seated v42_quota v42_known v42_surveyed v42_steadyBench v42_steadyWays v42_steadySwing a43 a44 a46 a47 v67_voters a68) c0) n (pD (some (.int R.1)) (e_ov (kW52) (wW52 G b v42_beasts v42_seats v42_seated v42_quota v42_known v42_surveyed v42_steadyBench v42_steadyWays v42_steadySwing a43 a44 a46 a47 R.2.1 R.2.2) c0) n) := e_C.of (by decide) (Nat.le_of_ble_eq_true rfl) (tX1_bestReply hw hf)
def fX1_told (a46 : Nat → Int32) (x1 : Int32) (x2 : Int32) (x3 : Int32) : Option (Int32) := if (x2 : Int32) = ((-1 : Int32) : Int32) then (some (x2)) else (if (x3 : Int32) = (0 : Int32) then (some (x2)) else ((fX1_cost a46 x1 x2).bind fun r1 => (some (r1))))
set_option maxHeartbeats 4000000 in
set_option maxRecDepth 100000 in
theorem tX1_told {G : GT} {b : Nat} {c0 : Hp} {n : Nat} (hw : e_wf (kW45) n) {v42_beasts : Int32} {v42_seats : Int32} {v42_seated : Int32} {v42_quota : Int32} {v42_known : Int32} {v42_surveyed : Int32} {v42_steadyBench : Int32} {v42_steadyWays : Int32} {v42_steadySwing : Int64} {a46 : Nat → Int32} {x1 : Int32} {x2 : Int32} {x3 : Int32} {R : Int32} (hf : fX1_told a46 x1 x2 x3 = some R) : E G b yX1_told cX1_told 4 (some .int) (e_rm 1 0 0) e_X0 (e_Z G b (pD (some (.int R)) (e_ov (kW45) (wW45 G b v42_beasts v42_seats v42_seated v42_quota v42_known v42_surveyed v42_steadyBench v42_steadyWays v42_steadySwing a46) c0) n) 0 0) 0 [(0, .ref (b + 42)), (1, .int x1), (2, .int x2), (3, .int x3)] [] (e_ov (kW45) (wW45 G b v42_beasts v42_seats v42_seated v42_quota v42_known v42_surveyed v42_steadyBench v42_steadyWays v42_steadySwing a46) c0) n 0 0 := by
  unfold fX1_told at hf
  refine E.iload_n 2 dX1_told_0 rfl ?_
  refine E.iconst (v := -1) dX1_told_1 (by decide) ?_
  refine E.icmp_eq dX1_told_2 (fun h => ?_) (fun h => ?_)
  · have hf := e_ift hf h
    refine E.iload_n 2 dX1_told_9 rfl ?_
    refine E.goto dX1_told_10 ?_
    cases hf
    exact E.iret dX1_told_19 (Nat.le_refl _) (Nat.le_refl _) (pD_rf _ _ _)
  · have hf := e_iff hf h
    refine E.iload_n 3 dX1_told_5 rfl ?_
    refine E.if_ne dX1_told_6 (fun h => ?_) (fun h => ?_)
    · have hf := e_iff hf h
      refine E.aload_n 0 dX1_told_13 rfl ?_
      refine E.iload_n 1 dX1_told_14 rfl ?_
      refine E.iload_n 2 dX1_told_15 rfl ?_
      obtain ⟨r1, hc1, hf⟩ := e_bind hf
      refine E.callVD [] dX1_told_16 mlX1_100 ⟨hw.sub (p := 0) rfl, e_ov_get hw.1 (p := 0) rfl rfl⟩ rfl rfl (mX1_cost hw hc1) ⟨Nat.le_of_ble_eq_true rfl, Nat.le_of_ble_eq_true rfl⟩ rfl rfl (Nat.le_of_ble_eq_true rfl) ⟨Nat.le_refl _, Nat.le_refl _⟩ rfl ?_
      cases hf
      exact E.iret dX1_told_19 (Nat.le_refl _) (Nat.le_refl _) (pD_rf _ _ _)
    · have hf := e_ift hf h
      refine E.iload_n 2 dX1_told_9 rfl ?_
      refine E.goto dX1_told_10 ?_
      cases hf
      exact E.iret dX1_told_19 (Nat.le_refl _) (Nat.le_refl _) (pD_rf _ _ _)
set_option maxRecDepth 100000 in
theorem mX1_told {G : GT} {b : Nat} {c0 : Hp} {n : Nat} (hw : e_wf (kW45) n) {v42_beasts : Int32} {v42_seats : Int32} {v42_seated : Int32} {v42_quota : Int32} {v42_known : Int32} {v42_surveyed : Int32} {v42_steadyBench : Int32} {v42_steadyWays : Int32} {v42_steadySwing : Int64} {a46 : Nat → Int32} {x1 : Int32} {x2 : Int32} {x3 : Int32} {R : Int32} (hf : fX1_told a46 x1 x2 x3 = some R) : e_C G b yX1_told cX1_told 4 (some .int) 1 0 0 [.ref (b + 42), .int x1, .int x2, .int x3] (e_ov (kW45) (wW45 G b v42_beasts v42_seats v42_seated v42_quota v42_known v42_surveyed v42_steadyBench v42_steadyWays v42_steadySwing a46) c0) n (pD (some (.int R)) (e_ov (kW45) (wW45 G b v42_beasts v42_seats v42_seated v42_quota v42_known v42_surveyed v42_steadyBench v42_steadyWays v42_steadySwing a46) c0) n) := e_C.of (by decide) (Nat.le_of_ble_eq_true rfl) (tX1_told hw hf)
def fX11_reply_N (Fu : Nat) (v1_beasts : Int32) (v1_seats : Int32) (v1_laws : Int32) (v1_inForce : Int32) (a2 : Nat → Int32) (a3 : Nat → Int32) (a4 : Nat → Int32) (a5 : Nat → Option Nat) (a38 : Nat → Int32) (v42_beasts : Int32) (v42_seats : Int32) (v42_seated : Int32) (v42_quota : Int32) (v42_known : Int32) (v42_surveyed : Int32) (a43 : Nat → Int32) (a44 : Nat → Int32) (a45 : Nat → Int32) (a46 : Nat → Int32) (a47 : Nat → Int32) (a49 : Nat → Int32) (v67_voters : Int32) (a68 : Nat → Int64) (x1 : Int32) (x2 : Int32) (x3 : Int32) : Option (Int32 × (Nat → Int32) × Int32 × Int32 × Int32 × Int32 × Int32 × Int32 × (Nat → Int32) × (Nat → Int32) × (Nat → Int32) × (Nat → Int32) × (Nat → Int32) × (Nat → Int32) × Int32 × (Nat → Int64)) := (fX11_isSide x1).bind fun r1 => (if (r1 : Int32) = (0 : Int32) then (some ((-1 : Int32), a38, v42_beasts, v42_seats, v42_seated, v42_quota, v42_known, v42_surveyed, a43, a44, a45, a46, a47, a49, v67_voters, a68)) else ((fX11_isEither x3).bind fun r2 => (if (r2 : Int32) = (0 : Int32) then (some ((-1 : Int32), a38, v42_beasts, v42_seats, v42_seated, v42_quota, v42_known, v42_surveyed, a43, a44, a45, a46, a47, a49, v67_voters, a68)) else ((fX1_learn_N Fu v1_beasts v1_seats v1_laws v1_inForce a2 a3 a4 a5 a38 v42_beasts v42_seats v42_seated v42_quota v42_known v42_surveyed a43 a44 a45 a46 a47 a49).bind fun r3 => ((fX1_can r3.2.2.1 r3.2.2.2.2.2.2.2.2.2.2.1 r3.2.2.2.2.2.2.2.2.2.2.2.1 (1 - x1) x2).bind fun r4 => (if (r4 : Int32) = (0 : Int32) then (some ((-1 : Int32), r3.1, r3.2.1, r3.2.2.1, r3.2.2.2.1, r3.2.2.2.2.1, r3.2.2.2.2.2.1, r3.2.2.2.2.2.2.1, r3.2.2.2.2.2.2.2.1, r3.2.2.2.2.2.2.2.2.1, r3.2.2.2.2.2.2.2.2.2.1, r3.2.2.2.2.2.2.2.2.2.2.1, r3.2.2.2.2.2.2.2.2.2.2.2.1, r3.2.2.2.2.2.2.2.2.2.2.2.2, v67_voters, a68)) else ((fX1_bestReply Fu r3.2.1 r3.2.2.1 r3.2.2.2.2.1 r3.2.2.2.2.2.2.2.1 r3.2.2.2.2.2.2.2.2.1 r3.2.2.2.2.2.2.2.2.2.2.1 r3.2.2.2.2.2.2.2.2.2.2.2.1 v67_voters a68 x1 x2).bind fun r5 => ((fX1_told r3.2.2.2.2.2.2.2.2.2.2.1 x1 r5.1 x3).bind fun r6 => (some (r6, r3.1, r3.2.1, r3.2.2.1, r3.2.2.2.1, r3.2.2.2.2.1, r3.2.2.2.2.2.1, r3.2.2.2.2.2.2.1, r3.2.2.2.2.2.2.2.1, r3.2.2.2.2.2.2.2.2.1, r3.2.2.2.2.2.2.2.2.2.1, r3.2.2.2.2.2.2.2.2.2.2.1, r3.2.2.2.2.2.2.2.2.2.2.2.1, r3.2.2.2.2.2.2.2.2.2.2.2.2, r5.2.1, r5.2.2))))))))))
set_option maxHeartbeats 4000000 in
set_option maxRecDepth 100000 in
theorem tX11_reply_N {G : GT} {b : Nat} {c0 : Hp} {n : Nat} (hw : e_wf (kW49) n) {v0_faultPlace : Int32} {v0_quashedRows : Int32} {v0_lastRefusal : Int32} {v1_meals : Int32} {v37_height : Int32} {v37_answer : Int64} {v42_steadyBench : Int32} {v42_steadyWays : Int32} {v42_steadySwing : Int64} {Fu : Nat} {v1_beasts : Int32} {v1_seats : Int32} {v1_laws : Int32} {v1_inForce : Int32} {a2 : Nat → Int32} {a3 : Nat → Int32} {a4 : Nat → Int32} {a5 : Nat → Option Nat} {a38 : Nat → Int32} {v42_beasts : Int32} {v42_seats : Int32} {v42_seated : Int32} {v42_quota : Int32} {v42_known : Int32} {v42_surveyed : Int32} {a43 : Nat → Int32} {a44 : Nat → Int32} {a45 : Nat → Int32} {a46 : Nat → Int32} {a47 : Nat → Int32} {a49 : Nat → Int32} {v67_voters : Int32} {a68 : Nat → Int64} {x1 : Int32} {x2 : Int32} {x3 : Int32} {R : Int32 × (Nat → Int32) × Int32 × Int32 × Int32 × Int32 × Int32 × Int32 × (Nat → Int32) × (Nat → Int32) × (Nat → Int32) × (Nat → Int32) × (Nat → Int32) × (Nat → Int32) × Int32 × (Nat → Int64)} (hf : fX11_reply_N Fu v1_beasts v1_seats v1_laws v1_inForce a2 a3 a4 a5 a38 v42_beasts v42_seats v42_seated v42_quota v42_known v42_surveyed a43 a44 a45 a46 a47 a49 v67_voters a68 x1 x2 x3 = some R) : E G b yX11_reply cX11_reply 4 (some .int) (e_rm 6 0 0) e_X0 (e_Z G b (pD (some (.int R.1)) (e_ov (kW49) (wW49 G b v0_faultPlace v0_quashedRows v0_lastRefusal v1_beasts v1_meals v1_seats v1_laws v1_inForce a2 a3 a4 a5 v37_height v37_answer R.2.1 R.2.2.1 R.2.2.2.1 R.2.2.2.2.1 R.2.2.2.2.2.1 R.2.2.2.2.2.2.1 R.2.2.2.2.2.2.2.1 v42_steadyBench v42_steadyWays v42_steadySwing R.2.2.2.2.2.2.2.2.1 R.2.2.2.2.2.2.2.2.2.1 R.2.2.2.2.2.2.2.2.2.2.1 R.2.2.2.2.2.2.2.2.2.2.2.1 R.2.2.2.2.2.2.2.2.2.2.2.2.1 R.2.2.2.2.2.2.2.2.2.2.2.2.2.1 R.2.2.2.2.2.2.2.2.2.2.2.2.2.2.1 R.2.2.2.2.2.2.2.2.2.2.2.2.2.2.2) c0) n) 0 0) 0 [(0, .ref (b + 0)), (1, .int x1), (2, .int x2), (3, .int x3)] [] (e_ov (kW49) (wW49 G b v0_faultPlace v0_quashedRows v0_lastRefusal v1_beasts v1_meals v1_seats v1_laws v1_inForce a2 a3 a4 a5 v37_height v37_answer a38 v42_beasts v42_seats v42_seated v42_quota v42_known v42_surveyed v42_steadyBench v42_steadyWays v42_steadySwing a43 a44 a45 a46 a47 a49 v67_voters a68) c0) n 0 0 := by
  unfold fX11_reply_N at hf
  refine E.iload_n 1 dX11_reply_0 rfl ?_
  obtain ⟨r1, hc1, hf⟩ := e_bind hf
  refine E.callSD [] dX11_reply_1 mlX11_203 (mX11_isSide hc1) ⟨Nat.le_of_ble_eq_true rfl, Nat.le_of_ble_eq_true rfl⟩ rfl rfl (Nat.le_of_ble_eq_true rfl) ⟨Nat.le_refl _, Nat.le_refl _⟩ rfl ?_
  refine E.if_eq dX11_reply_4 (fun h => ?_) (fun h => ?_)
  · have hf := e_ift hf h
    refine E.iconst (v := -1) dX11_reply_14 (by decide) ?_
    cases hf
    exact E.iret dX11_reply_15 (Nat.le_refl _) (Nat.le_refl _) (pD_rf _ _ _)
  · have hf := e_iff hf h
    refine E.iload_n 3 dX11_reply_7 rfl ?_
    obtain ⟨r2, hc2, hf⟩ := e_bind hf
    refine E.callSD [] dX11_reply_8 mlX11_274 (mX11_isEither hc2) ⟨Nat.le_of_ble_eq_true rfl, Nat.le_of_ble_eq_true rfl⟩ rfl rfl (Nat.le_of_ble_eq_true rfl) ⟨Nat.le_refl _, Nat.le_refl _⟩ rfl ?_
    refine E.if_ne dX11_reply_11 (fun h => ?_) (fun h => ?_)
    · have hf := e_iff hf h
      refine E.aload_n 0 dX11_reply_16 rfl ?_
      refine E.get hw 0 0 dX11_reply_17 flX11_57 rfl rfl rfl rfl ?_
      refine E.aload_n 0 dX11_reply_20 rfl ?_
      refine E.get hw 0 0 dX11_reply_21 flX11_10 rfl rfl rfl rfl ?_
      refine E.aload_n 0 dX11_reply_24 rfl ?_
      refine E.get hw 0 0 dX11_reply_25 flX11_43 rfl rfl rfl rfl ?_
      obtain ⟨r3, hc3, hf⟩ := e_bind hf
      refine E.callVDs (es' := (wW49 G b v0_faultPlace v0_quashedRows v0_lastRefusal v1_beasts v1_meals v1_seats v1_laws v1_inForce a2 a3 a4 a5 v37_height v37_answer r3.1 r3.2.1 r3.2.2.1 r3.2.2.2.1 r3.2.2.2.2.1 r3.2.2.2.2.2.1 r3.2.2.2.2.2.2.1 v42_steadyBench v42_steadyWays v42_steadySwing r3.2.2.2.2.2.2.2.1 r3.2.2.2.2.2.2.2.2.1 r3.2.2.2.2.2.2.2.2.2.1 r3.2.2.2.2.2.2.2.2.2.2.1 r3.2.2.2.2.2.2.2.2.2.2.2.1 r3.2.2.2.2.2.2.2.2.2.2.2.2 v67_voters a68)) [] [1, 2, 3, 4, 5, 6, 7, 8, 9, 10, 11, 12, 13, 14] 8 42 dX11_reply_28 mlX11_263 hw rfl rfl rfl rfl (mX1_learn_N (hw.pick2 [1, 2, 3, 4, 5, 6, 7, 8, 9, 10, 11, 12, 13, 14] rfl (by decide)) hc3) rfl rfl rfl rfl ⟨Nat.le_of_ble_eq_true rfl, Nat.le_of_ble_eq_true rfl⟩ rfl rfl (Nat.le_of_ble_eq_true rfl) ⟨Nat.le_refl _, Nat.le_refl _⟩ rfl ?_
      refine E.aload_n 0 dX11_reply_31 rfl ?_
      refine E.get hw 0 0 dX11_reply_32 flX11_57 rfl rfl rfl rfl ?_
      refine E.iconst (v := 1) dX11_reply_35 (by decide) ?_
      refine E.iload_n 1 dX11_reply_36 rfl ?_
      refine E.isub dX11_reply_37 ?_
      refine E.iload_n 2 dX11_reply_38 rfl ?_
      obtain ⟨r4, hc4, hf⟩ := e_bind hf
      refine E.callVDs (es' := (wW49 G b v0_faultPlace v0_quashedRows v0_lastRefusal v1_beasts v1_meals v1_seats v1_laws v1_inForce a2 a3 a4 a5 v37_height v37_answer r3.1 r3.2.1 r3.2.2.1 r3.2.2.2.1 r3.2.2.2.2.1 r3.2.2.2.2.2.1 r3.2.2.2.2.2.2.1 v42_steadyBench v42_steadyWays v42_steadySwing r3.2.2.2.2.2.2.2.1 r3.2.2.2.2.2.2.2.2.1 r3.2.2.2.2.2.2.2.2.2.1 r3.2.2.2.2.2.2.2.2.2.2.1 r3.2.2.2.2.2.2.2.2.2.2.2.1 r3.2.2.2.2.2.2.2.2.2.2.2.2 v67_voters a68)) [] [8, 12, 13] 8 42 dX11_reply_39 mlX11_267 hw rfl rfl rfl rfl (mX1_can (hw.pick2 [8, 12, 13] rfl (by decide)) hc4) rfl rfl rfl rfl ⟨Nat.le_of_ble_eq_true rfl, Nat.le_of_ble_eq_true rfl⟩ rfl rfl (Nat.le_of_ble_eq_true rfl) ⟨Nat.le_refl _, Nat.le_refl _⟩ rfl ?_
      refine E.if_ne dX11_reply_42 (fun h => ?_) (fun h => ?_)
      · have hf := e_iff hf h
        refine E.aload_n 0 dX11_reply_47 rfl ?_
        refine E.get hw 0 0 dX11_reply_48 flX11_57 rfl rfl rfl rfl ?_
        refine E.iload_n 1 dX11_reply_51 rfl ?_
        refine E.aload_n 0 dX11_reply_52 rfl ?_
        refine E.get hw 0 0 dX11_reply_53 flX11_57 rfl rfl rfl rfl ?_
        refine E.iload_n 1 dX11_reply_56 rfl ?_
        refine E.iload_n 2 dX11_reply_57 rfl ?_
        obtain ⟨r5, hc5, hf⟩ := e_bind hf
        refine E.callVDs (es' := (wW49 G b v0_faultPlace v0_quashedRows v0_lastRefusal v1_beasts v1_meals v1_seats v1_laws v1_inForce a2 a3 a4 a5 v37_height v37_answer r3.1 r3.2.1 r3.2.2.1 r3.2.2.2.1 r3.2.2.2.2.1 r3.2.2.2.2.2.1 r3.2.2.2.2.2.2.1 v42_steadyBench v42_steadyWays v42_steadySwing r3.2.2.2.2.2.2.2.1 r3.2.2.2.2.2.2.2.2.1 r3.2.2.2.2.2.2.2.2.2.1 r3.2.2.2.2.2.2.2.2.2.2.1 r3.2.2.2.2.2.2.2.2.2.2.2.1 r3.2.2.2.2.2.2.2.2.2.2.2.2 r5.2.1 r5.2.2)) [.int x1, .ref (b + 42)] [8, 9, 10, 12, 13, 15, 16] 8 42 dX11_reply_58 mlX11_277 hw rfl rfl rfl rfl (mX1_bestReply (hw.pick2 [8, 9, 10, 12, 13, 15, 16] rfl (by decide)) hc5) rfl rfl rfl rfl ⟨Nat.le_of_ble_eq_true rfl, Nat.le_of_ble_eq_true rfl⟩ rfl rfl (Nat.le_of_ble_eq_true rfl) ⟨Nat.le_refl _, Nat.le_refl _⟩ rfl ?_
        refine E.iload_n 3 dX11_reply_61 rfl ?_
        obtain ⟨r6, hc6, hf⟩ := e_bind hf
        refine E.callVDs (es' := (wW49 G b v0_faultPlace v0_quashedRows v0_lastRefusal v1_beasts v1_meals v1_seats v1_laws v1_inForce a2 a3 a4 a5 v37_height v37_answer r3.1 r3.2.1 r3.2.2.1 r3.2.2.2.1 r3.2.2.2.2.1 r3.2.2.2.2.2.1 r3.2.2.2.2.2.2.1 v42_steadyBench v42_steadyWays v42_steadySwing r3.2.2.2.2.2.2.2.1 r3.2.2.2.2.2.2.2.2.1 r3.2.2.2.2.2.2.2.2.2.1 r3.2.2.2.2.2.2.2.2.2.2.1 r3.2.2.2.2.2.2.2.2.2.2.2.1 r3.2.2.2.2.2.2.2.2.2.2.2.2 r5.2.1 r5.2.2)) [] [8, 12] 8 42 dX11_reply_62 mlX11_280 hw rfl rfl rfl rfl (mX1_told (hw.pick2 [8, 12] rfl (by decide)) hc6) rfl rfl rfl rfl ⟨Nat.le_of_ble_eq_true rfl, Nat.le_of_ble_eq_true rfl⟩ rfl rfl (Nat.le_of_ble_eq_true rfl) ⟨Nat.le_refl _, Nat.le_refl _⟩ rfl ?_
        cases hf
        exact E.iret dX11_reply_65 (Nat.le_refl _) (Nat.le_refl _) (pD_rf _ _ _)
      · have hf := e_ift hf h
        refine E.iconst (v := -1) dX11_reply_45 (by decide) ?_
        cases hf
        exact E.iret dX11_reply_46 (Nat.le_refl _) (Nat.le_refl _) (pD_rf _ _ _)
    · have hf := e_ift hf h
      refine E.iconst (v := -1) dX11_reply_14 (by decide) ?_
      cases hf
      exact E.iret dX11_reply_15 (Nat.le_refl _) (Nat.le_refl _) (pD_rf _ _ _)
set_option maxRecDepth 100000 in
theorem mX11_reply_N {G : GT} {b : Nat} {c0 : Hp} {n : Nat} (hw : e_wf (kW49) n) {v0_faultPlace : Int32} {v0_quashedRows : Int32} {v0_lastRefusal : Int32} {v1_meals : Int32} {v37_height : Int32} {v37_answer : Int64} {v42_steadyBench : Int32} {v42_steadyWays : Int32} {v42_steadySwing : Int64} {Fu : Nat} {v1_beasts : Int32} {v1_seats : Int32} {v1_laws : Int32} {v1_inForce : Int32} {a2 : Nat → Int32} {a3 : Nat → Int32} {a4 : Nat → Int32} {a5 : Nat → Option Nat} {a38 : Nat → Int32} {v42_beasts : Int32} {v42_seats : Int32} {v42_seated : Int32} {v42_quota : Int32} {v42_known : Int32} {v42_surveyed : Int32} {a43 : Nat → Int32} {a44 : Nat → Int32} {a45 : Nat → Int32} {a46 : Nat → Int32} {a47 : Nat → Int32} {a49 : Nat → Int32} {v67_voters : Int32} {a68 : Nat → Int64} {x1 : Int32} {x2 : Int32} {x3 : Int32} {R : Int32 × (Nat → Int32) × Int32 × Int32 × Int32 × Int32 × Int32 × Int32 × (Nat → Int32) × (Nat → Int32) × (Nat → Int32) × (Nat → Int32) × (Nat → Int32) × (Nat → Int32) × Int32 × (Nat → Int64)} (hf : fX11_reply_N Fu v1_beasts v1_seats v1_laws v1_inForce a2 a3 a4 a5 a38 v42_beasts v42_seats v42_seated v42_quota v42_known v42_surveyed a43 a44 a45 a46 a47 a49 v67_voters a68 x1 x2 x3 = some R) : e_C G b yX11_reply cX11_reply 4 (some .int) 6 0 0 [.ref (b + 0), .int x1, .int x2, .int x3] (e_ov (kW49) (wW49 G b v0_faultPlace v0_quashedRows v0_lastRefusal v1_beasts v1_meals v1_seats v1_laws v1_inForce a2 a3 a4 a5 v37_height v37_answer a38 v42_beasts v42_seats v42_seated v42_quota v42_known v42_surveyed v42_steadyBench v42_steadyWays v42_steadySwing a43 a44 a45 a46 a47 a49 v67_voters a68) c0) n (pD (some (.int R.1)) (e_ov (kW49) (wW49 G b v0_faultPlace v0_quashedRows v0_lastRefusal v1_beasts v1_meals v1_seats v1_laws v1_inForce a2 a3 a4 a5 v37_height v37_answer R.2.1 R.2.2.1 R.2.2.2.1 R.2.2.2.2.1 R.2.2.2.2.2.1 R.2.2.2.2.2.2.1 R.2.2.2.2.2.2.2.1 v42_steadyBench v42_steadyWays v42_steadySwing R.2.2.2.2.2.2.2.2.1 R.2.2.2.2.2.2.2.2.2.1 R.2.2.2.2.2.2.2.2.2.2.1 R.2.2.2.2.2.2.2.2.2.2.2.1 R.2.2.2.2.2.2.2.2.2.2.2.2.1 R.2.2.2.2.2.2.2.2.2.2.2.2.2.1 R.2.2.2.2.2.2.2.2.2.2.2.2.2.2.1 R.2.2.2.2.2.2.2.2.2.2.2.2.2.2.2) c0) n) := e_C.of (by decide) (Nat.le_of_ble_eq_true rfl) (tX11_reply_N hw hf)
def fX11_reply_L (Fu : Nat) (nh : Nat) (nt : Nat) (ne : Nat) (ns : Nat) (b q : Nat) (v1_beasts : Int32) (v1_seats : Int32) (v1_laws : Int32) (v1_inForce : Int32) (a2 : Nat → Int32) (a3 : Nat → Int32) (a4 : Nat → Int32) (a5 : Nat → Option Nat) (v37_height : Int32) (v37_answer : Int64) (a38 : Nat → Int32) (a39 : Nat → Int64) (v42_beasts : Int32) (v42_seats : Int32) (v42_seated : Int32) (v42_quota : Int32) (v42_known : Int32) (v42_surveyed : Int32) (a43 : Nat → Int32) (a44 : Nat → Int32) (a45 : Nat → Int32) (a46 : Nat → Int32) (a47 : Nat → Int32) (a49 : Nat → Int32) (v67_voters : Int32) (a68 : Nat → Int64) (aL1 : Nat → Int32) (aL2 : Nat → Int32) (aL3 : Nat → Int32) (aL4 : Nat → Int32) (x1 : Int32) (x2 : Int32) (x3 : Int32) : Option (Int32 × Int32 × Int64 × (Nat → Int32) × (Nat → Int64) × Int32 × Int32 × Int32 × Int32 × Int32 × Int32 × (Nat → Int32) × (Nat → Int32) × (Nat → Int32) × (Nat → Int32) × (Nat → Int32) × (Nat → Int32) × Int32 × (Nat → Int64)) := (fX11_isSide x1).bind fun r1 => (if (r1 : Int32) = (0 : Int32) then (some ((-1 : Int32), v37_height, v37_answer, a38, a39, v42_beasts, v42_seats, v42_seated, v42_quota, v42_known, v42_surveyed, a43, a44, a45, a46, a47, a49, v67_voters, a68)) else ((fX11_isEither x3).bind fun r2 => (if (r2 : Int32) = (0 : Int32) then (some ((-1 : Int32), v37_height, v37_answer, a38, a39, v42_beasts, v42_seats, v42_seated, v42_quota, v42_known, v42_surveyed, a43, a44, a45, a46, a47, a49, v67_voters, a68)) else ((fX1_learn_L Fu nh nt ne ns b q v1_beasts v1_seats v1_laws v1_inForce a2 a3 a4 a5 v37_height v37_answer a38 a39 v42_beasts v42_seats v42_seated v42_quota v42_known v42_surveyed a43 a44 a45 a46 a47 a49 aL1 aL2 aL3 aL4).bind fun r3 => ((fX1_can r3.2.2.2.2.2.1 r3.2.2.2.2.2.2.2.2.2.2.2.2.2.1 r3.2.2.2.2.2.2.2.2.2.2.2.2.2.2.1 (1 - x1) x2).bind fun r4 => (if (r4 : Int32) = (0 : Int32) then (some ((-1 : Int32), r3.1, r3.2.1, r3.2.2.1, r3.2.2.2.1, r3.2.2.2.2.1, r3.2.2.2.2.2.1, r3.2.2.2.2.2.2.1, r3.2.2.2.2.2.2.2.1, r3.2.2.2.2.2.2.2.2.1, r3.2.2.2.2.2.2.2.2.2.1, r3.2.2.2.2.2.2.2.2.2.2.1, r3.2.2.2.2.2.2.2.2.2.2.2.1, r3.2.2.2.2.2.2.2.2.2.2.2.2.1, r3.2.2.2.2.2.2.2.2.2.2.2.2.2.1, r3.2.2.2.2.2.2.2.2.2.2.2.2.2.2.1, r3.2.2.2.2.2.2.2.2.2.2.2.2.2.2.2, v67_voters, a68)) else ((fX1_bestReply Fu r3.2.2.2.2.1 r3.2.2.2.2.2.1 r3.2.2.2.2.2.2.2.1 r3.2.2.2.2.2.2.2.2.2.2.1 r3.2.2.2.2.2.2.2.2.2.2.2.1 r3.2.2.2.2.2.2.2.2.2.2.2.2.2.1 r3.2.2.2.2.2.2.2.2.2.2.2.2.2.2.1 v67_voters a68 x1 x2).bind fun r5 => ((fX1_told r3.2.2.2.2.2.2.2.2.2.2.2.2.2.1 x1 r5.1 x3).bind fun r6 => (some (r6, r3.1, r3.2.1, r3.2.2.1, r3.2.2.2.1, r3.2.2.2.2.1, r3.2.2.2.2.2.1, r3.2.2.2.2.2.2.1, r3.2.2.2.2.2.2.2.1, r3.2.2.2.2.2.2.2.2.1, r3.2.2.2.2.2.2.2.2.2.1, r3.2.2.2.2.2.2.2.2.2.2.1, r3.2.2.2.2.2.2.2.2.2.2.2.1, r3.2.2.2.2.2.2.2.2.2.2.2.2.1, r3.2.2.2.2.2.2.2.2.2.2.2.2.2.1, r3.2.2.2.2.2.2.2.2.2.2.2.2.2.2.1, r3.2.2.2.2.2.2.2.2.2.2.2.2.2.2.2, r5.2.1, r5.2.2))))))))))
set_option maxHeartbeats 4000000 in
set_option maxRecDepth 100000 in
theorem tX11_reply_L {G : GT} {b : Nat} {q nh nt ne ns : Nat} {c0 : Hp} {n : Nat} (hw : e_wf (kW51 q) n) {v0_faultPlace : Int32} {v0_quashedRows : Int32} {v0_lastRefusal : Int32} {v1_meals : Int32} {v42_steadyBench : Int32} {v42_steadyWays : Int32} {v42_steadySwing : Int64} {Fu : Nat} {v1_beasts : Int32} {v1_seats : Int32} {v1_laws : Int32} {v1_inForce : Int32} {a2 : Nat → Int32} {a3 : Nat → Int32} {a4 : Nat → Int32} {a5 : Nat → Option Nat} {v37_height : Int32} {v37_answer : Int64} {a38 : Nat → Int32} {a39 : Nat → Int64} {v42_beasts : Int32} {v42_seats : Int32} {v42_seated : Int32} {v42_quota : Int32} {v42_known : Int32} {v42_surveyed : Int32} {a43 : Nat → Int32} {a44 : Nat → Int32} {a45 : Nat → Int32} {a46 : Nat → Int32} {a47 : Nat → Int32} {a49 : Nat → Int32} {v67_voters : Int32} {a68 : Nat → Int64} {aL1 : Nat → Int32} {aL2 : Nat → Int32} {aL3 : Nat → Int32} {aL4 : Nat → Int32} {x1 : Int32} {x2 : Int32} {x3 : Int32} {R : Int32 × Int32 × Int64 × (Nat → Int32) × (Nat → Int64) × Int32 × Int32 × Int32 × Int32 × Int32 × Int32 × (Nat → Int32) × (Nat → Int32) × (Nat → Int32) × (Nat → Int32) × (Nat → Int32) × (Nat → Int32) × Int32 × (Nat → Int64)} (hf : fX11_reply_L Fu nh nt ne ns b q v1_beasts v1_seats v1_laws v1_inForce a2 a3 a4 a5 v37_height v37_answer a38 a39 v42_beasts v42_seats v42_seated v42_quota v42_known v42_surveyed a43 a44 a45 a46 a47 a49 v67_voters a68 aL1 aL2 aL3 aL4 x1 x2 x3 = some R) : E G b yX11_reply cX11_reply 4 (some .int) (e_rm 6 0 0) e_X0 (e_Z G b (pD (some (.int R.1)) (e_ov (kW51 q) (wW51 G b q nh nt ne ns v0_faultPlace v0_quashedRows v0_lastRefusal v1_beasts v1_meals v1_seats v1_laws v1_inForce a2 a3 a4 a5 R.2.1 R.2.2.1 R.2.2.2.1 R.2.2.2.2.1 R.2.2.2.2.2.1 R.2.2.2.2.2.2.1 R.2.2.2.2.2.2.2.1 R.2.2.2.2.2.2.2.2.1 R.2.2.2.2.2.2.2.2.2.1 R.2.2.2.2.2.2.2.2.2.2.1 v42_steadyBench v42_steadyWays v42_steadySwing R.2.2.2.2.2.2.2.2.2.2.2.1 R.2.2.2.2.2.2.2.2.2.2.2.2.1 R.2.2.2.2.2.2.2.2.2.2.2.2.2.1 R.2.2.2.2.2.2.2.2.2.2.2.2.2.2.1 R.2.2.2.2.2.2.2.2.2.2.2.2.2.2.2.1 R.2.2.2.2.2.2.2.2.2.2.2.2.2.2.2.2.1 R.2.2.2.2.2.2.2.2.2.2.2.2.2.2.2.2.2.1 R.2.2.2.2.2.2.2.2.2.2.2.2.2.2.2.2.2.2 aL1 aL2 aL3 aL4) c0) n) 0 0) 0 [(0, .ref (b + 0)), (1, .int x1), (2, .int x2), (3, .int x3)] [] (e_ov (kW51 q) (wW51 G b q nh nt ne ns v0_faultPlace v0_quashedRows v0_lastRefusal v1_beasts v1_meals v1_seats v1_laws v1_inForce a2 a3 a4 a5 v37_height v37_answer a38 a39 v42_beasts v42_seats v42_seated v42_quota v42_known v42_surveyed v42_steadyBench v42_steadyWays v42_steadySwing a43 a44 a45 a46 a47 a49 v67_voters a68 aL1 aL2 aL3 aL4) c0) n 0 0 := by
  unfold fX11_reply_L at hf
  refine E.iload_n 1 dX11_reply_0 rfl ?_
  obtain ⟨r1, hc1, hf⟩ := e_bind hf
  refine E.callSD [] dX11_reply_1 mlX11_203 (mX11_isSide hc1) ⟨Nat.le_of_ble_eq_true rfl, Nat.le_of_ble_eq_true rfl⟩ rfl rfl (Nat.le_of_ble_eq_true rfl) ⟨Nat.le_refl _, Nat.le_refl _⟩ rfl ?_
  refine E.if_eq dX11_reply_4 (fun h => ?_) (fun h => ?_)
  · have hf := e_ift hf h
    refine E.iconst (v := -1) dX11_reply_14 (by decide) ?_
    cases hf
    exact E.iret dX11_reply_15 (Nat.le_refl _) (Nat.le_refl _) (pD_rf _ _ _)
  · have hf := e_iff hf h
    refine E.iload_n 3 dX11_reply_7 rfl ?_
    obtain ⟨r2, hc2, hf⟩ := e_bind hf
    refine E.callSD [] dX11_reply_8 mlX11_274 (mX11_isEither hc2) ⟨Nat.le_of_ble_eq_true rfl, Nat.le_of_ble_eq_true rfl⟩ rfl rfl (Nat.le_of_ble_eq_true rfl) ⟨Nat.le_refl _, Nat.le_refl _⟩ rfl ?_
    refine E.if_ne dX11_reply_11 (fun h => ?_) (fun h => ?_)
    · have hf := e_iff hf h
      refine E.aload_n 0 dX11_reply_16 rfl ?_
      refine E.get hw 0 0 dX11_reply_17 flX11_57 rfl rfl rfl rfl ?_
      refine E.aload_n 0 dX11_reply_20 rfl ?_
      refine E.get hw 0 0 dX11_reply_21 flX11_10 rfl rfl rfl rfl ?_
      refine E.aload_n 0 dX11_reply_24 rfl ?_
      refine E.get hw 0 0 dX11_reply_25 flX11_43 rfl rfl rfl rfl ?_
      obtain ⟨r3, hc3, hf⟩ := e_bind hf
      refine E.callVDs (es' := (wW51 G b q nh nt ne ns v0_faultPlace v0_quashedRows v0_lastRefusal v1_beasts v1_meals v1_seats v1_laws v1_inForce a2 a3 a4 a5 r3.1 r3.2.1 r3.2.2.1 r3.2.2.2.1 r3.2.2.2.2.1 r3.2.2.2.2.2.1 r3.2.2.2.2.2.2.1 r3.2.2.2.2.2.2.2.1 r3.2.2.2.2.2.2.2.2.1 r3.2.2.2.2.2.2.2.2.2.1 v42_steadyBench v42_steadyWays v42_steadySwing r3.2.2.2.2.2.2.2.2.2.2.1 r3.2.2.2.2.2.2.2.2.2.2.2.1 r3.2.2.2.2.2.2.2.2.2.2.2.2.1 r3.2.2.2.2.2.2.2.2.2.2.2.2.2.1 r3.2.2.2.2.2.2.2.2.2.2.2.2.2.2.1 r3.2.2.2.2.2.2.2.2.2.2.2.2.2.2.2 v67_voters a68 aL1 aL2 aL3 aL4)) [] [1, 2, 3, 4, 5, 6, 7, 8, 9, 10, 11, 12, 13, 14, 15, 18, 19, 20, 21, 22] 9 42 dX11_reply_28 mlX11_263 hw rfl rfl rfl rfl (mX1_learn_L (hw.pick2 [1, 2, 3, 4, 5, 6, 7, 8, 9, 10, 11, 12, 13, 14, 15, 18, 19, 20, 21, 22] rfl (by decide)) hc3) rfl rfl rfl rfl ⟨Nat.le_of_ble_eq_true rfl, Nat.le_of_ble_eq_true rfl⟩ rfl rfl (Nat.le_of_ble_eq_true rfl) ⟨Nat.le_refl _, Nat.le_refl _⟩ rfl ?_
      refine E.aload_n 0 dX11_reply_31 rfl ?_
      refine E.get hw 0 0 dX11_reply_32 flX11_57 rfl rfl rfl rfl ?_
      refine E.iconst (v := 1) dX11_reply_35 (by decide) ?_
      refine E.iload_n 1 dX11_reply_36 rfl ?_
      refine E.isub dX11_reply_37 ?_
      refine E.iload_n 2 dX11_reply_38 rfl ?_
      obtain ⟨r4, hc4, hf⟩ := e_bind hf
      refine E.callVDs (es' := (wW51 G b q nh nt ne ns v0_faultPlace v0_quashedRows v0_lastRefusal v1_beasts v1_meals v1_seats v1_laws v1_inForce a2 a3 a4 a5 r3.1 r3.2.1 r3.2.2.1 r3.2.2.2.1 r3.2.2.2.2.1 r3.2.2.2.2.2.1 r3.2.2.2.2.2.2.1 r3.2.2.2.2.2.2.2.1 r3.2.2.2.2.2.2.2.2.1 r3.2.2.2.2.2.2.2.2.2.1 v42_steadyBench v42_steadyWays v42_steadySwing r3.2.2.2.2.2.2.2.2.2.2.1 r3.2.2.2.2.2.2.2.2.2.2.2.1 r3.2.2.2.2.2.2.2.2.2.2.2.2.1 r3.2.2.2.2.2.2.2.2.2.2.2.2.2.1 r3.2.2.2.2.2.2.2.2.2.2.2.2.2.2.1 r3.2.2.2.2.2.2.2.2.2.2.2.2.2.2.2 v67_voters a68 aL1 aL2 aL3 aL4)) [] [9, 13, 14] 9 42 dX11_reply_39 mlX11_267 hw rfl rfl rfl rfl (mX1_can (hw.pick2 [9, 13, 14] rfl (by decide)) hc4) rfl rfl rfl rfl ⟨Nat.le_of_ble_eq_true rfl, Nat.le_of_ble_eq_true rfl⟩ rfl rfl (Nat.le_of_ble_eq_true rfl) ⟨Nat.le_refl _, Nat.le_refl _⟩ rfl ?_
      refine E.if_ne dX11_reply_42 (fun h => ?_) (fun h => ?_)
      · have hf := e_iff hf h
        refine E.aload_n 0 dX11_reply_47 rfl ?_
        refine E.get hw 0 0 dX11_reply_48 flX11_57 rfl rfl rfl rfl ?_
        refine E.iload_n 1 dX11_reply_51 rfl ?_
        refine E.aload_n 0 dX11_reply_52 rfl ?_
        refine E.get hw 0 0 dX11_reply_53 flX11_57 rfl rfl rfl rfl ?_
        refine E.iload_n 1 dX11_reply_56 rfl ?_
        refine E.iload_n 2 dX11_reply_57 rfl ?_
        obtain ⟨r5, hc5, hf⟩ := e_bind hf
        refine E.callVDs (es' := (wW51 G b q nh nt ne ns v0_faultPlace v0_quashedRows v0_lastRefusal v1_beasts v1_meals v1_seats v1_laws v1_inForce a2 a3 a4 a5 r3.1 r3.2.1 r3.2.2.1 r3.2.2.2.1 r3.2.2.2.2.1 r3.2.2.2.2.2.1 r3.2.2.2.2.2.2.1 r3.2.2.2.2.2.2.2.1 r3.2.2.2.2.2.2.2.2.1 r3.2.2.2.2.2.2.2.2.2.1 v42_steadyBench v42_steadyWays v42_steadySwing r3.2.2.2.2.2.2.2.2.2.2.1 r3.2.2.2.2.2.2.2.2.2.2.2.1 r3.2.2.2.2.2.2.2.2.2.2.2.2.1 r3.2.2.2.2.2.2.2.2.2.2.2.2.2.1 r3.2.2.2.2.2.2.2.2.2.2.2.2.2.2.1 r3.2.2.2.2.2.2.2.2.2.2.2.2.2.2.2 r5.2.1 r5.2.2 aL1 aL2 aL3 aL4)) [.int x1, .ref (b + 42)] [9, 10, 11, 13, 14, 16, 17] 9 42 dX11_reply_58 mlX11_277 hw rfl rfl rfl rfl (mX1_bestReply (hw.pick2 [9, 10, 11, 13, 14, 16, 17] rfl (by decide)) hc5) rfl rfl rfl rfl ⟨Nat.le_of_ble_eq_true rfl, Nat.le_of_ble_eq_true rfl⟩ rfl rfl (Nat.le_of_ble_eq_true rfl) ⟨Nat.le_refl _, Nat.le_refl _⟩ rfl ?_
        refine E.iload_n 3 dX11_reply_61 rfl ?_
        obtain ⟨r6, hc6, hf⟩ := e_bind hf
        refine E.callVDs (es' := (wW51 G b q nh nt ne ns v0_faultPlace v0_quashedRows v0_lastRefusal v1_beasts v1_meals v1_seats v1_laws v1_inForce a2 a3 a4 a5 r3.1 r3.2.1 r3.2.2.1 r3.2.2.2.1 r3.2.2.2.2.1 r3.2.2.2.2.2.1 r3.2.2.2.2.2.2.1 r3.2.2.2.2.2.2.2.1 r3.2.2.2.2.2.2.2.2.1 r3.2.2.2.2.2.2.2.2.2.1 v42_steadyBench v42_steadyWays v42_steadySwing r3.2.2.2.2.2.2.2.2.2.2.1 r3.2.2.2.2.2.2.2.2.2.2.2.1 r3.2.2.2.2.2.2.2.2.2.2.2.2.1 r3.2.2.2.2.2.2.2.2.2.2.2.2.2.1 r3.2.2.2.2.2.2.2.2.2.2.2.2.2.2.1 r3.2.2.2.2.2.2.2.2.2.2.2.2.2.2.2 r5.2.1 r5.2.2 aL1 aL2 aL3 aL4)) [] [9, 13] 9 42 dX11_reply_62 mlX11_280 hw rfl rfl rfl rfl (mX1_told (hw.pick2 [9, 13] rfl (by decide)) hc6) rfl rfl rfl rfl ⟨Nat.le_of_ble_eq_true rfl, Nat.le_of_ble_eq_true rfl⟩ rfl rfl (Nat.le_of_ble_eq_true rfl) ⟨Nat.le_refl _, Nat.le_refl _⟩ rfl ?_
        cases hf
        exact E.iret dX11_reply_65 (Nat.le_refl _) (Nat.le_refl _) (pD_rf _ _ _)
      · have hf := e_ift hf h
        refine E.iconst (v := -1) dX11_reply_45 (by decide) ?_
        cases hf
        exact E.iret dX11_reply_46 (Nat.le_refl _) (Nat.le_refl _) (pD_rf _ _ _)
    · have hf := e_ift hf h
      refine E.iconst (v := -1) dX11_reply_14 (by decide) ?_
      cases hf
      exact E.iret dX11_reply_15 (Nat.le_refl _) (Nat.le_refl _) (pD_rf _ _ _)
set_option maxRecDepth 100000 in
theorem mX11_reply_L {G : GT} {b : Nat} {q nh nt ne ns : Nat} {c0 : Hp} {n : Nat} (hw : e_wf (kW51 q) n) {v0_faultPlace : Int32} {v0_quashedRows : Int32} {v0_lastRefusal : Int32} {v1_meals : Int32} {v42_steadyBench : Int32} {v42_steadyWays : Int32} {v42_steadySwing : Int64} {Fu : Nat} {v1_beasts : Int32} {v1_seats : Int32} {v1_laws : Int32} {v1_inForce : Int32} {a2 : Nat → Int32} {a3 : Nat → Int32} {a4 : Nat → Int32} {a5 : Nat → Option Nat} {v37_height : Int32} {v37_answer : Int64} {a38 : Nat → Int32} {a39 : Nat → Int64} {v42_beasts : Int32} {v42_seats : Int32} {v42_seated : Int32} {v42_quota : Int32} {v42_known : Int32} {v42_surveyed : Int32} {a43 : Nat → Int32} {a44 : Nat → Int32} {a45 : Nat → Int32} {a46 : Nat → Int32} {a47 : Nat → Int32} {a49 : Nat → Int32} {v67_voters : Int32} {a68 : Nat → Int64} {aL1 : Nat → Int32} {aL2 : Nat → Int32} {aL3 : Nat → Int32} {aL4 : Nat → Int32} {x1 : Int32} {x2 : Int32} {x3 : Int32} {R : Int32 × Int32 × Int64 × (Nat → Int32) × (Nat → Int64) × Int32 × Int32 × Int32 × Int32 × Int32 × Int32 × (Nat → Int32) × (Nat → Int32) × (Nat → Int32) × (Nat → Int32) × (Nat → Int32) × (Nat → Int32) × Int32 × (Nat → Int64)} (hf : fX11_reply_L Fu nh nt ne ns b q v1_beasts v1_seats v1_laws v1_inForce a2 a3 a4 a5 v37_height v37_answer a38 a39 v42_beasts v42_seats v42_seated v42_quota v42_known v42_surveyed a43 a44 a45 a46 a47 a49 v67_voters a68 aL1 aL2 aL3 aL4 x1 x2 x3 = some R) : e_C G b yX11_reply cX11_reply 4 (some .int) 6 0 0 [.ref (b + 0), .int x1, .int x2, .int x3] (e_ov (kW51 q) (wW51 G b q nh nt ne ns v0_faultPlace v0_quashedRows v0_lastRefusal v1_beasts v1_meals v1_seats v1_laws v1_inForce a2 a3 a4 a5 v37_height v37_answer a38 a39 v42_beasts v42_seats v42_seated v42_quota v42_known v42_surveyed v42_steadyBench v42_steadyWays v42_steadySwing a43 a44 a45 a46 a47 a49 v67_voters a68 aL1 aL2 aL3 aL4) c0) n (pD (some (.int R.1)) (e_ov (kW51 q) (wW51 G b q nh nt ne ns v0_faultPlace v0_quashedRows v0_lastRefusal v1_beasts v1_meals v1_seats v1_laws v1_inForce a2 a3 a4 a5 R.2.1 R.2.2.1 R.2.2.2.1 R.2.2.2.2.1 R.2.2.2.2.2.1 R.2.2.2.2.2.2.1 R.2.2.2.2.2.2.2.1 R.2.2.2.2.2.2.2.2.1 R.2.2.2.2.2.2.2.2.2.1 R.2.2.2.2.2.2.2.2.2.2.1 v42_steadyBench v42_steadyWays v42_steadySwing R.2.2.2.2.2.2.2.2.2.2.2.1 R.2.2.2.2.2.2.2.2.2.2.2.2.1 R.2.2.2.2.2.2.2.2.2.2.2.2.2.1 R.2.2.2.2.2.2.2.2.2.2.2.2.2.2.1 R.2.2.2.2.2.2.2.2.2.2.2.2.2.2.2.1 R.2.2.2.2.2.2.2.2.2.2.2.2.2.2.2.2.1 R.2.2.2.2.2.2.2.2.2.2.2.2.2.2.2.2.2.1 R.2.2.2.2.2.2.2.2.2.2.2.2.2.2.2.2.2.2 aL1 aL2 aL3 aL4) c0) n) := e_C.of (by decide) (Nat.le_of_ble_eq_true rfl) (tX11_reply_L hw hf)
def fJ7_rangeCheck_23922 (x0 : Int32) (x1 : Int32) (x2 : Int32) : Option (Unit) := if (x1 : Int32) ≤ (x2 : Int32) then (if (0 : Int32) ≤ (x1 : Int32) then (if (x2 : Int32) ≤ (x0 : Int32) then (some ()) else (none)) else (none)) else (none)
set_option maxHeartbeats 4000000 in
set_option maxRecDepth 100000 in
theorem tJ7_rangeCheck_23922 {G : GT} {b : Nat} {c : Hp} {n : Nat} {x0 : Int32} {x1 : Int32} {x2 : Int32} {R : Unit} (hf : fJ7_rangeCheck_23922 x0 x1 x2 = some R) : E G b yJ7_rangeCheck_23922 cJ7_rangeCheck_23922 3 none (e_rm 0 0 0) e_X0 (e_Z G b (pD none c n) 0 0) 0 [(0, .int x0), (1, .int x1), (2, .int x2)] [] c n 0 0 := by
  unfold fJ7_rangeCheck_23922 at hf
  refine E.iload_n 1 dJ7_rangeCheck_23922_0 rfl ?_
  refine E.iload_n 2 dJ7_rangeCheck_23922_1 rfl ?_
  refine E.icmp_le dJ7_rangeCheck_23922_2 (fun h => ?_) (fun h => ?_)
  · have hf := e_ift hf h
    refine E.iload_n 1 dJ7_rangeCheck_23922_46 rfl ?_
    refine E.if_ge dJ7_rangeCheck_23922_47 (fun h => ?_) (fun h => ?_)
    · have hf := e_ift hf h
      refine E.iload_n 2 dJ7_rangeCheck_23922_59 rfl ?_
      refine E.iload_n 0 dJ7_rangeCheck_23922_60 rfl ?_
      refine E.icmp_le dJ7_rangeCheck_23922_61 (fun h => ?_) (fun h => ?_)
      · have hf := e_ift hf h
        cases hf
        exact E.vret dJ7_rangeCheck_23922_73 (Nat.le_refl _) (Nat.le_refl _) (pD_rf _ _ _)
      · have hf := e_iff hf h
        cases hf
    · have hf := e_iff hf h
      cases hf
  · have hf := e_iff hf h
    cases hf
set_option maxRecDepth 100000 in
theorem mJ7_rangeCheck_23922 {G : GT} {b : Nat} {c : Hp} {n : Nat} {x0 : Int32} {x1 : Int32} {x2 : Int32} {R : Unit} (hf : fJ7_rangeCheck_23922 x0 x1 x2 = some R) : e_C G b yJ7_rangeCheck_23922 cJ7_rangeCheck_23922 3 none 0 0 0 [.int x0, .int x1, .int x2] c n (pD none c n) := e_C.of (by decide) (Nat.le_of_ble_eq_true rfl) (tJ7_rangeCheck_23922 hf)
