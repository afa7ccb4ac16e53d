def fX11_enough_L (Fu : Nat) (nh : Nat) (nt : Nat) (ne : Nat) (ns : Nat) (b q : Nat) (v1_beasts : Int32) (v1_seats : Int32) (v1_laws : Int32) (v1_inForce : Int32) (a2 : Nat → Int32) (a3 : Nat → Int32) (a4 : Nat → Int32) (a5 : Nat → Option Nat) (v37_height : Int32) (v37_answer : Int64) (a38 : Nat → Int32) (a39 : Nat → Int64) (v42_beasts : Int32) (v42_seats : Int32) (v42_seated : Int32) (v42_quota : Int32) (v42_known : Int32) (v42_surveyed : Int32) (a43 : Nat → Int32) (a44 : Nat → Int32) (a45 : Nat → Int32) (a46 : Nat → Int32) (a47 : Nat → Int32) (a49 : Nat → Int32) (v67_voters : Int32) (a68 : Nat → Int64) (aL1 : Nat → Int32) (aL2 : Nat → Int32) (aL3 : Nat → Int32) (aL4 : Nat → Int32) (x1 : Int32) (x2 : Int32) (x3 : Int32) : Option (Int32 × Int32 × Int64 × (Nat → Int32) × (Nat → Int64) × Int32 × Int32 × Int32 × Int32 × Int32 × Int32 × (Nat → Int32) × (Nat → Int32) × (Nat → Int32) × (Nat → Int32) × (Nat → Int32) × (Nat → Int32) × Int32 × (Nat → Int64)) := (fX11_isSide x1).bind fun r1 => (if (r1 : Int32) = (0 : Int32) then (some ((-1 : Int32), v37_height, v37_answer, a38, a39, v42_beasts, v42_seats, v42_seated, v42_quota, v42_known, v42_surveyed, a43, a44, a45, a46, a47, a49, v67_voters, a68)) else (if (x2 : Int32) < (0 : Int32) then (some ((-1 : Int32), v37_height, v37_answer, a38, a39, v42_beasts, v42_seats, v42_seated, v42_quota, v42_known, v42_surveyed, a43, a44, a45, a46, a47, a49, v67_voters, a68)) else (if (1000000 : Int32) < (x2 : Int32) then (some ((-1 : Int32), v37_height, v37_answer, a38, a39, v42_beasts, v42_seats, v42_seated, v42_quota, v42_known, v42_surveyed, a43, a44, a45, a46, a47, a49, v67_voters, a68)) else ((fX11_isEither x3).bind fun r2 => (if (r2 : Int32) = (0 : Int32) then (some ((-1 : Int32), v37_height, v37_answer, a38, a39, v42_beasts, v42_seats, v42_seated, v42_quota, v42_known, v42_surveyed, a43, a44, a45, a46, a47, a49, v67_voters, a68)) else ((fX1_learn_L Fu nh nt ne ns b q v1_beasts v1_seats v1_laws v1_inForce a2 a3 a4 a5 v37_height v37_answer a38 a39 v42_beasts v42_seats v42_seated v42_quota v42_known v42_surveyed a43 a44 a45 a46 a47 a49 aL1 aL2 aL3 aL4).bind fun r3 => ((fX1_cheapest Fu r3.2.2.2.2.1 r3.2.2.2.2.2.1 r3.2.2.2.2.2.2.1 r3.2.2.2.2.2.2.2.1 r3.2.2.2.2.2.2.2.2.2.2.1 r3.2.2.2.2.2.2.2.2.2.2.2.1 r3.2.2.2.2.2.2.2.2.2.2.2.2.2.1 r3.2.2.2.2.2.2.2.2.2.2.2.2.2.2.1 v67_voters a68 x1 x2).bind fun r4 => ((fX1_told r3.2.2.2.2.2.2.2.2.2.2.2.2.2.1 x1 r4.1 x3).bind fun r5 => (some (r5, r3.1, r3.2.1, r3.2.2.1, r3.2.2.2.1, r3.2.2.2.2.1, r3.2.2.2.2.2.1, r3.2.2.2.2.2.2.1, r3.2.2.2.2.2.2.2.1, r3.2.2.2.2.2.2.2.2.1, r3.2.2.2.2.2.2.2.2.2.1, r3.2.2.2.2.2.2.2.2.2.2.1, r3.2.2.2.2.2.2.2.2.2.2.2.1, r3.2.2.2.2.2.2.2.2.2.2.2.2.1, r3.2.2.2.2.2.2.2.2.2.2.2.2.2.1, r3.2.2.2.2.2.2.2.2.2.2.2.2.2.2.1, r3.2.2.2.2.2.2.2.2.2.2.2.2.2.2.2, r4.2.1, r4.2.2))))))))))
set_option maxHeartbeats 4000000 in
set_option maxRecDepth 100000 in
theorem tX11_enough_L {G : GT} {b : Nat} {q nh nt ne ns : Nat} {c0 : Hp} {n : Nat} (hw : e_wf (kW51 q) n) {v0_faultPlace : Int32} {v0_quashedRows : Int32} {v0_lastRefusal : Int32} {v1_meals : Int32} {v42_steadyBench : Int32} {v42_steadyWays : Int32} {v42_steadySwing : Int64} {Fu : Nat} {v1_beasts : Int32} {v1_seats : Int32} {v1_laws : Int32} {v1_inForce : Int32} {a2 : Nat → Int32} {a3 : Nat → Int32} {a4 : Nat → Int32} {a5 : Nat → Option Nat} {v37_height : Int32} {v37_answer : Int64} {a38 : Nat → Int32} {a39 : Nat → Int64} {v42_beasts : Int32} {v42_seats : Int32} {v42_seated : Int32} {v42_quota : Int32} {v42_known : Int32} {v42_surveyed : Int32} {a43 : Nat → Int32} {a44 : Nat → Int32} {a45 : Nat → Int32} {a46 : Nat → Int32} {a47 : Nat → Int32} {a49 : Nat → Int32} {v67_voters : Int32} {a68 : Nat → Int64} {aL1 : Nat → Int32} {aL2 : Nat → Int32} {aL3 : Nat → Int32} {aL4 : Nat → Int32} {x1 : Int32} {x2 : Int32} {x3 : Int32} {R : Int32 × Int32 × Int64 × (Nat → Int32) × (Nat → Int64) × Int32 × Int32 × Int32 × Int32 × Int32 × Int32 × (Nat → Int32) × (Nat → Int32) × (Nat → Int32) × (Nat → Int32) × (Nat → Int32) × (Nat → Int32) × Int32 × (Nat → Int64)} (hf : fX11_enough_L Fu nh nt ne ns b q v1_beasts v1_seats v1_laws v1_inForce a2 a3 a4 a5 v37_height v37_answer a38 a39 v42_beasts v42_seats v42_seated v42_quota v42_known v42_surveyed a43 a44 a45 a46 a47 a49 v67_voters a68 aL1 aL2 aL3 aL4 x1 x2 x3 = some R) : E G b yX11_enough cX11_enough 4 (some .int) (e_rm 6 0 0) e_X0 (e_Z G b (pD (some (.int R.1)) (e_ov (kW51 q) (wW51 G b q nh nt ne ns v0_faultPlace v0_quashedRows v0_lastRefusal v1_beasts v1_meals v1_seats v1_laws v1_inForce a2 a3 a4 a5 R.2.1 R.2.2.1 R.2.2.2.1 R.2.2.2.2.1 R.2.2.2.2.2.1 R.2.2.2.2.2.2.1 R.2.2.2.2.2.2.2.1 R.2.2.2.2.2.2.2.2.1 R.2.2.2.2.2.2.2.2.2.1 R.2.2.2.2.2.2.2.2.2.2.1 v42_steadyBench v42_steadyWays v42_steadySwing R.2.2.2.2.2.2.2.2.2.2.2.1 R.2.2.2.2.2.2.2.2.2.2.2.2.1 R.2.2.2.2.2.2.2.2.2.2.2.2.2.1 R.2.2.2.2.2.2.2.2.2.2.2.2.2.2.1 R.2.2.2.2.2.2.2.2.2.2.2.2.2.2.2.1 R.2.2.2.2.2.2.2.2.2.2.2.2.2.2.2.2.1 R.2.2.2.2.2.2.2.2.2.2.2.2.2.2.2.2.2.1 R.2.2.2.2.2.2.2.2.2.2.2.2.2.2.2.2.2.2 aL1 aL2 aL3 aL4) c0) n) 0 0) 0 [(0, .ref (b + 0)), (1, .int x1), (2, .int x2), (3, .int x3)] [] (e_ov (kW51 q) (wW51 G b q nh nt ne ns v0_faultPlace v0_quashedRows v0_lastRefusal v1_beasts v1_meals v1_seats v1_laws v1_inForce a2 a3 a4 a5 v37_height v37_answer a38 a39 v42_beasts v42_seats v42_seated v42_quota v42_known v42_surveyed v42_steadyBench v42_steadyWays v42_steadySwing a43 a44 a45 a46 a47 a49 v67_voters a68 aL1 aL2 aL3 aL4) c0) n 0 0 := by
  unfold fX11_enough_L at hf
  refine E.iload_n 1 dX11_enough_0 rfl ?_
  obtain ⟨r1, hc1, hf⟩ := e_bind hf
  refine E.callSD [] dX11_enough_1 mlX11_203 (mX11_isSide hc1) ⟨Nat.le_of_ble_eq_true rfl, Nat.le_of_ble_eq_true rfl⟩ rfl rfl (Nat.le_of_ble_eq_true rfl) ⟨Nat.le_refl _, Nat.le_refl _⟩ rfl ?_
  refine E.if_eq dX11_enough_4 (fun h => ?_) (fun h => ?_)
  · have hf := e_ift hf h
    refine E.iconst (v := -1) dX11_enough_25 (by decide) ?_
    cases hf
    exact E.iret dX11_enough_26 (Nat.le_refl _) (Nat.le_refl _) (pD_rf _ _ _)
  · have hf := e_iff hf h
    refine E.iload_n 2 dX11_enough_7 rfl ?_
    refine E.if_lt dX11_enough_8 (fun h => ?_) (fun h => ?_)
    · have hf := e_ift hf h
      refine E.iconst (v := -1) dX11_enough_25 (by decide) ?_
      cases hf
      exact E.iret dX11_enough_26 (Nat.le_refl _) (Nat.le_refl _) (pD_rf _ _ _)
    · have hf := e_iff hf h
      refine E.iload_n 2 dX11_enough_11 rfl ?_
      refine E.ldcw dX11_enough_12 kX11_297 ?_
      refine E.icmp_gt dX11_enough_15 (fun h => ?_) (fun h => ?_)
      · have hf := e_ift hf h
        refine E.iconst (v := -1) dX11_enough_25 (by decide) ?_
        cases hf
        exact E.iret dX11_enough_26 (Nat.le_refl _) (Nat.le_refl _) (pD_rf _ _ _)
      · have hf := e_iff hf h
        refine E.iload_n 3 dX11_enough_18 rfl ?_
        obtain ⟨r2, hc2, hf⟩ := e_bind hf
        refine E.callSD [] dX11_enough_19 mlX11_274 (mX11_isEither hc2) ⟨Nat.le_of_ble_eq_true rfl, Nat.le_of_ble_eq_true rfl⟩ rfl rfl (Nat.le_of_ble_eq_true rfl) ⟨Nat.le_refl _, Nat.le_refl _⟩ rfl ?_
        refine E.if_ne dX11_enough_22 (fun h => ?_) (fun h => ?_)
        · have hf := e_iff hf h
          refine E.aload_n 0 dX11_enough_27 rfl ?_
          refine E.get hw 0 0 dX11_enough_28 flX11_57 rfl rfl rfl rfl ?_
          refine E.aload_n 0 dX11_enough_31 rfl ?_
          refine E.get hw 0 0 dX11_enough_32 flX11_10 rfl rfl rfl rfl ?_
          refine E.aload_n 0 dX11_enough_35 rfl ?_
          refine E.get hw 0 0 dX11_enough_36 flX11_43 rfl rfl rfl rfl ?_
          obtain ⟨r3, hc3, hf⟩ := e_bind hf
          refine E.callVDs (es' := (wW51 G b q nh nt ne ns v0_faultPlace v0_quashedRows v0_lastRefusal v1_beasts v1_meals v1_seats v1_laws v1_inForce a2 a3 a4 a5 r3.1 r3.2.1 r3.2.2.1 r3.2.2.2.1 r3.2.2.2.2.1 r3.2.2.2.2.2.1 r3.2.2.2.2.2.2.1 r3.2.2.2.2.2.2.2.1 r3.2.2.2.2.2.2.2.2.1 r3.2.2.2.2.2.2.2.2.2.1 v42_steadyBench v42_steadyWays v42_steadySwing r3.2.2.2.2.2.2.2.2.2.2.1 r3.2.2.2.2.2.2.2.2.2.2.2.1 r3.2.2.2.2.2.2.2.2.2.2.2.2.1 r3.2.2.2.2.2.2.2.2.2.2.2.2.2.1 r3.2.2.2.2.2.2.2.2.2.2.2.2.2.2.1 r3.2.2.2.2.2.2.2.2.2.2.2.2.2.2.2 v67_voters a68 aL1 aL2 aL3 aL4)) [] [1, 2, 3, 4, 5, 6, 7, 8, 9, 10, 11, 12, 13, 14, 15, 18, 19, 20, 21, 22] 9 42 dX11_enough_39 mlX11_263 hw rfl rfl rfl rfl (mX1_learn_L (hw.pick2 [1, 2, 3, 4, 5, 6, 7, 8, 9, 10, 11, 12, 13, 14, 15, 18, 19, 20, 21, 22] rfl (by decide)) hc3) rfl rfl rfl rfl ⟨Nat.le_of_ble_eq_true rfl, Nat.le_of_ble_eq_true rfl⟩ rfl rfl (Nat.le_of_ble_eq_true rfl) ⟨Nat.le_refl _, Nat.le_refl _⟩ rfl ?_
          refine E.aload_n 0 dX11_enough_42 rfl ?_
          refine E.get hw 0 0 dX11_enough_43 flX11_57 rfl rfl rfl rfl ?_
          refine E.iload_n 1 dX11_enough_46 rfl ?_
          refine E.aload_n 0 dX11_enough_47 rfl ?_
          refine E.get hw 0 0 dX11_enough_48 flX11_57 rfl rfl rfl rfl ?_
          refine E.iload_n 1 dX11_enough_51 rfl ?_
          refine E.iload_n 2 dX11_enough_52 rfl ?_
          obtain ⟨r4, hc4, hf⟩ := e_bind hf
          refine E.callVDs (es' := (wW51 G b q nh nt ne ns v0_faultPlace v0_quashedRows v0_lastRefusal v1_beasts v1_meals v1_seats v1_laws v1_inForce a2 a3 a4 a5 r3.1 r3.2.1 r3.2.2.1 r3.2.2.2.1 r3.2.2.2.2.1 r3.2.2.2.2.2.1 r3.2.2.2.2.2.2.1 r3.2.2.2.2.2.2.2.1 r3.2.2.2.2.2.2.2.2.1 r3.2.2.2.2.2.2.2.2.2.1 v42_steadyBench v42_steadyWays v42_steadySwing r3.2.2.2.2.2.2.2.2.2.2.1 r3.2.2.2.2.2.2.2.2.2.2.2.1 r3.2.2.2.2.2.2.2.2.2.2.2.2.1 r3.2.2.2.2.2.2.2.2.2.2.2.2.2.1 r3.2.2.2.2.2.2.2.2.2.2.2.2.2.2.1 r3.2.2.2.2.2.2.2.2.2.2.2.2.2.2.2 r4.2.1 r4.2.2 aL1 aL2 aL3 aL4)) [.int x1, .ref (b + 42)] [9, 10, 11, 13, 14, 16, 17] 9 42 dX11_enough_53 mlX11_298 hw rfl rfl rfl rfl (mX1_cheapest (hw.pick2 [9, 10, 11, 13, 14, 16, 17] rfl (by decide)) hc4) rfl rfl rfl rfl ⟨Nat.le_of_ble_eq_true rfl, Nat.le_of_ble_eq_true rfl⟩ rfl rfl (Nat.le_of_ble_eq_true rfl) ⟨Nat.le_refl _, Nat.le_refl _⟩ rfl ?_
          refine E.iload_n 3 dX11_enough_56 rfl ?_
          obtain ⟨r5, hc5, hf⟩ := e_bind hf
          refine E.callVDs (es' := (wW51 G b q nh nt ne ns v0_faultPlace v0_quashedRows v0_lastRefusal v1_beasts v1_meals v1_seats v1_laws v1_inForce a2 a3 a4 a5 r3.1 r3.2.1 r3.2.2.1 r3.2.2.2.1 r3.2.2.2.2.1 r3.2.2.2.2.2.1 r3.2.2.2.2.2.2.1 r3.2.2.2.2.2.2.2.1 r3.2.2.2.2.2.2.2.2.1 r3.2.2.2.2.2.2.2.2.2.1 v42_steadyBench v42_steadyWays v42_steadySwing r3.2.2.2.2.2.2.2.2.2.2.1 r3.2.2.2.2.2.2.2.2.2.2.2.1 r3.2.2.2.2.2.2.2.2.2.2.2.2.1 r3.2.2.2.2.2.2.2.2.2.2.2.2.2.1 r3.2.2.2.2.2.2.2.2.2.2.2.2.2.2.1 r3.2.2.2.2.2.2.2.2.2.2.2.2.2.2.2 r4.2.1 r4.2.2 aL1 aL2 aL3 aL4)) [] [9, 13] 9 42 dX11_enough_57 mlX11_280 hw rfl rfl rfl rfl (mX1_told (hw.pick2 [9, 13] rfl (by decide)) hc5) rfl rfl rfl rfl ⟨Nat.le_of_ble_eq_true rfl, Nat.le_of_ble_eq_true rfl⟩ rfl rfl (Nat.le_of_ble_eq_true rfl) ⟨Nat.le_refl _, Nat.le_refl _⟩ rfl ?_
          cases hf
          exact E.iret dX11_enough_60 (Nat.le_refl _) (Nat.le_refl _) (pD_rf _ _ _)
        · have hf := e_ift hf h
          refine E.iconst (v := -1) dX11_enough_25 (by decide) ?_
          cases hf
          exact E.iret dX11_enough_26 (Nat.le_refl _) (Nat.le_refl _) (pD_rf _ _ _)
set_option maxRecDepth 100000 in
theorem mX11_enough_L {G : GT} {b : Nat} {q nh nt ne ns : Nat} {c0 : Hp} {n : Nat} (hw : e_wf (kW51 q) n) {v0_faultPlace : Int32} {v0_quashedRows : Int32} {v0_lastRefusal : Int32} {v1_meals : Int32} {v42_steadyBench : Int32} {v42_steadyWays : Int32} {v42_steadySwing : Int64} {Fu : Nat} {v1_beasts : Int32} {v1_seats : Int32} {v1_laws : Int32} {v1_inForce : Int32} {a2 : Nat → Int32} {a3 : Nat → Int32} {a4 : Nat → Int32} {a5 : Nat → Option Nat} {v37_height : Int32} {v37_answer : Int64} {a38 : Nat → Int32} {a39 : Nat → Int64} {v42_beasts : Int32} {v42_seats : Int32} {v42_seated : Int32} {v42_quota : Int32} {v42_known : Int32} {v42_surveyed : Int32} {a43 : Nat → Int32} {a44 : Nat → Int32} {a45 : Nat → Int32} {a46 : Nat → Int32} {a47 : Nat → Int32} {a49 : Nat → Int32} {v67_voters : Int32} {a68 : Nat → Int64} {aL1 : Nat → Int32} {aL2 : Nat → Int32} {aL3 : Nat → Int32} {aL4 : Nat → Int32} {x1 : Int32} {x2 : Int32} {x3 : Int32} {R : Int32 × Int32 × Int64 × (Nat → Int32) × (Nat → Int64) × Int32 × Int32 × Int32 × Int32 × Int32 × Int32 × (Nat → Int32) × (Nat → Int32) × (Nat → Int32) × (Nat → Int32) × (Nat → Int32) × (Nat → Int32) × Int32 × (Nat → Int64)} (hf : fX11_enough_L Fu nh nt ne ns b q v1_beasts v1_seats v1_laws v1_inForce a2 a3 a4 a5 v37_height v37_answer a38 a39 v42_beasts v42_seats v42_seated v42_quota v42_known v42_surveyed a43 a44 a45 a46 a47 a49 v67_voters a68 aL1 aL2 aL3 aL4 x1 x2 x3 = some R) : e_C G b yX11_enough cX11_enough 4 (some .int) 6 0 0 [.ref (b + 0), .int x1, .int x2, .int x3] (e_ov (kW51 q) (wW51 G b q nh nt ne ns v0_faultPlace v0_quashedRows v0_lastRefusal v1_beasts v1_meals v1_seats v1_laws v1_inForce a2 a3 a4 a5 v37_height v37_answer a38 a39 v42_beasts v42_seats v42_seated v42_quota v42_known v42_surveyed v42_steadyBench v42_steadyWays v42_steadySwing a43 a44 a45 a46 a47 a49 v67_voters a68 aL1 aL2 aL3 aL4) c0) n (pD (some (.int R.1)) (e_ov (kW51 q) (wW51 G b q nh nt ne ns v0_faultPlace v0_quashedRows v0_lastRefusal v1_beasts v1_meals v1_seats v1_laws v1_inForce a2 a3 a4 a5 R.2.1 R.2.2.1 R.2.2.2.1 R.2.2.2.2.1 R.2.2.2.2.2.1 R.2.2.2.2.2.2.1 R.2.2.2.2.2.2.2.1 R.2.2.2.2.2.2.2.2.1 R.2.2.2.2.2.2.2.2.2.1 R.2.2.2.2.2.2.2.2.2.2.1 v42_steadyBench v42_steadyWays v42_steadySwing R.2.2.2.2.2.2.2.2.2.2.2.1 R.2.2.2.2.2.2.2.2.2.2.2.2.1 R.2.2.2.2.2.2.2.2.2.2.2.2.2.1 R.2.2.2.2.2.2.2.2.2.2.2.2.2.2.1 R.2.2.2.2.2.2.2.2.2.2.2.2.2.2.2.1 R.2.2.2.2.2.2.2.2.2.2.2.2.2.2.2.2.1 R.2.2.2.2.2.2.2.2.2.2.2.2.2.2.2.2.2.1 R.2.2.2.2.2.2.2.2.2.2.2.2.2.2.2.2.2.2 aL1 aL2 aL3 aL4) c0) n) := e_C.of (by decide) (Nat.le_of_ble_eq_true rfl) (tX11_enough_L hw hf)
abbrev kW64 : List Nat := [0, 1, 2, 3, 4, 5, 37, 38, 42, 43, 44, 45, 46, 47, 49, 78]
abbrev wW64 (G : GT) (b  : Nat) (v0_faultPlace : Int32) (v0_quashedRows : Int32) (v0_lastRefusal : Int32) (v1_beasts : Int32) (v1_meals : Int32) (v1_seats : Int32) (v1_laws : Int32) (v1_inForce : Int32) (a2 : Nat → Int32) (a3 : Nat → Int32) (a4 : Nat → Int32) (a5 : Nat → Option Nat) (v37_height : Int32) (v37_answer : Int64) (a38 : Nat → Int32) (v42_beasts : Int32) (v42_seats : Int32) (v42_seated : Int32) (v42_quota : Int32) (v42_known : Int32) (v42_surveyed : Int32) (v42_steadyBench : Int32) (v42_steadyWays : Int32) (v42_steadySwing : Int64) (a43 : Nat → Int32) (a44 : Nat → Int32) (a45 : Nat → Int32) (a46 : Nat → Int32) (a47 : Nat → Int32) (a49 : Nat → Int32) (a78 : Nat → Int32) : List va_E := [.inr (11, [.ref (b + 1), .ref (b + 10), .ref (b + 29), .ref (b + 30), .ref (b + 32), .ref (b + 37), .ref (b + 40), .ref (b + 42), .ref (b + 69), .ref (b + 73), .ref (b + 74), .ref (b + 76), .ref (b + 78), .int v0_faultPlace, .int v0_quashedRows, .int v0_lastRefusal]), .inr (10, [.ref (b + 2), .ref (b + 3), .ref (b + 4), .ref (b + 5), .ref (b + 6), .int v1_beasts, .int v1_meals, .int v1_seats, .int v1_laws, .int v1_inForce]), aI G 48 a2, aI G 8 a3, aI G 6 a4, aQ G 4 6 a5, .inr (0, [.ref (b + 38), .ref (b + 39), .int v37_height, .long v37_answer]), aI G 10 a38, .inr (1, [.ref (b + 43), .ref (b + 44), .ref (b + 45), .ref (b + 46), .ref (b + 47), .ref (b + 48), .ref (b + 49), .ref (b + 50), .ref (b + 67), .int v42_beasts, .int v42_seats, .int v42_seated, .int v42_quota, .int v42_known, .int v42_surveyed, .int v42_steadyBench, .int v42_steadyWays, .long v42_steadySwing]), aI G 32 a43, aI G 8 a44, aI G 16 a45, aI G 512 a46, aI G 2 a47, aI G 8 a49, aI G 7 a78]
def fX11_bribe_N_L21 (Fu : Nat) (v0_lastRefusal : Int32) (v1_beasts : Int32) (v1_seats : Int32) (v1_laws : Int32) (v1_inForce : Int32) (a2 : Nat → Int32) (a3 : Nat → Int32) (a4 : Nat → Int32) (a5 : Nat → Option Nat) (a38 : Nat → Int32) (v42_beasts : Int32) (v42_seats : Int32) (v42_seated : Int32) (v42_quota : Int32) (v42_known : Int32) (v42_surveyed : Int32) (a43 : Nat → Int32) (a44 : Nat → Int32) (a45 : Nat → Int32) (a46 : Nat → Int32) (a47 : Nat → Int32) (a49 : Nat → Int32) (a78 : Nat → Int32) : Option (Int32 × Int32 × (Nat → Int32) × (Nat → Int32) × (Nat → Int32) × Int32 × Int32 × Int32 × Int32 × Int32 × Int32 × (Nat → Int32) × (Nat → Int32) × (Nat → Int32) × (Nat → Int32) × (Nat → Int32) × (Nat → Int32) × (Nat → Int32)) := (fX11_refuse v0_lastRefusal a78 (-1 : Int32)).bind fun r8 => (some (r8.1, r8.2.1, a2, a4, a38, v42_beasts, v42_seats, v42_seated, v42_quota, v42_known, v42_surveyed, a43, a44, a45, a46, a47, a49, r8.2.2))
set_option maxHeartbeats 4000000 in
set_option maxRecDepth 100000 in
theorem tX11_bribe_N_L21 {G : GT} {b : Nat} {c0 : Hp} {n : Nat} (hw : e_wf (kW64) n) {v0_faultPlace : Int32} {v0_quashedRows : Int32} {v1_meals : Int32} {v37_height : Int32} {v37_answer : Int64} {v42_steadyBench : Int32} {v42_steadyWays : Int32} {v42_steadySwing : Int64} {Fu : Nat} {v0_lastRefusal : Int32} {v1_beasts : Int32} {v1_seats : Int32} {v1_laws : Int32} {v1_inForce : Int32} {a2 : Nat → Int32} {a3 : Nat → Int32} {a4 : Nat → Int32} {a5 : Nat → Option Nat} {a38 : Nat → Int32} {v42_beasts : Int32} {v42_seats : Int32} {v42_seated : Int32} {v42_quota : Int32} {v42_known : Int32} {v42_surveyed : Int32} {a43 : Nat → Int32} {a44 : Nat → Int32} {a45 : Nat → Int32} {a46 : Nat → Int32} {a47 : Nat → Int32} {a49 : Nat → Int32} {a78 : Nat → Int32} {R : Int32 × Int32 × (Nat → Int32) × (Nat → Int32) × (Nat → Int32) × Int32 × Int32 × Int32 × Int32 × Int32 × Int32 × (Nat → Int32) × (Nat → Int32) × (Nat → Int32) × (Nat → Int32) × (Nat → Int32) × (Nat → Int32) × (Nat → Int32)} (hf : fX11_bribe_N_L21 Fu v0_lastRefusal v1_beasts v1_seats v1_laws v1_inForce a2 a3 a4 a5 a38 v42_beasts v42_seats v42_seated v42_quota v42_known v42_surveyed a43 a44 a45 a46 a47 a49 a78 = some R) : E G b yX11_bribe cX11_bribe 5 (some .int) (e_rm 5 0 0) e_X0 (e_Z G b (pD (some (.int R.1)) (e_ov (kW64) (wW64 G b v0_faultPlace v0_quashedRows R.2.1 v1_beasts v1_meals v1_seats v1_laws v1_inForce R.2.2.1 a3 R.2.2.2.1 a5 v37_height v37_answer R.2.2.2.2.1 R.2.2.2.2.2.1 R.2.2.2.2.2.2.1 R.2.2.2.2.2.2.2.1 R.2.2.2.2.2.2.2.2.1 R.2.2.2.2.2.2.2.2.2.1 R.2.2.2.2.2.2.2.2.2.2.1 v42_steadyBench v42_steadyWays v42_steadySwing R.2.2.2.2.2.2.2.2.2.2.2.1 R.2.2.2.2.2.2.2.2.2.2.2.2.1 R.2.2.2.2.2.2.2.2.2.2.2.2.2.1 R.2.2.2.2.2.2.2.2.2.2.2.2.2.2.1 R.2.2.2.2.2.2.2.2.2.2.2.2.2.2.2.1 R.2.2.2.2.2.2.2.2.2.2.2.2.2.2.2.2.1 R.2.2.2.2.2.2.2.2.2.2.2.2.2.2.2.2.2) c0) n) 0 0) 21 [(0, .ref (b + 0))] [] (e_ov (kW64) (wW64 G b v0_faultPlace v0_quashedRows v0_lastRefusal v1_beasts v1_meals v1_seats v1_laws v1_inForce a2 a3 a4 a5 v37_height v37_answer a38 v42_beasts v42_seats v42_seated v42_quota v42_known v42_surveyed v42_steadyBench v42_steadyWays v42_steadySwing a43 a44 a45 a46 a47 a49 a78) c0) n 0 0 := by
  unfold fX11_bribe_N_L21 at hf
  refine E.aload_n 0 dX11_bribe_21 rfl ?_
  refine E.iconst (v := -1) dX11_bribe_22 (by decide) ?_
  obtain ⟨r8, hc8, hf⟩ := e_bind hf
  refine E.callVDs (es' := (wW64 G b v0_faultPlace v0_quashedRows r8.2.1 v1_beasts v1_meals v1_seats v1_laws v1_inForce a2 a3 a4 a5 v37_height v37_answer a38 v42_beasts v42_seats v42_seated v42_quota v42_known v42_surveyed v42_steadyBench v42_steadyWays v42_steadySwing a43 a44 a45 a46 a47 a49 r8.2.2)) [] [0, 15] 0 0 dX11_bribe_23 mlX11_97 hw rfl rfl rfl rfl (mX11_refuse (hw.pick2 [0, 15] rfl (by decide)) hc8) rfl rfl rfl rfl ⟨Nat.le_of_ble_eq_true rfl, Nat.le_of_ble_eq_true rfl⟩ rfl rfl (Nat.le_of_ble_eq_true rfl) ⟨Nat.le_refl _, Nat.le_refl _⟩ rfl ?_
  cases hf
  exact E.iret dX11_bribe_26 (Nat.le_refl _) (Nat.le_refl _) (pD_rf _ _ _)
def fX11_bribe_N_L90 (Fu : Nat) : Nat → Int32 → Int32 → Int32 → Int32 → Int32 → (Nat → Int32) → (Nat → Int32) → (Nat → Int32) → (Nat → Option Nat) → (Nat → Int32) → Int32 → Int32 → Int32 → Int32 → Int32 → Int32 → (Nat → Int32) → (Nat → Int32) → (Nat → Int32) → (Nat → Int32) → (Nat → Int32) → (Nat → Int32) → (Nat → Int32) → Int32 → Int32 → Int32 → Int32 → Option (Int32 × Int32 × (Nat → Int32) × (Nat → Int32) × (Nat → Int32) × Int32 × Int32 × Int32 × Int32 × Int32 × Int32 × (Nat → Int32) × (Nat → Int32) × (Nat → Int32) × (Nat → Int32) × (Nat → Int32) × (Nat → Int32) × (Nat → Int32))
  | 0, _, _, _, _, _, _, _, _, _, _, _, _, _, _, _, _, _, _, _, _, _, _, _, _, _, _, _ => none
  | k + 1, v0_lastRefusal, v1_beasts, v1_seats, v1_laws, v1_inForce, a2, a3, a4, a5, a38, v42_beasts, v42_seats, v42_seated, v42_quota, v42_known, v42_surveyed, a43, a44, a45, a46, a47, a49, a78, x1, x2, x3, x4 => if (v1_beasts : Int32) ≤ (x4 : Int32) then ((fX11_accept v0_lastRefusal v42_known x3).bind fun r9 => (some (r9.1, r9.2.1, a2, a4, a38, v42_beasts, v42_seats, v42_seated, v42_quota, r9.2.2, v42_surveyed, a43, a44, a45, a46, a47, a49, a78))) else (if ((((x2 : Int32) >>> ((x4 : Int32) &&& 31)) &&& 1) : Int32) = (1 : Int32) then ((fX10_trait a2 x4 5).bind fun r10 => ((fX10_setTrait a2 x4 5 (r10 ||| ((1 : Int32) <<< ((x1 : Int32) &&& 31)))).bind fun r11 => ((fX11_bribe_N_L90 Fu k) v0_lastRefusal v1_beasts v1_seats v1_laws v1_inForce r11 a3 a4 a5 a38 v42_beasts v42_seats v42_seated v42_quota v42_known v42_surveyed a43 a44 a45 a46 a47 a49 a78 x1 x2 x3 (x4 + 1)))) else ((fX11_bribe_N_L90 Fu k) v0_lastRefusal v1_beasts v1_seats v1_laws v1_inForce a2 a3 a4 a5 a38 v42_beasts v42_seats v42_seated v42_quota v42_known v42_surveyed a43 a44 a45 a46 a47 a49 a78 x1 x2 x3 (x4 + 1)))
set_option maxHeartbeats 4000000 in
set_option maxRecDepth 100000 in
theorem tX11_bribe_N_L90 {G : GT} {b : Nat} {c0 : Hp} {n : Nat} (hw : e_wf (kW64) n) {v0_faultPlace : Int32} {v0_quashedRows : Int32} {v1_meals : Int32} {v37_height : Int32} {v37_answer : Int64} {v42_steadyBench : Int32} {v42_steadyWays : Int32} {v42_steadySwing : Int64} {Fu : Nat} : ∀ (k : Nat) {v0_lastRefusal : Int32} {v1_beasts : Int32} {v1_seats : Int32} {v1_laws : Int32} {v1_inForce : Int32} {a2 : Nat → Int32} {a3 : Nat → Int32} {a4 : Nat → Int32} {a5 : Nat → Option Nat} {a38 : Nat → Int32} {v42_beasts : Int32} {v42_seats : Int32} {v42_seated : Int32} {v42_quota : Int32} {v42_known : Int32} {v42_surveyed : Int32} {a43 : Nat → Int32} {a44 : Nat → Int32} {a45 : Nat → Int32} {a46 : Nat → Int32} {a47 : Nat → Int32} {a49 : Nat → Int32} {a78 : Nat → Int32} {x1 : Int32} {x2 : Int32} {x3 : Int32} {x4 : Int32} {R : Int32 × Int32 × (Nat → Int32) × (Nat → Int32) × (Nat → Int32) × Int32 × Int32 × Int32 × Int32 × Int32 × Int32 × (Nat → Int32) × (Nat → Int32) × (Nat → Int32) × (Nat → Int32) × (Nat → Int32) × (Nat → Int32) × (Nat → Int32)}, fX11_bribe_N_L90 Fu k v0_lastRefusal v1_beasts v1_seats v1_laws v1_inForce a2 a3 a4 a5 a38 v42_beasts v42_seats v42_seated v42_quota v42_known v42_surveyed a43 a44 a45 a46 a47 a49 a78 x1 x2 x3 x4 = some R → E G b yX11_bribe cX11_bribe 5 (some .int) (e_rm 5 0 0) e_X0 (e_Z G b (pD (some (.int R.1)) (e_ov (kW64) (wW64 G b v0_faultPlace v0_quashedRows R.2.1 v1_beasts v1_meals v1_seats v1_laws v1_inForce R.2.2.1 a3 R.2.2.2.1 a5 v37_height v37_answer R.2.2.2.2.1 R.2.2.2.2.2.1 R.2.2.2.2.2.2.1 R.2.2.2.2.2.2.2.1 R.2.2.2.2.2.2.2.2.1 R.2.2.2.2.2.2.2.2.2.1 R.2.2.2.2.2.2.2.2.2.2.1 v42_steadyBench v42_steadyWays v42_steadySwing R.2.2.2.2.2.2.2.2.2.2.2.1 R.2.2.2.2.2.2.2.2.2.2.2.2.1 R.2.2.2.2.2.2.2.2.2.2.2.2.2.1 R.2.2.2.2.2.2.2.2.2.2.2.2.2.2.1 R.2.2.2.2.2.2.2.2.2.2.2.2.2.2.2.1 R.2.2.2.2.2.2.2.2.2.2.2.2.2.2.2.2.1 R.2.2.2.2.2.2.2.2.2.2.2.2.2.2.2.2.2) c0) n) 0 0) 90 [(0, .ref (b + 0)), (1, .int x1), (2, .int x2), (3, .int x3), (4, .int x4)] [] (e_ov (kW64) (wW64 G b v0_faultPlace v0_quashedRows v0_lastRefusal v1_beasts v1_meals v1_seats v1_laws v1_inForce a2 a3 a4 a5 v37_height v37_answer a38 v42_beasts v42_seats v42_seated v42_quota v42_known v42_surveyed v42_steadyBench v42_steadyWays v42_steadySwing a43 a44 a45 a46 a47 a49 a78) c0) n 0 0 := by
  intro k
  induction k with
  | zero =>
    intro _ _ _ _ _ _ _ _ _ _ _ _ _ _ _ _ _ _ _ _ _ _ _ _ _ _ _ _ hf
    have hf : (none : Option (Int32 × Int32 × (Nat → Int32) × (Nat → Int32) × (Nat → Int32) × Int32 × Int32 × Int32 × Int32 × Int32 × Int32 × (Nat → Int32) × (Nat → Int32) × (Nat → Int32) × (Nat → Int32) × (Nat → Int32) × (Nat → Int32) × (Nat → Int32))) = some _ := hf
    cases hf
  | succ k ih =>
    intro v0_lastRefusal v1_beasts v1_seats v1_laws v1_inForce a2 a3 a4 a5 a38 v42_beasts v42_seats v42_seated v42_quota v42_known v42_surveyed a43 a44 a45 a46 a47 a49 a78 x1 x2 x3 x4 R hf
    rw [fX11_bribe_N_L90] at hf
    refine E.iload 4 dX11_bribe_90 rfl ?_
    refine E.aload_n 0 dX11_bribe_92 rfl ?_
    refine E.get hw 0 0 dX11_bribe_93 flX11_10 rfl rfl rfl rfl ?_
    refine E.getN hw 1 1 dX11_bribe_96 fnX11_101 rfl rfl rfl rfl ?_
    refine E.icmp_ge dX11_bribe_99 (fun h => ?_) (fun h => ?_)
    · have hf := e_ift hf h
      refine E.aload_n 0 dX11_bribe_142 rfl ?_
      refine E.iload_n 3 dX11_bribe_143 rfl ?_
      obtain ⟨r9, hc9, hf⟩ := e_bind hf
      refine E.callVDs (es' := (wW64 G b v0_faultPlace v0_quashedRows r9.2.1 v1_beasts v1_meals v1_seats v1_laws v1_inForce a2 a3 a4 a5 v37_height v37_answer a38 v42_beasts v42_seats v42_seated v42_quota r9.2.2 v42_surveyed v42_steadyBench v42_steadyWays v42_steadySwing a43 a44 a45 a46 a47 a49 a78)) [] [0, 8] 0 0 dX11_bribe_144 mlX11_108 hw rfl rfl rfl rfl (mX11_accept (hw.pick2 [0, 8] rfl (by decide)) hc9) rfl rfl rfl rfl ⟨Nat.le_of_ble_eq_true rfl, Nat.le_of_ble_eq_true rfl⟩ rfl rfl (Nat.le_of_ble_eq_true rfl) ⟨Nat.le_refl _, Nat.le_refl _⟩ rfl ?_
      cases hf
      exact E.iret dX11_bribe_147 (Nat.le_refl _) (Nat.le_refl _) (pD_rf _ _ _)
    · have hf := e_iff hf h
      refine E.iload_n 2 dX11_bribe_102 rfl ?_
      refine E.iload 4 dX11_bribe_103 rfl ?_
      refine E.ishr dX11_bribe_105 ?_
      refine E.iconst (v := 1) dX11_bribe_106 (by decide) ?_
      refine E.iand dX11_bribe_107 ?_
      refine E.iconst (v := 1) dX11_bribe_108 (by decide) ?_
      refine E.icmp_ne dX11_bribe_109 (fun h => ?_) (fun h => ?_)
      · have hf := e_iff hf h
        refine E.iinc (q := 4) (v := (x4 + 1)) (lv' := [(4, .int (x4 + 1)), (0, .ref (b + 0)), (1, .int x1), (2, .int x2), (3, .int x3)]) dX11_bribe_136 rfl rfl (by decide) rfl ?_
        refine E.goto dX11_bribe_139 ?_
        refine E.locals [1, 2, 3, 4, 0] rfl ?_
        exact ih hf
      · have hf := e_ift hf h
        refine E.aload_n 0 dX11_bribe_112 rfl ?_
        refine E.get hw 0 0 dX11_bribe_113 flX11_10 rfl rfl rfl rfl ?_
        refine E.iload 4 dX11_bribe_116 rfl ?_
        refine E.iconst (v := 5) dX11_bribe_118 (by decide) ?_
        refine E.aload_n 0 dX11_bribe_119 rfl ?_
        refine E.get hw 0 0 dX11_bribe_120 flX11_10 rfl rfl rfl rfl ?_
        refine E.iload 4 dX11_bribe_123 rfl ?_
        refine E.iconst (v := 5) dX11_bribe_125 (by decide) ?_
        obtain ⟨r10, hc10, hf⟩ := e_bind hf
        refine E.callVDs (es' := (wW64 G b v0_faultPlace v0_quashedRows v0_lastRefusal v1_beasts v1_meals v1_seats v1_laws v1_inForce a2 a3 a4 a5 v37_height v37_answer a38 v42_beasts v42_seats v42_seated v42_quota v42_known v42_surveyed v42_steadyBench v42_steadyWays v42_steadySwing a43 a44 a45 a46 a47 a49 a78)) [.int 5, .int x4, .ref (b + 1)] [1, 2] 1 1 dX11_bribe_126 mlX11_115 hw rfl rfl rfl rfl (mX10_trait (hw.pick2 [1, 2] rfl (by decide)) hc10) rfl rfl rfl rfl ⟨Nat.le_of_ble_eq_true rfl, Nat.le_of_ble_eq_true rfl⟩ rfl rfl (Nat.le_of_ble_eq_true rfl) ⟨Nat.le_refl _, Nat.le_refl _⟩ rfl ?_
        refine E.iconst (v := 1) dX11_bribe_129 (by decide) ?_
        refine E.iload_n 1 dX11_bribe_130 rfl ?_
        refine E.ishl dX11_bribe_131 ?_
        refine E.ior dX11_bribe_132 ?_
        obtain ⟨r11, hc11, hf⟩ := e_bind hf
        refine E.callVDs (es' := (wW64 G b v0_faultPlace v0_quashedRows v0_lastRefusal v1_beasts v1_meals v1_seats v1_laws v1_inForce r11 a3 a4 a5 v37_height v37_answer a38 v42_beasts v42_seats v42_seated v42_quota v42_known v42_surveyed v42_steadyBench v42_steadyWays v42_steadySwing a43 a44 a45 a46 a47 a49 a78)) [] [1, 2] 1 1 dX11_bribe_133 mlX11_104 hw rfl rfl rfl rfl (mX10_setTrait (hw.pick2 [1, 2] rfl (by decide)) hc11) rfl rfl rfl rfl ⟨Nat.le_of_ble_eq_true rfl, Nat.le_of_ble_eq_true rfl⟩ rfl rfl (Nat.le_of_ble_eq_true rfl) ⟨Nat.le_refl _, Nat.le_refl _⟩ rfl ?_
        refine E.iinc (q := 4) (v := (x4 + 1)) (lv' := [(4, .int (x4 + 1)), (0, .ref (b + 0)), (1, .int x1), (2, .int x2), (3, .int x3)]) dX11_bribe_136 rfl rfl (by decide) rfl ?_
        refine E.goto dX11_bribe_139 ?_
        refine E.locals [1, 2, 3, 4, 0] rfl ?_
        exact ih hf
def fX11_bribe_N (Fu : Nat) (v0_lastRefusal : Int32) (v1_beasts : Int32) (v1_seats : Int32) (v1_laws : Int32) (v1_inForce : Int32) (a2 : Nat → Int32) (a3 : Nat → Int32) (a4 : Nat → Int32) (a5 : Nat → Option Nat) (a38 : Nat → Int32) (v42_beasts : Int32) (v42_seats : Int32) (v42_seated : Int32) (v42_quota : Int32) (v42_known : Int32) (v42_surveyed : Int32) (a43 : Nat → Int32) (a44 : Nat → Int32) (a45 : Nat → Int32) (a46 : Nat → Int32) (a47 : Nat → Int32) (a49 : Nat → Int32) (a78 : Nat → Int32) (x1 : Int32) (x2 : Int32) : Option (Int32 × Int32 × (Nat → Int32) × (Nat → Int32) × (Nat → Int32) × Int32 × Int32 × Int32 × Int32 × Int32 × Int32 × (Nat → Int32) × (Nat → Int32) × (Nat → Int32) × (Nat → Int32) × (Nat → Int32) × (Nat → Int32) × (Nat → Int32)) := (fX11_isSide x1).bind fun r1 => (if (r1 : Int32) = (0 : Int32) then (fX11_bribe_N_L21 Fu v0_lastRefusal v1_beasts v1_seats v1_laws v1_inForce a2 a3 a4 a5 a38 v42_beasts v42_seats v42_seated v42_quota v42_known v42_surveyed a43 a44 a45 a46 a47 a49 a78) else (if ((x2 &&& (v1_seats ^^^ (-1 : Int32))) : Int32) = (0 : Int32) then ((fX1_learn_N Fu v1_beasts v1_seats v1_laws v1_inForce a2 a3 a4 a5 a38 v42_beasts v42_seats v42_seated v42_quota v42_known v42_surveyed a43 a44 a45 a46 a47 a49).bind fun r2 => ((fX1_can r2.2.2.1 r2.2.2.2.2.2.2.2.2.2.2.1 r2.2.2.2.2.2.2.2.2.2.2.2.1 x1 x2).bind fun r3 => (if (r3 : Int32) = (0 : Int32) then ((fX11_refuse v0_lastRefusal a78 (-3 : Int32)).bind fun r7 => (some (r7.1, r7.2.1, a2, a4, r2.1, r2.2.1, r2.2.2.1, r2.2.2.2.1, r2.2.2.2.2.1, r2.2.2.2.2.2.1, r2.2.2.2.2.2.2.1, r2.2.2.2.2.2.2.2.1, r2.2.2.2.2.2.2.2.2.1, r2.2.2.2.2.2.2.2.2.2.1, r2.2.2.2.2.2.2.2.2.2.2.1, r2.2.2.2.2.2.2.2.2.2.2.2.1, r2.2.2.2.2.2.2.2.2.2.2.2.2, r7.2.2))) else ((fX1_told r2.2.2.2.2.2.2.2.2.2.2.1 x1 x2 1).bind fun r4 => (gd (3 + x1) 6 (gd (3 + x1) 6 (fX11_bribe_N_L90 Fu Fu v0_lastRefusal v1_beasts v1_seats v1_laws v1_inForce a2 a3 (va_up a4 ((3 + x1) : Int32).toNatClampNeg ((a4 ((3 + x1) : Int32).toNatClampNeg) - r4)) a5 r2.1 r2.2.1 r2.2.2.1 r2.2.2.2.1 r2.2.2.2.2.1 r2.2.2.2.2.2.1 r2.2.2.2.2.2.2.1 r2.2.2.2.2.2.2.2.1 r2.2.2.2.2.2.2.2.2.1 r2.2.2.2.2.2.2.2.2.2.1 r2.2.2.2.2.2.2.2.2.2.2.1 r2.2.2.2.2.2.2.2.2.2.2.2.1 r2.2.2.2.2.2.2.2.2.2.2.2.2 a78 x1 x2 r4 0))))))) else (fX11_bribe_N_L21 Fu v0_lastRefusal v1_beasts v1_seats v1_laws v1_inForce a2 a3 a4 a5 a38 v42_beasts v42_seats v42_seated v42_quota v42_known v42_surveyed a43 a44 a45 a46 a47 a49 a78)))
set_option maxHeartbeats 4000000 in
set_option maxRecDepth 100000 in
theorem tX11_bribe_N {G : GT} {b : Nat} {c0 : Hp} {n : Nat} (hw : e_wf (kW64) n) {v0_faultPlace : Int32} {v0_quashedRows : Int32} {v1_meals : Int32} {v37_height : Int32} {v37_answer : Int64} {v42_steadyBench : Int32} {v42_steadyWays : Int32} {v42_steadySwing : Int64} {Fu : Nat} {v0_lastRefusal : Int32} {v1_beasts : Int32} {v1_seats : Int32} {v1_laws : Int32} {v1_inForce : Int32} {a2 : Nat → Int32} {a3 : Nat → Int32} {a4 : Nat → Int32} {a5 : Nat → Option Nat} {a38 : Nat → Int32} {v42_beasts : Int32} {v42_seats : Int32} {v42_seated : Int32} {v42_quota : Int32} {v42_known : Int32} {v42_surveyed : Int32} {a43 : Nat → Int32} {a44 : Nat → Int32} {a45 : Nat → Int32} {a46 : Nat → Int32} {a47 : Nat → Int32} {a49 : Nat → Int32} {a78 : Nat → Int32} {x1 : Int32} {x2 : Int32} {R : Int32 × Int32 × (Nat → Int32) × (Nat → Int32) × (Nat → Int32) × Int32 × Int32 × Int32 × Int32 × Int32 × Int32 × (Nat → Int32) × (Nat → Int32) × (Nat → Int32) × (Nat → Int32) × (Nat → Int32) × (Nat → Int32) × (Nat → Int32)} (hf : fX11_bribe_N Fu v0_lastRefusal v1_beasts v1_seats v1_laws v1_inForce a2 a3 a4 a5 a38 v42_beasts v42_seats v42_seated v42_quota v42_known v42_surveyed a43 a44 a45 a46 a47 a49 a78 x1 x2 = some R) : E G b yX11_bribe cX11_bribe 5 (some .int) (e_rm 5 0 0) e_X0 (e_Z G b (pD (some (.int R.1)) (e_ov (kW64) (wW64 G b v0_faultPlace v0_quashedRows R.2.1 v1_beasts v1_meals v1_seats v1_laws v1_inForce R.2.2.1 a3 R.2.2.2.1 a5 v37_height v37_answer R.2.2.2.2.1 R.2.2.2.2.2.1 R.2.2.2.2.2.2.1 R.2.2.2.2.2.2.2.1 R.2.2.2.2.2.2.2.2.1 R.2.2.2.2.2.2.2.2.2.1 R.2.2.2.2.2.2.2.2.2.2.1 v42_steadyBench v42_steadyWays v42_steadySwing R.2.2.2.2.2.2.2.2.2.2.2.1 R.2.2.2.2.2.2.2.2.2.2.2.2.1 R.2.2.2.2.2.2.2.2.2.2.2.2.2.1 R.2.2.2.2.2.2.2.2.2.2.2.2.2.2.1 R.2.2.2.2.2.2.2.2.2.2.2.2.2.2.2.1 R.2.2.2.2.2.2.2.2.2.2.2.2.2.2.2.2.1 R.2.2.2.2.2.2.2.2.2.2.2.2.2.2.2.2.2) c0) n) 0 0) 0 [(0, .ref (b + 0)), (1, .int x1), (2, .int x2)] [] (e_ov (kW64) (wW64 G b v0_faultPlace v0_quashedRows v0_lastRefusal v1_beasts v1_meals v1_seats v1_laws v1_inForce a2 a3 a4 a5 v37_height v37_answer a38 v42_beasts v42_seats v42_seated v42_quota v42_known v42_surveyed v42_steadyBench v42_steadyWays v42_steadySwing a43 a44 a45 a46 a47 a49 a78) c0) n 0 0 := by
  unfold fX11_bribe_N at hf
  refine E.iload_n 1 dX11_bribe_0 rfl ?_
  obtain ⟨r1, hc1, hf⟩ := e_bind hf
  refine E.callSD [] dX11_bribe_1 mlX11_203 (mX11_isSide hc1) ⟨Nat.le_of_ble_eq_true rfl, Nat.le_of_ble_eq_true rfl⟩ rfl rfl (Nat.le_of_ble_eq_true rfl) ⟨Nat.le_refl _, Nat.le_refl _⟩ rfl ?_
  refine E.if_eq dX11_bribe_4 (fun h => ?_) (fun h => ?_)
  · have hf := e_ift hf h
    refine E.locals [0] rfl ?_
    exact tX11_bribe_N_L21 hw hf
  · have hf := e_iff hf h
    refine E.iload_n 2 dX11_bribe_7 rfl ?_
    refine E.aload_n 0 dX11_bribe_8 rfl ?_
    refine E.get hw 0 0 dX11_bribe_9 flX11_10 rfl rfl rfl rfl ?_
    refine E.getN hw 1 1 dX11_bribe_12 fnX11_140 rfl rfl rfl rfl ?_
    refine E.iconst (v := -1) dX11_bribe_15 (by decide) ?_
    refine E.ixor dX11_bribe_16 ?_
    refine E.iand dX11_bribe_17 ?_
    refine E.if_eq dX11_bribe_18 (fun h => ?_) (fun h => ?_)
    · have hf := e_ift hf h
      refine E.aload_n 0 dX11_bribe_27 rfl ?_
      refine E.get hw 0 0 dX11_bribe_28 flX11_57 rfl rfl rfl rfl ?_
      refine E.aload_n 0 dX11_bribe_31 rfl ?_
      refine E.get hw 0 0 dX11_bribe_32 flX11_10 rfl rfl rfl rfl ?_
      refine E.aload_n 0 dX11_bribe_35 rfl ?_
      refine E.get hw 0 0 dX11_bribe_36 flX11_43 rfl rfl rfl rfl ?_
      obtain ⟨r2, hc2, hf⟩ := e_bind hf
      refine E.callVDs (es' := (wW64 G b v0_faultPlace v0_quashedRows v0_lastRefusal v1_beasts v1_meals v1_seats v1_laws v1_inForce a2 a3 a4 a5 v37_height v37_answer r2.1 r2.2.1 r2.2.2.1 r2.2.2.2.1 r2.2.2.2.2.1 r2.2.2.2.2.2.1 r2.2.2.2.2.2.2.1 v42_steadyBench v42_steadyWays v42_steadySwing r2.2.2.2.2.2.2.2.1 r2.2.2.2.2.2.2.2.2.1 r2.2.2.2.2.2.2.2.2.2.1 r2.2.2.2.2.2.2.2.2.2.2.1 r2.2.2.2.2.2.2.2.2.2.2.2.1 r2.2.2.2.2.2.2.2.2.2.2.2.2 a78)) [] [1, 2, 3, 4, 5, 6, 7, 8, 9, 10, 11, 12, 13, 14] 8 42 dX11_bribe_39 mlX11_263 hw rfl rfl rfl rfl (mX1_learn_N (hw.pick2 [1, 2, 3, 4, 5, 6, 7, 8, 9, 10, 11, 12, 13, 14] rfl (by decide)) hc2) rfl rfl rfl rfl ⟨Nat.le_of_ble_eq_true rfl, Nat.le_of_ble_eq_true rfl⟩ rfl rfl (Nat.le_of_ble_eq_true rfl) ⟨Nat.le_refl _, Nat.le_refl _⟩ rfl ?_
      refine E.aload_n 0 dX11_bribe_42 rfl ?_
      refine E.get hw 0 0 dX11_bribe_43 flX11_57 rfl rfl rfl rfl ?_
      refine E.iload_n 1 dX11_bribe_46 rfl ?_
      refine E.iload_n 2 dX11_bribe_47 rfl ?_
      obtain ⟨r3, hc3, hf⟩ := e_bind hf
      refine E.callVDs (es' := (wW64 G b v0_faultPlace v0_quashedRows v0_lastRefusal v1_beasts v1_meals v1_seats v1_laws v1_inForce a2 a3 a4 a5 v37_height v37_answer r2.1 r2.2.1 r2.2.2.1 r2.2.2.2.1 r2.2.2.2.2.1 r2.2.2.2.2.2.1 r2.2.2.2.2.2.2.1 v42_steadyBench v42_steadyWays v42_steadySwing r2.2.2.2.2.2.2.2.1 r2.2.2.2.2.2.2.2.2.1 r2.2.2.2.2.2.2.2.2.2.1 r2.2.2.2.2.2.2.2.2.2.2.1 r2.2.2.2.2.2.2.2.2.2.2.2.1 r2.2.2.2.2.2.2.2.2.2.2.2.2 a78)) [] [8, 12, 13] 8 42 dX11_bribe_48 mlX11_267 hw rfl rfl rfl rfl (mX1_can (hw.pick2 [8, 12, 13] rfl (by decide)) hc3) rfl rfl rfl rfl ⟨Nat.le_of_ble_eq_true rfl, Nat.le_of_ble_eq_true rfl⟩ rfl rfl (Nat.le_of_ble_eq_true rfl) ⟨Nat.le_refl _, Nat.le_refl _⟩ rfl ?_
      refine E.if_ne dX11_bribe_51 (fun h => ?_) (fun h => ?_)
      · have hf := e_iff hf h
        refine E.aload_n 0 dX11_bribe_61 rfl ?_
        refine E.get hw 0 0 dX11_bribe_62 flX11_57 rfl rfl rfl rfl ?_
        refine E.iload_n 1 dX11_bribe_65 rfl ?_
        refine E.iload_n 2 dX11_bribe_66 rfl ?_
        refine E.iconst (v := 1) dX11_bribe_67 (by decide) ?_
        obtain ⟨r4, hc4, hf⟩ := e_bind hf
        refine E.callVDs (es' := (wW64 G b v0_faultPlace v0_quashedRows v0_lastRefusal v1_beasts v1_meals v1_seats v1_laws v1_inForce a2 a3 a4 a5 v37_height v37_answer r2.1 r2.2.1 r2.2.2.1 r2.2.2.2.1 r2.2.2.2.2.1 r2.2.2.2.2.2.1 r2.2.2.2.2.2.2.1 v42_steadyBench v42_steadyWays v42_steadySwing r2.2.2.2.2.2.2.2.1 r2.2.2.2.2.2.2.2.2.1 r2.2.2.2.2.2.2.2.2.2.1 r2.2.2.2.2.2.2.2.2.2.2.1 r2.2.2.2.2.2.2.2.2.2.2.2.1 r2.2.2.2.2.2.2.2.2.2.2.2.2 a78)) [] [8, 12] 8 42 dX11_bribe_68 mlX11_280 hw rfl rfl rfl rfl (mX1_told (hw.pick2 [8, 12] rfl (by decide)) hc4) rfl rfl rfl rfl ⟨Nat.le_of_ble_eq_true rfl, Nat.le_of_ble_eq_true rfl⟩ rfl rfl (Nat.le_of_ble_eq_true rfl) ⟨Nat.le_refl _, Nat.le_refl _⟩ rfl ?_
        refine E.istore_n (lv' := [(3, .int r4), (0, .ref (b + 0)), (1, .int x1), (2, .int x2)]) dX11_bribe_71 (by decide) rfl ?_
        refine E.aload_n 1 dX11_bribe_72 rfl ?_
        refine E.get hw 0 0 dX11_bribe_73 flX11_10 rfl rfl rfl rfl ?_
        refine E.getN hw 1 1 dX11_bribe_76 fnX11_149 rfl rfl rfl rfl ?_
        refine E.iconst (v := 3) dX11_bribe_79 (by decide) ?_
        refine E.iload_n 2 dX11_bribe_80 rfl ?_
        refine E.iadd dX11_bribe_81 ?_
        refine E.dup2_11 dX11_bribe_82 rfl rfl ?_
        obtain ⟨g5, hf⟩ := gd_some hf
        refine E.iald hw 4 4 dX11_bribe_83 rfl rfl g5 ?_
        refine E.iload_n 0 dX11_bribe_84 rfl ?_
        refine E.isub dX11_bribe_85 ?_
        obtain ⟨g6, hf⟩ := gd_some hf
        refine E.iast (es' := (wW64 G b v0_faultPlace v0_quashedRows v0_lastRefusal v1_beasts v1_meals v1_seats v1_laws v1_inForce a2 a3 (va_up a4 ((3 + x1) : Int32).toNatClampNeg ((a4 ((3 + x1) : Int32).toNatClampNeg) - r4)) a5 v37_height v37_answer r2.1 r2.2.1 r2.2.2.1 r2.2.2.2.1 r2.2.2.2.2.1 r2.2.2.2.2.2.1 r2.2.2.2.2.2.2.1 v42_steadyBench v42_steadyWays v42_steadySwing r2.2.2.2.2.2.2.2.1 r2.2.2.2.2.2.2.2.2.1 r2.2.2.2.2.2.2.2.2.2.1 r2.2.2.2.2.2.2.2.2.2.2.1 r2.2.2.2.2.2.2.2.2.2.2.2.1 r2.2.2.2.2.2.2.2.2.2.2.2.2 a78)) hw 4 4 dX11_bribe_86 rfl rfl g6 rfl ?_
        refine E.iconst (v := 0) dX11_bribe_87 (by decide) ?_
        refine E.istore (lv' := [(4, .int 0), (3, .int r4), (0, .ref (b + 0)), (1, .int x1), (2, .int x2)]) dX11_bribe_88 (by decide) rfl ?_
        refine E.locals [2, 3, 4, 1, 0] rfl ?_
        exact tX11_bribe_N_L90 hw _ hf
      · have hf := e_ift hf h
        refine E.aload_n 0 dX11_bribe_54 rfl ?_
        refine E.bipush (v := -3) dX11_bribe_55 (by decide) ?_
        obtain ⟨r7, hc7, hf⟩ := e_bind hf
        refine E.callVDs (es' := (wW64 G b v0_faultPlace v0_quashedRows r7.2.1 v1_beasts v1_meals v1_seats v1_laws v1_inForce a2 a3 a4 a5 v37_height v37_answer r2.1 r2.2.1 r2.2.2.1 r2.2.2.2.1 r2.2.2.2.2.1 r2.2.2.2.2.2.1 r2.2.2.2.2.2.2.1 v42_steadyBench v42_steadyWays v42_steadySwing r2.2.2.2.2.2.2.2.1 r2.2.2.2.2.2.2.2.2.1 r2.2.2.2.2.2.2.2.2.2.1 r2.2.2.2.2.2.2.2.2.2.2.1 r2.2.2.2.2.2.2.2.2.2.2.2.1 r2.2.2.2.2.2.2.2.2.2.2.2.2 r7.2.2)) [] [0, 15] 0 0 dX11_bribe_57 mlX11_97 hw rfl rfl rfl rfl (mX11_refuse (hw.pick2 [0, 15] rfl (by decide)) hc7) rfl rfl rfl rfl ⟨Nat.le_of_ble_eq_true rfl, Nat.le_of_ble_eq_true rfl⟩ rfl rfl (Nat.le_of_ble_eq_true rfl) ⟨Nat.le_refl _, Nat.le_refl _⟩ rfl ?_
        cases hf
        exact E.iret dX11_bribe_60 (Nat.le_refl _) (Nat.le_refl _) (pD_rf _ _ _)
    · have hf := e_iff hf h
      refine E.locals [0] rfl ?_
      exact tX11_bribe_N_L21 hw hf
set_option maxRecDepth 100000 in
theorem mX11_bribe_N {G : GT} {b : Nat} {c0 : Hp} {n : Nat} (hw : e_wf (kW64) n) {v0_faultPlace : Int32} {v0_quashedRows : Int32} {v1_meals : Int32} {v37_height : Int32} {v37_answer : Int64} {v42_steadyBench : Int32} {v42_steadyWays : Int32} {v42_steadySwing : Int64} {Fu : Nat} {v0_lastRefusal : Int32} {v1_beasts : Int32} {v1_seats : Int32} {v1_laws : Int32} {v1_inForce : Int32} {a2 : Nat → Int32} {a3 : Nat → Int32} {a4 : Nat → Int32} {a5 : Nat → Option Nat} {a38 : Nat → Int32} {v42_beasts : Int32} {v42_seats : Int32} {v42_seated : Int32} {v42_quota : Int32} {v42_known : Int32} {v42_surveyed : Int32} {a43 : Nat → Int32} {a44 : Nat → Int32} {a45 : Nat → Int32} {a46 : Nat → Int32} {a47 : Nat → Int32} {a49 : Nat → Int32} {a78 : Nat → Int32} {x1 : Int32} {x2 : Int32} {R : Int32 × Int32 × (Nat → Int32) × (Nat → Int32) × (Nat → Int32) × Int32 × Int32 × Int32 × Int32 × Int32 × Int32 × (Nat → Int32) × (Nat → Int32) × (Nat → Int32) × (Nat → Int32) × (Nat → Int32) × (Nat → Int32) × (Nat → Int32)} (hf : fX11_bribe_N Fu v0_lastRefusal v1_beasts v1_seats v1_laws v1_inForce a2 a3 a4 a5 a38 v42_beasts v42_seats v42_seated v42_quota v42_known v42_surveyed a43 a44 a45 a46 a47 a49 a78 x1 x2 = some R) : e_C G b yX11_bribe cX11_bribe 5 (some .int) 5 0 0 [.ref (b + 0), .int x1, .int x2] (e_ov (kW64) (wW64 G b v0_faultPlace v0_quashedRows v0_lastRefusal v1_beasts v1_meals v1_seats v1_laws v1_inForce a2 a3 a4 a5 v37_height v37_answer a38 v42_beasts v42_seats v42_seated v42_quota v42_known v42_surveyed v42_steadyBench v42_steadyWays v42_steadySwing a43 a44 a45 a46 a47 a49 a78) c0) n (pD (some (.int R.1)) (e_ov (kW64) (wW64 G b v0_faultPlace v0_quashedRows R.2.1 v1_beasts v1_meals v1_seats v1_laws v1_inForce R.2.2.1 a3 R.2.2.2.1 a5 v37_height v37_answer R.2.2.2.2.1 R.2.2.2.2.2.1 R.2.2.2.2.2.2.1 R.2.2.2.2.2.2.2.1 R.2.2.2.2.2.2.2.2.1 R.2.2.2.2.2.2.2.2.2.1 R.2.2.2.2.2.2.2.2.2.2.1 v42_steadyBench v42_steadyWays v42_steadySwing R.2.2.2.2.2.2.2.2.2.2.2.1 R.2.2.2.2.2.2.2.2.2.2.2.2.1 R.2.2.2.2.2.2.2.2.2.2.2.2.2.1 R.2.2.2.2.2.2.2.2.2.2.2.2.2.2.1 R.2.2.2.2.2.2.2.2.2.2.2.2.2.2.2.1 R.2.2.2.2.2.2.2.2.2.2.2.2.2.2.2.2.1 R.2.2.2.2.2.2.2.2.2.2.2.2.2.2.2.2.2) c0) n) := e_C.of (by decide) (Nat.le_of_ble_eq_true rfl) (tX11_bribe_N hw hf)
abbrev kW65 (q : Nat) : List Nat := [0, 1, 2, 3, 4, 5, 37, 38, 39, 42, 43, 44, 45, 46, 47, 49, 78, q, (q + 1), (q + 2), (q + 3), (q + 4)]
abbrev wW65 (G : GT) (b q nh nt ne ns : Nat) (v0_faultPlace : Int32) (v0_quashedRows : Int32) (v0_lastRefusal : Int32) (v1_beasts : Int32) (v1_meals : Int32) (v1_seats : Int32) (v1_laws : Int32) (v1_inForce : Int32) (a2 : Nat → Int32) (a3 : Nat → Int32) (a4 : Nat → Int32) (a5 : Nat → Option Nat) (v37_height : Int32) (v37_answer : Int64) (a38 : Nat → Int32) (a39 : Nat → Int64) (v42_beasts : Int32) (v42_seats : Int32) (v42_seated : Int32) (v42_quota : Int32) (v42_known : Int32) (v42_surveyed : Int32) (v42_steadyBench : Int32) (v42_steadyWays : Int32) (v42_steadySwing : Int64) (a43 : Nat → Int32) (a44 : Nat → Int32) (a45 : Nat → Int32) (a46 : Nat → Int32) (a47 : Nat → Int32) (a49 : Nat → Int32) (a78 : Nat → Int32) (aL1 : Nat → Int32) (aL2 : Nat → Int32) (aL3 : Nat → Int32) (aL4 : Nat → Int32) : List va_E := [.inr (11, [.ref (b + 1), .ref (b + 10), .ref (b + 29), .ref (b + 30), .ref (b + 32), .ref (b + 37), .ref (b + 40), .ref (b + 42), .ref (b + 69), .ref (b + 73), .ref (b + 74), .ref (b + 76), .ref (b + 78), .int v0_faultPlace, .int v0_quashedRows, .int v0_lastRefusal]), .inr (10, [.ref (b + 2), .ref (b + 3), .ref (b + 4), .ref (b + 5), .ref (b + 6), .int v1_beasts, .int v1_meals, .int v1_seats, .int v1_laws, .int v1_inForce]), aI G 48 a2, aI G 8 a3, aI G 6 a4, aQ G 4 6 a5, .inr (0, [.ref (b + 38), .ref (b + 39), .int v37_height, .long v37_answer]), aI G 10 a38, aJ G 51 a39, .inr (1, [.ref (b + 43), .ref (b + 44), .ref (b + 45), .ref (b + 46), .ref (b + 47), .ref (b + 48), .ref (b + 49), .ref (b + 50), .ref (b + 67), .int v42_beasts, .int v42_seats, .int v42_seated, .int v42_quota, .int v42_known, .int v42_surveyed, .int v42_steadyBench, .int v42_steadyWays, .long v42_steadySwing]), aI G 32 a43, aI G 8 a44, aI G 16 a45, aI G 512 a46, aI G 2 a47, aI G 8 a49, aI G 7 a78, .inr (5, [.ref (b + (q + 1)), .ref (b + (q + 2)), .ref (b + (q + 3)), .ref (b + (q + 4))]), aI G nh aL1, aI G nt aL2, aI G ne aL3, aI G ns aL4]
def fX11_bribe_L_L21 (Fu : Nat) (nh : Nat) (nt : Nat) (ne : Nat) (ns : Nat) (b q : Nat) (v0_lastRefusal : Int32) (v1_beasts : Int32) (v1_seats : Int32) (v1_laws : Int32) (v1_inForce : Int32) (a2 : Nat → Int32) (a3 : Nat → Int32) (a4 : Nat → Int32) (a5 : Nat → Option Nat) (v37_height : Int32) (v37_answer : Int64) (a38 : Nat → Int32) (a39 : Nat → Int64) (v42_beasts : Int32) (v42_seats : Int32) (v42_seated : Int32) (v42_quota : Int32) (v42_known : Int32) (v42_surveyed : Int32) (a43 : Nat → Int32) (a44 : Nat → Int32) (a45 : Nat → Int32) (a46 : Nat → Int32) (a47 : Nat → Int32) (a49 : Nat → Int32) (a78 : Nat → Int32) (aL1 : Nat → Int32) (aL2 : Nat → Int32) (aL3 : Nat → Int32) (aL4 : Nat → Int32) : Option (Int32 × Int32 × (Nat → Int32) × (Nat → Int32) × Int32 × Int64 × (Nat → Int32) × (Nat → Int64) × Int32 × Int32 × Int32 × Int32 × Int32 × Int32 × (Nat → Int32) × (Nat → Int32) × (Nat → Int32) × (Nat → Int32) × (Nat → Int32) × (Nat → Int32) × (Nat → Int32)) := (fX11_refuse v0_lastRefusal a78 (-1 : Int32)).bind fun r8 => (some (r8.1, r8.2.1, a2, a4, v37_height, v37_answer, a38, a39, v42_beasts, v42_seats, v42_seated, v42_quota, v42_known, v42_surveyed, a43, a44, a45, a46, a47, a49, r8.2.2))
set_option maxHeartbeats 4000000 in
set_option maxRecDepth 100000 in
theorem tX11_bribe_L_L21 {G : GT} {b : Nat} {q nh nt ne ns : Nat} {c0 : Hp} {n : Nat} (hw : e_wf (kW65 q) n) {v0_faultPlace : Int32} {v0_quashedRows : Int32} {v1_meals : Int32} {v42_steadyBench : Int32} {v42_steadyWays : Int32} {v42_steadySwing : Int64} {Fu : Nat} {v0_lastRefusal : Int32} {v1_beasts : Int32} {v1_seats : Int32} {v1_laws : Int32} {v1_inForce : Int32} {a2 : Nat → Int32} {a3 : Nat → Int32} {a4 : Nat → Int32} {a5 : Nat → Option Nat} {v37_height : Int32} {v37_answer : Int64} {a38 : Nat → Int32} {a39 : Nat → Int64} {v42_beasts : Int32} {v42_seats : Int32} {v42_seated : Int32} {v42_quota : Int32} {v42_known : Int32} {v42_surveyed : Int32} {a43 : Nat → Int32} {a44 : Nat → Int32} {a45 : Nat → Int32} {a46 : Nat → Int32} {a47 : Nat → Int32} {a49 : Nat → Int32} {a78 : Nat → Int32} {aL1 : Nat → Int32} {aL2 : Nat → Int32} {aL3 : Nat → Int32} {aL4 : Nat → Int32} {R : Int32 × Int32 × (Nat → Int32) × (Nat → Int32) × Int32 × Int64 × (Nat → Int32) × (Nat → Int64) × Int32 × Int32 × Int32 × Int32 × Int32 × Int32 × (Nat → Int32) × (Nat → Int32) × (Nat → Int32) × (Nat → Int32) × (Nat → Int32) × (Nat → Int32) × (Nat → Int32)} (hf : fX11_bribe_L_L21 Fu nh nt ne ns b q v0_lastRefusal v1_beasts v1_seats v1_laws v1_inForce a2 a3 a4 a5 v37_height v37_answer a38 a39 v42_beasts v42_seats v42_seated v42_quota v42_known v42_surveyed a43 a44 a45 a46 a47 a49 a78 aL1 aL2 aL3 aL4 = some R) : E G b yX11_bribe cX11_bribe 5 (some .int) (e_rm 6 0 0) e_X0 (e_Z G b (pD (some (.int R.1)) (e_ov (kW65 q) (wW65 G b q nh nt ne ns v0_faultPlace v0_quashedRows R.2.1 v1_beasts v1_meals v1_seats v1_laws v1_inForce R.2.2.1 a3 R.2.2.2.1 a5 R.2.2.2.2.1 R.2.2.2.2.2.1 R.2.2.2.2.2.2.1 R.2.2.2.2.2.2.2.1 R.2.2.2.2.2.2.2.2.1 R.2.2.2.2.2.2.2.2.2.1 R.2.2.2.2.2.2.2.2.2.2.1 R.2.2.2.2.2.2.2.2.2.2.2.1 R.2.2.2.2.2.2.2.2.2.2.2.2.1 R.2.2.2.2.2.2.2.2.2.2.2.2.2.1 v42_steadyBench v42_steadyWays v42_steadySwing R.2.2.2.2.2.2.2.2.2.2.2.2.2.2.1 R.2.2.2.2.2.2.2.2.2.2.2.2.2.2.2.1 R.2.2.2.2.2.2.2.2.2.2.2.2.2.2.2.2.1 R.2.2.2.2.2.2.2.2.2.2.2.2.2.2.2.2.2.1 R.2.2.2.2.2.2.2.2.2.2.2.2.2.2.2.2.2.2.1 R.2.2.2.2.2.2.2.2.2.2.2.2.2.2.2.2.2.2.2.1 R.2.2.2.2.2.2.2.2.2.2.2.2.2.2.2.2.2.2.2.2 aL1 aL2 aL3 aL4) c0) n) 0 0) 21 [(0, .ref (b + 0))] [] (e_ov (kW65 q) (wW65 G b q nh nt ne ns v0_faultPlace v0_quashedRows v0_lastRefusal v1_beasts v1_meals v1_seats v1_laws v1_inForce a2 a3 a4 a5 v37_height v37_answer a38 a39 v42_beasts v42_seats v42_seated v42_quota v42_known v42_surveyed v42_steadyBench v42_steadyWays v42_steadySwing a43 a44 a45 a46 a47 a49 a78 aL1 aL2 aL3 aL4) c0) n 0 0 := by
  unfold fX11_bribe_L_L21 at hf
  refine E.aload_n 0 dX11_bribe_21 rfl ?_
  refine E.iconst (v := -1) dX11_bribe_22 (by decide) ?_
  obtain ⟨r8, hc8, hf⟩ := e_bind hf
  refine E.callVDs (es' := (wW65 G b q nh nt ne ns v0_faultPlace v0_quashedRows r8.2.1 v1_beasts v1_meals v1_seats v1_laws v1_inForce a2 a3 a4 a5 v37_height v37_answer a38 a39 v42_beasts v42_seats v42_seated v42_quota v42_known v42_surveyed v42_steadyBench v42_steadyWays v42_steadySwing a43 a44 a45 a46 a47 a49 r8.2.2 aL1 aL2 aL3 aL4)) [] [0, 16] 0 0 dX11_bribe_23 mlX11_97 hw rfl rfl rfl rfl (mX11_refuse (hw.pick2 [0, 16] rfl (by decide)) hc8) rfl rfl rfl rfl ⟨Nat.le_of_ble_eq_true rfl, Nat.le_of_ble_eq_true rfl⟩ rfl rfl (Nat.le_of_ble_eq_true rfl) ⟨Nat.le_refl _, Nat.le_refl _⟩ rfl ?_
  cases hf
  exact E.iret dX11_bribe_26 (Nat.le_refl _) (Nat.le_refl _) (pD_rf _ _ _)
def fX11_bribe_L_L90 (Fu : Nat) (nh : Nat) (nt : Nat) (ne : Nat) (ns : Nat) (b q : Nat) : Nat → Int32 → Int32 → Int32 → Int32 → Int32 → (Nat → Int32) → (Nat → Int32) → (Nat → Int32) → (Nat → Option Nat) → Int32 → Int64 → (Nat → Int32) → (Nat → Int64) → Int32 → Int32 → Int32 → Int32 → Int32 → Int32 → (Nat → Int32) → (Nat → Int32) → (Nat → Int32) → (Nat → Int32) → (Nat → Int32) → (Nat → Int32) → (Nat → Int32) → (Nat → Int32) → (Nat → Int32) → (Nat → Int32) → (Nat → Int32) → Int32 → Int32 → Int32 → Int32 → Option (Int32 × Int32 × (Nat → Int32) × (Nat → Int32) × Int32 × Int64 × (Nat → Int32) × (Nat → Int64) × Int32 × Int32 × Int32 × Int32 × Int32 × Int32 × (Nat → Int32) × (Nat → Int32) × (Nat → Int32) × (Nat → Int32) × (Nat → Int32) × (Nat → Int32) × (Nat → Int32))
  | 0, _, _, _, _, _, _, _, _, _, _, _, _, _, _, _, _, _, _, _, _, _, _, _, _, _, _, _, _, _, _, _, _, _, _ => none
  | k + 1, v0_lastRefusal, v1_beasts, v1_seats, v1_laws, v1_inForce, a2, a3, a4, a5, v37_height, v37_answer, a38, a39, v42_beasts, v42_seats, v42_seated, v42_quota, v42_known, v42_surveyed, a43, a44, a45, a46, a47, a49, a78, aL1, aL2, aL3, aL4, x1, x2, x3, x4 => if (v1_beasts : Int32) ≤ (x4 : Int32) then ((fX11_accept v0_lastRefusal v42_known x3).bind fun r9 => (some (r9.1, r9.2.1, a2, a4, v37_height, v37_answer, a38, a39, v42_beasts, v42_seats, v42_seated, v42_quota, r9.2.2, v42_surveyed, a43, a44, a45, a46, a47, a49, a78))) else (if ((((x2 : Int32) >>> ((x4 : Int32) &&& 31)) &&& 1) : Int32) = (1 : Int32) then ((fX10_trait a2 x4 5).bind fun r10 => ((fX10_setTrait a2 x4 5 (r10 ||| ((1 : Int32) <<< ((x1 : Int32) &&& 31)))).bind fun r11 => ((fX11_bribe_L_L90 Fu nh nt ne ns b q k) v0_lastRefusal v1_beasts v1_seats v1_laws v1_inForce r11 a3 a4 a5 v37_height v37_answer a38 a39 v42_beasts v42_seats v42_seated v42_quota v42_known v42_surveyed a43 a44 a45 a46 a47 a49 a78 aL1 aL2 aL3 aL4 x1 x2 x3 (x4 + 1)))) else ((fX11_bribe_L_L90 Fu nh nt ne ns b q k) v0_lastRefusal v1_beasts v1_seats v1_laws v1_inForce a2 a3 a4 a5 v37_height v37_answer a38 a39 v42_beasts v42_seats v42_seated v42_quota v42_known v42_surveyed a43 a44 a45 a46 a47 a49 a78 aL1 aL2 aL3 aL4 x1 x2 x3 (x4 + 1)))
set_option maxHeartbeats 4000000 in
set_option maxRecDepth 100000 in
theorem tX11_bribe_L_L90 {G : GT} {b : Nat} {q nh nt ne ns : Nat} {c0 : Hp} {n : Nat} (hw : e_wf (kW65 q) n) {v0_faultPlace : Int32} {v0_quashedRows : Int32} {v1_meals : Int32} {v42_steadyBench : Int32} {v42_steadyWays : Int32} {v42_steadySwing : Int64} {Fu : Nat} : ∀ (k : Nat) {v0_lastRefusal : Int32} {v1_beasts : Int32} {v1_seats : Int32} {v1_laws : Int32} {v1_inForce : Int32} {a2 : Nat → Int32} {a3 : Nat → Int32} {a4 : Nat → Int32} {a5 : Nat → Option Nat} {v37_height : Int32} {v37_answer : Int64} {a38 : Nat → Int32} {a39 : Nat → Int64} {v42_beasts : Int32} {v42_seats : Int32} {v42_seated : Int32} {v42_quota : Int32} {v42_known : Int32} {v42_surveyed : Int32} {a43 : Nat → Int32} {a44 : Nat → Int32} {a45 : Nat → Int32} {a46 : Nat → Int32} {a47 : Nat → Int32} {a49 : Nat → Int32} {a78 : Nat → Int32} {aL1 : Nat → Int32} {aL2 : Nat → Int32} {aL3 : Nat → Int32} {aL4 : Nat → Int32} {x1 : Int32} {x2 : Int32} {x3 : Int32} {x4 : Int32} {R : Int32 × Int32 × (Nat → Int32) × (Nat → Int32) × Int32 × Int64 × (Nat → Int32) × (Nat → Int64) × Int32 × Int32 × Int32 × Int32 × Int32 × Int32 × (Nat → Int32) × (Nat → Int32) × (Nat → Int32) × (Nat → Int32) × (Nat → Int32) × (Nat → Int32) × (Nat → Int32)}, fX11_bribe_L_L90 Fu nh nt ne ns b q k v0_lastRefusal v1_beasts v1_seats v1_laws v1_inForce a2 a3 a4 a5 v37_height v37_answer a38 a39 v42_beasts v42_seats v42_seated v42_quota v42_known v42_surveyed a43 a44 a45 a46 a47 a49 a78 aL1 aL2 aL3 aL4 x1 x2 x3 x4 = some R → E G b yX11_bribe cX11_bribe 5 (some .int) (e_rm 6 0 0) e_X0 (e_Z G b (pD (some (.int R.1)) (e_ov (kW65 q) (wW65 G b q nh nt ne ns v0_faultPlace v0_quashedRows R.2.1 v1_beasts v1_meals v1_seats v1_laws v1_inForce R.2.2.1 a3 R.2.2.2.1 a5 R.2.2.2.2.1 R.2.2.2.2.2.1 R.2.2.2.2.2.2.1 R.2.2.2.2.2.2.2.1 R.2.2.2.2.2.2.2.2.1 R.2.2.2.2.2.2.2.2.2.1 R.2.2.2.2.2.2.2.2.2.2.1 R.2.2.2.2.2.2.2.2.2.2.2.1 R.2.2.2.2.2.2.2.2.2.2.2.2.1 R.2.2.2.2.2.2.2.2.2.2.2.2.2.1 v42_steadyBench v42_steadyWays v42_steadySwing R.2.2.2.2.2.2.2.2.2.2.2.2.2.2.1 R.2.2.2.2.2.2.2.2.2.2.2.2.2.2.2.1 R.2.2.2.2.2.2.2.2.2.2.2.2.2.2.2.2.1 R.2.2.2.2.2.2.2.2.2.2.2.2.2.2.2.2.2.1 R.2.2.2.2.2.2.2.2.2.2.2.2.2.2.2.2.2.2.1 R.2.2.2.2.2.2.2.2.2.2.2.2.2.2.2.2.2.2.2.1 R.2.2.2.2.2.2.2.2.2.2.2.2.2.2.2.2.2.2.2.2 aL1 aL2 aL3 aL4) c0) n) 0 0) 90 [(0, .ref (b + 0)), (1, .int x1), (2, .int x2), (3, .int x3), (4, .int x4)] [] (e_ov (kW65 q) (wW65 G b q nh nt ne ns v0_faultPlace v0_quashedRows v0_lastRefusal v1_beasts v1_meals v1_seats v1_laws v1_inForce a2 a3 a4 a5 v37_height v37_answer a38 a39 v42_beasts v42_seats v42_seated v42_quota v42_known v42_surveyed v42_steadyBench v42_steadyWays v42_steadySwing a43 a44 a45 a46 a47 a49 a78 aL1 aL2 aL3 aL4) c0) n 0 0 := by
  intro k
  induction k with
  | zero =>
    intro _ _ _ _ _ _ _ _ _ _ _ _ _ _ _ _ _ _ _ _ _ _ _ _ _ _ _ _ _ _ _ _ _ _ _ hf
    have hf : (none : Option (Int32 × Int32 × (Nat → Int32) × (Nat → Int32) × Int32 × Int64 × (Nat → Int32) × (Nat → Int64) × Int32 × Int32 × Int32 × Int32 × Int32 × Int32 × (Nat → Int32) × (Nat → Int32) × (Nat → Int32) × (Nat → Int32) × (Nat → Int32) × (Nat → Int32) × (Nat → Int32))) = some _ := hf
    cases hf
  | succ k ih =>
    intro v0_lastRefusal v1_beasts v1_seats v1_laws v1_inForce a2 a3 a4 a5 v37_height v37_answer a38 a39 v42_beasts v42_seats v42_seated v42_quota v42_known v42_surveyed a43 a44 a45 a46 a47 a49 a78 aL1 aL2 aL3 aL4 x1 x2 x3 x4 R hf
    rw [fX11_bribe_L_L90] at hf
    refine E.iload 4 dX11_bribe_90 rfl ?_
    refine E.aload_n 0 dX11_bribe_92 rfl ?_
    refine E.get hw 0 0 dX11_bribe_93 flX11_10 rfl rfl rfl rfl ?_
    refine E.getN hw 1 1 dX11_bribe_96 fnX11_101 rfl rfl rfl rfl ?_
    refine E.icmp_ge dX11_bribe_99 (fun h => ?_) (fun h => ?_)
    · have hf := e_ift hf h
      refine E.aload_n 0 dX11_bribe_142 rfl ?_
      refine E.iload_n 3 dX11_bribe_143 rfl ?_
      obtain ⟨r9, hc9, hf⟩ := e_bind hf
      refine E.callVDs (es' := (wW65 G b q nh nt ne ns v0_faultPlace v0_quashedRows r9.2.1 v1_beasts v1_meals v1_seats v1_laws v1_inForce a2 a3 a4 a5 v37_height v37_answer a38 a39 v42_beasts v42_seats v42_seated v42_quota r9.2.2 v42_surveyed v42_steadyBench v42_steadyWays v42_steadySwing a43 a44 a45 a46 a47 a49 a78 aL1 aL2 aL3 aL4)) [] [0, 9] 0 0 dX11_bribe_144 mlX11_108 hw rfl rfl rfl rfl (mX11_accept (hw.pick2 [0, 9] rfl (by decide)) hc9) rfl rfl rfl rfl ⟨Nat.le_of_ble_eq_true rfl, Nat.le_of_ble_eq_true rfl⟩ rfl rfl (Nat.le_of_ble_eq_true rfl) ⟨Nat.le_refl _, Nat.le_refl _⟩ rfl ?_
      cases hf
      exact E.iret dX11_bribe_147 (Nat.le_refl _) (Nat.le_refl _) (pD_rf _ _ _)
    · have hf := e_iff hf h
      refine E.iload_n 2 dX11_bribe_102 rfl ?_
      refine E.iload 4 dX11_bribe_103 rfl ?_
      refine E.ishr dX11_bribe_105 ?_
      refine E.iconst (v := 1) dX11_bribe_106 (by decide) ?_
      refine E.iand dX11_bribe_107 ?_
      refine E.iconst (v := 1) dX11_bribe_108 (by decide) ?_
      refine E.icmp_ne dX11_bribe_109 (fun h => ?_) (fun h => ?_)
      · have hf := e_iff hf h
        refine E.iinc (q := 4) (v := (x4 + 1)) (lv' := [(4, .int (x4 + 1)), (0, .ref (b + 0)), (1, .int x1), (2, .int x2), (3, .int x3)]) dX11_bribe_136 rfl rfl (by decide) rfl ?_
        refine E.goto dX11_bribe_139 ?_
        refine E.locals [1, 2, 3, 4, 0] rfl ?_
        exact ih hf
      · have hf := e_ift hf h
        refine E.aload_n 0 dX11_bribe_112 rfl ?_
        refine E.get hw 0 0 dX11_bribe_113 flX11_10 rfl rfl rfl rfl ?_
        refine E.iload 4 dX11_bribe_116 rfl ?_
        refine E.iconst (v := 5) dX11_bribe_118 (by decide) ?_
        refine E.aload_n 0 dX11_bribe_119 rfl ?_
        refine E.get hw 0 0 dX11_bribe_120 flX11_10 rfl rfl rfl rfl ?_
        refine E.iload 4 dX11_bribe_123 rfl ?_
        refine E.iconst (v := 5) dX11_bribe_125 (by decide) ?_
        obtain ⟨r10, hc10, hf⟩ := e_bind hf
        refine E.callVDs (es' := (wW65 G b q nh nt ne ns v0_faultPlace v0_quashedRows v0_lastRefusal v1_beasts v1_meals v1_seats v1_laws v1_inForce a2 a3 a4 a5 v37_height v37_answer a38 a39 v42_beasts v42_seats v42_seated v42_quota v42_known v42_surveyed v42_steadyBench v42_steadyWays v42_steadySwing a43 a44 a45 a46 a47 a49 a78 aL1 aL2 aL3 aL4)) [.int 5, .int x4, .ref (b + 1)] [1, 2] 1 1 dX11_bribe_126 mlX11_115 hw rfl rfl rfl rfl (mX10_trait (hw.pick2 [1, 2] rfl (by decide)) hc10) rfl rfl rfl rfl ⟨Nat.le_of_ble_eq_true rfl, Nat.le_of_ble_eq_true rfl⟩ rfl rfl (Nat.le_of_ble_eq_true rfl) ⟨Nat.le_refl _, Nat.le_refl _⟩ rfl ?_
        refine E.iconst (v := 1) dX11_bribe_129 (by decide) ?_
        refine E.iload_n 1 dX11_bribe_130 rfl ?_
        refine E.ishl dX11_bribe_131 ?_
        refine E.ior dX11_bribe_132 ?_
        obtain ⟨r11, hc11, hf⟩ := e_bind hf
        refine E.callVDs (es' := (wW65 G b q nh nt ne ns v0_faultPlace v0_quashedRows v0_lastRefusal v1_beasts v1_meals v1_seats v1_laws v1_inForce r11 a3 a4 a5 v37_height v37_answer a38 a39 v42_beasts v42_seats v42_seated v42_quota v42_known v42_surveyed v42_steadyBench v42_steadyWays v42_steadySwing a43 a44 a45 a46 a47 a49 a78 aL1 aL2 aL3 aL4)) [] [1, 2] 1 1 dX11_bribe_133 mlX11_104 hw rfl rfl rfl rfl (mX10_setTrait (hw.pick2 [1, 2] rfl (by decide)) hc11) rfl rfl rfl rfl ⟨Nat.le_of_ble_eq_true rfl, Nat.le_of_ble_eq_true rfl⟩ rfl rfl (Nat.le_of_ble_eq_true rfl) ⟨Nat.le_refl _, Nat.le_refl _⟩ rfl ?_
        refine E.iinc (q := 4) (v := (x4 + 1)) (lv' := [(4, .int (x4 + 1)), (0, .ref (b + 0)), (1, .int x1), (2, .int x2), (3, .int x3)]) dX11_bribe_136 rfl rfl (by decide) rfl ?_
        refine E.goto dX11_bribe_139 ?_
        refine E.locals [1, 2, 3, 4, 0] rfl ?_
        exact ih hf
def fX11_bribe_L (Fu : Nat) (nh : Nat) (nt : Nat) (ne : Nat) (ns : Nat) (b q : Nat) (v0_lastRefusal : Int32) (v1_beasts : Int32) (v1_seats : Int32) (v1_laws : Int32) (v1_inForce : Int32) (a2 : Nat → Int32) (a3 : Nat → Int32) (a4 : Nat → Int32) (a5 : Nat → Option Nat) (v37_height : Int32) (v37_answer : Int64) (a38 : Nat → Int32) (a39 : Nat → Int64) (v42_beasts : Int32) (v42_seats : Int32) (v42_seated : Int32) (v42_quota : Int32) (v42_known : Int32) (v42_surveyed : Int32) (a43 : Nat → Int32) (a44 : Nat → Int32) (a45 : Nat → Int32) (a46 : Nat → Int32) (a47 : Nat → Int32) (a49 : Nat → Int32) (a78 : Nat → Int32) (aL1 : Nat → Int32) (aL2 : Nat → Int32) (aL3 : Nat → Int32) (aL4 : Nat → Int32) (x1 : Int32) (x2 : Int32) : Option (Int32 × Int32 × (Nat → Int32) × (Nat → Int32) × Int32 × Int64 × (Nat → Int32) × (Nat → Int64) × Int32 × Int32 × Int32 × Int32 × Int32 × Int32 × (Nat → Int32) × (Nat → Int32) × (Nat → Int32) × (Nat → Int32) × (Nat → Int32) × (Nat → Int32) × (Nat → Int32)) := (fX11_isSide x1).bind fun r1 => (if (r1 : Int32) = (0 : Int32) then (fX11_bribe_L_L21 Fu nh nt ne ns b q v0_lastRefusal v1_beasts v1_seats v1_laws v1_inForce a2 a3 a4 a5 v37_height v37_answer a38 a39 v42_beasts v42_seats v42_seated v42_quota v42_known v42_surveyed a43 a44 a45 a46 a47 a49 a78 aL1 aL2 aL3 aL4) else (if ((x2 &&& (v1_seats ^^^ (-1 : Int32))) : Int32) = (0 : Int32) then ((fX1_learn_L Fu nh nt ne ns b q v1_beasts v1_seats v1_laws v1_inForce a2 a3 a4 a5 v37_height v37_answer a38 a39 v42_beasts v42_seats v42_seated v42_quota v42_known v42_surveyed a43 a44 a45 a46 a47 a49 aL1 aL2 aL3 aL4).bind fun r2 => ((fX1_can r2.2.2.2.2.2.1 r2.2.2.2.2.2.2.2.2.2.2.2.2.2.1 r2.2.2.2.2.2.2.2.2.2.2.2.2.2.2.1 x1 x2).bind fun r3 => (if (r3 : Int32) = (0 : Int32) then ((fX11_refuse v0_lastRefusal a78 (-3 : Int32)).bind fun r7 => (some (r7.1, r7.2.1, a2, a4, r2.1, r2.2.1, r2.2.2.1, r2.2.2.2.1, r2.2.2.2.2.1, r2.2.2.2.2.2.1, r2.2.2.2.2.2.2.1, r2.2.2.2.2.2.2.2.1, r2.2.2.2.2.2.2.2.2.1, r2.2.2.2.2.2.2.2.2.2.1, r2.2.2.2.2.2.2.2.2.2.2.1, r2.2.2.2.2.2.2.2.2.2.2.2.1, r2.2.2.2.2.2.2.2.2.2.2.2.2.1, r2.2.2.2.2.2.2.2.2.2.2.2.2.2.1, r2.2.2.2.2.2.2.2.2.2.2.2.2.2.2.1, r2.2.2.2.2.2.2.2.2.2.2.2.2.2.2.2, r7.2.2))) else ((fX1_told r2.2.2.2.2.2.2.2.2.2.2.2.2.2.1 x1 x2 1).bind fun r4 => (gd (3 + x1) 6 (gd (3 + x1) 6 (fX11_bribe_L_L90 Fu nh nt ne ns b q Fu v0_lastRefusal v1_beasts v1_seats v1_laws v1_inForce a2 a3 (va_up a4 ((3 + x1) : Int32).toNatClampNeg ((a4 ((3 + x1) : Int32).toNatClampNeg) - r4)) a5 r2.1 r2.2.1 r2.2.2.1 r2.2.2.2.1 r2.2.2.2.2.1 r2.2.2.2.2.2.1 r2.2.2.2.2.2.2.1 r2.2.2.2.2.2.2.2.1 r2.2.2.2.2.2.2.2.2.1 r2.2.2.2.2.2.2.2.2.2.1 r2.2.2.2.2.2.2.2.2.2.2.1 r2.2.2.2.2.2.2.2.2.2.2.2.1 r2.2.2.2.2.2.2.2.2.2.2.2.2.1 r2.2.2.2.2.2.2.2.2.2.2.2.2.2.1 r2.2.2.2.2.2.2.2.2.2.2.2.2.2.2.1 r2.2.2.2.2.2.2.2.2.2.2.2.2.2.2.2 a78 aL1 aL2 aL3 aL4 x1 x2 r4 0))))))) else (fX11_bribe_L_L21 Fu nh nt ne ns b q v0_lastRefusal v1_beasts v1_seats v1_laws v1_inForce a2 a3 a4 a5 v37_height v37_answer a38 a39 v42_beasts v42_seats v42_seated v42_quota v42_known v42_surveyed a43 a44 a45 a46 a47 a49 a78 aL1 aL2 aL3 aL4)))
set_option maxHeartbeats 4000000 in
set_option maxRecDepth 100000 in
theorem tX11_bribe_L {G : GT} {b : Nat} {q nh nt ne ns : Nat} {c0 : Hp} {n : Nat} (hw : e_wf (kW65 q) n) {v0_faultPlace : Int32} {v0_quashedRows : Int32} {v1_meals : Int32} {v42_steadyBench : Int32} {v42_steadyWays : Int32} {v42_steadySwing : Int64} {Fu : Nat} {v0_lastRefusal : Int32} {v1_beasts : Int32} {v1_seats : Int32} {v1_laws : Int32} {v1_inForce : Int32} {a2 : Nat → Int32} {a3 : Nat → Int32} {a4 : Nat → Int32} {a5 : Nat → Option Nat} {v37_height : Int32} {v37_answer : Int64} {a38 : Nat → Int32} {a39 : Nat → Int64} {v42_beasts : Int32} {v42_seats : Int32} {v42_seated : Int32} {v42_quota : Int32} {v42_known : Int32} {v42_surveyed : Int32} {a43 : Nat → Int32} {a44 : Nat → Int32} {a45 : Nat → Int32} {a46 : Nat → Int32} {a47 : Nat → Int32} {a49 : Nat → Int32} {a78 : Nat → Int32} {aL1 : Nat → Int32} {aL2 : Nat → Int32} {aL3 : Nat → Int32} {aL4 : Nat → Int32} {x1 : Int32} {x2 : Int32} {R : Int32 × Int32 × (Nat → Int32) × (Nat → Int32) × Int32 × Int64 × (Nat → Int32) × (Nat → Int64) × Int32 × Int32 × Int32 × Int32 × Int32 × Int32 × (Nat → Int32) × (Nat → Int32) × (Nat → Int32) × (Nat → Int32) × (Nat → Int32) × (Nat → Int32) × (Nat → Int32)} (hf : fX11_bribe_L Fu nh nt ne ns b q v0_lastRefusal v1_beasts v1_seats v1_laws v1_inForce a2 a3 a4 a5 v37_height v37_answer a38 a39 v42_beasts v42_seats v42_seated v42_quota v42_known v42_surveyed a43 a44 a45 a46 a47 a49 a78 aL1 aL2 aL3 aL4 x1 x2 = some R) : E G b yX11_bribe cX11_bribe 5 (some .int) (e_rm 6 0 0) e_X0 (e_Z G b (pD (some (.int R.1)) (e_ov (kW65 q) (wW65 G b q nh nt ne ns v0_faultPlace v0_quashedRows R.2.1 v1_beasts v1_meals v1_seats v1_laws v1_inForce R.2.2.1 a3 R.2.2.2.1 a5 R.2.2.2.2.1 R.2.2.2.2.2.1 R.2.2.2.2.2.2.1 R.2.2.2.2.2.2.2.1 R.2.2.2.2.2.2.2.2.1 R.2.2.2.2.2.2.2.2.2.1 R.2.2.2.2.2.2.2.2.2.2.1 R.2.2.2.2.2.2.2.2.2.2.2.1 R.2.2.2.2.2.2.2.2.2.2.2.2.1 R.2.2.2.2.2.2.2.2.2.2.2.2.2.1 v42_steadyBench v42_steadyWays v42_steadySwing R.2.2.2.2.2.2.2.2.2.2.2.2.2.2.1 R.2.2.2.2.2.2.2.2.2.2.2.2.2.2.2.1 R.2.2.2.2.2.2.2.2.2.2.2.2.2.2.2.2.1 R.2.2.2.2.2.2.2.2.2.2.2.2.2.2.2.2.2.1 R.2.2.2.2.2.2.2.2.2.2.2.2.2.2.2.2.2.2.1 R.2.2.2.2.2.2.2.2.2.2.2.2.2.2.2.2.2.2.2.1 R.2.2.2.2.2.2.2.2.2.2.2.2.2.2.2.2.2.2.2.2 aL1 aL2 aL3 aL4) c0) n) 0 0) 0 [(0, .ref (b + 0)), (1, .int x1), (2, .int x2)] [] (e_ov (kW65 q) (wW65 G b q nh nt ne ns v0_faultPlace v0_quashedRows v0_lastRefusal v1_beasts v1_meals v1_seats v1_laws v1_inForce a2 a3 a4 a5 v37_height v37_answer a38 a39 v42_beasts v42_seats v42_seated v42_quota v42_known v42_surveyed v42_steadyBench v42_steadyWays v42_steadySwing a43 a44 a45 a46 a47 a49 a78 aL1 aL2 aL3 aL4) c0) n 0 0 := by
  unfold fX11_bribe_L at hf
  refine E.iload_n 1 dX11_bribe_0 rfl ?_
  obtain ⟨r1, hc1, hf⟩ := e_bind hf
  refine E.callSD [] dX11_bribe_1 mlX11_203 (mX11_isSide hc1) ⟨Nat.le_of_ble_eq_true rfl, Nat.le_of_ble_eq_true rfl⟩ rfl rfl (Nat.le_of_ble_eq_true rfl) ⟨Nat.le_refl _, Nat.le_refl _⟩ rfl ?_
  refine E.if_eq dX11_bribe_4 (fun h => ?_) (fun h => ?_)
  · have hf := e_ift hf h
    refine E.locals [0] rfl ?_
    exact tX11_bribe_L_L21 hw hf
  · have hf := e_iff hf h
    refine E.iload_n 2 dX11_bribe_7 rfl ?_
    refine E.aload_n 0 dX11_bribe_8 rfl ?_
    refine E.get hw 0 0 dX11_bribe_9 flX11_10 rfl rfl rfl rfl ?_
    refine E.getN hw 1 1 dX11_bribe_12 fnX11_140 rfl rfl rfl rfl ?_
    refine E.iconst (v := -1) dX11_bribe_15 (by decide) ?_
    refine E.ixor dX11_bribe_16 ?_
    refine E.iand dX11_bribe_17 ?_
    refine E.if_eq dX11_bribe_18 (fun h => ?_) (fun h => ?_)
    · have hf := e_ift hf h
      refine E.aload_n 0 dX11_bribe_27 rfl ?_
      refine E.get hw 0 0 dX11_bribe_28 flX11_57 rfl rfl rfl rfl ?_
      refine E.aload_n 0 dX11_bribe_31 rfl ?_
      refine E.get hw 0 0 dX11_bribe_32 flX11_10 rfl rfl rfl rfl ?_
      refine E.aload_n 0 dX11_bribe_35 rfl ?_
      refine E.get hw 0 0 dX11_bribe_36 flX11_43 rfl rfl rfl rfl ?_
      obtain ⟨r2, hc2, hf⟩ := e_bind hf
      refine E.callVDs (es' := (wW65 G b q nh nt ne ns v0_faultPlace v0_quashedRows v0_lastRefusal v1_beasts v1_meals v1_seats v1_laws v1_inForce a2 a3 a4 a5 r2.1 r2.2.1 r2.2.2.1 r2.2.2.2.1 r2.2.2.2.2.1 r2.2.2.2.2.2.1 r2.2.2.2.2.2.2.1 r2.2.2.2.2.2.2.2.1 r2.2.2.2.2.2.2.2.2.1 r2.2.2.2.2.2.2.2.2.2.1 v42_steadyBench v42_steadyWays v42_steadySwing r2.2.2.2.2.2.2.2.2.2.2.1 r2.2.2.2.2.2.2.2.2.2.2.2.1 r2.2.2.2.2.2.2.2.2.2.2.2.2.1 r2.2.2.2.2.2.2.2.2.2.2.2.2.2.1 r2.2.2.2.2.2.2.2.2.2.2.2.2.2.2.1 r2.2.2.2.2.2.2.2.2.2.2.2.2.2.2.2 a78 aL1 aL2 aL3 aL4)) [] [1, 2, 3, 4, 5, 6, 7, 8, 9, 10, 11, 12, 13, 14, 15, 17, 18, 19, 20, 21] 9 42 dX11_bribe_39 mlX11_263 hw rfl rfl rfl rfl (mX1_learn_L (hw.pick2 [1, 2, 3, 4, 5, 6, 7, 8, 9, 10, 11, 12, 13, 14, 15, 17, 18, 19, 20, 21] rfl (by decide)) hc2) rfl rfl rfl rfl ⟨Nat.le_of_ble_eq_true rfl, Nat.le_of_ble_eq_true rfl⟩ rfl rfl (Nat.le_of_ble_eq_true rfl) ⟨Nat.le_refl _, Nat.le_refl _⟩ rfl ?_
      refine E.aload_n 0 dX11_bribe_42 rfl ?_
      refine E.get hw 0 0 dX11_bribe_43 flX11_57 rfl rfl rfl rfl ?_
      refine E.iload_n 1 dX11_bribe_46 rfl ?_
      refine E.iload_n 2 dX11_bribe_47 rfl ?_
      obtain ⟨r3, hc3, hf⟩ := e_bind hf
      refine E.callVDs (es' := (wW65 G b q nh nt ne ns v0_faultPlace v0_quashedRows v0_lastRefusal v1_beasts v1_meals v1_seats v1_laws v1_inForce a2 a3 a4 a5 r2.1 r2.2.1 r2.2.2.1 r2.2.2.2.1 r2.2.2.2.2.1 r2.2.2.2.2.2.1 r2.2.2.2.2.2.2.1 r2.2.2.2.2.2.2.2.1 r2.2.2.2.2.2.2.2.2.1 r2.2.2.2.2.2.2.2.2.2.1 v42_steadyBench v42_steadyWays v42_steadySwing r2.2.2.2.2.2.2.2.2.2.2.1 r2.2.2.2.2.2.2.2.2.2.2.2.1 r2.2.2.2.2.2.2.2.2.2.2.2.2.1 r2.2.2.2.2.2.2.2.2.2.2.2.2.2.1 r2.2.2.2.2.2.2.2.2.2.2.2.2.2.2.1 r2.2.2.2.2.2.2.2.2.2.2.2.2.2.2.2 a78 aL1 aL2 aL3 aL4)) [] [9, 13, 14] 9 42 dX11_bribe_48 mlX11_267 hw rfl rfl rfl rfl (mX1_can (hw.pick2 [9, 13, 14] rfl (by decide)) hc3) rfl rfl rfl rfl ⟨Nat.le_of_ble_eq_true rfl, Nat.le_of_ble_eq_true rfl⟩ rfl rfl (Nat.le_of_ble_eq_true rfl) ⟨Nat.le_refl _, Nat.le_refl _⟩ rfl ?_
      refine E.if_ne dX11_bribe_51 (fun h => ?_) (fun h => ?_)
      · have hf := e_iff hf h
        refine E.aload_n 0 dX11_bribe_61 rfl ?_
        refine E.get hw 0 0 dX11_bribe_62 flX11_57 rfl rfl rfl rfl ?_
        refine E.iload_n 1 dX11_bribe_65 rfl ?_
        refine E.iload_n 2 dX11_bribe_66 rfl ?_
        refine E.iconst (v := 1) dX11_bribe_67 (by decide) ?_
        obtain ⟨r4, hc4, hf⟩ := e_bind hf
        refine E.callVDs (es' := (wW65 G b q nh nt ne ns v0_faultPlace v0_quashedRows v0_lastRefusal v1_beasts v1_meals v1_seats v1_laws v1_inForce a2 a3 a4 a5 r2.1 r2.2.1 r2.2.2.1 r2.2.2.2.1 r2.2.2.2.2.1 r2.2.2.2.2.2.1 r2.2.2.2.2.2.2.1 r2.2.2.2.2.2.2.2.1 r2.2.2.2.2.2.2.2.2.1 r2.2.2.2.2.2.2.2.2.2.1 v42_steadyBench v42_steadyWays v42_steadySwing r2.2.2.2.2.2.2.2.2.2.2.1 r2.2.2.2.2.2.2.2.2.2.2.2.1 r2.2.2.2.2.2.2.2.2.2.2.2.2.1 r2.2.2.2.2.2.2.2.2.2.2.2.2.2.1 r2.2.2.2.2.2.2.2.2.2.2.2.2.2.2.1 r2.2.2.2.2.2.2.2.2.2.2.2.2.2.2.2 a78 aL1 aL2 aL3 aL4)) [] [9, 13] 9 42 dX11_bribe_68 mlX11_280 hw rfl rfl rfl rfl (mX1_told (hw.pick2 [9, 13] rfl (by decide)) hc4) rfl rfl rfl rfl ⟨Nat.le_of_ble_eq_true rfl, Nat.le_of_ble_eq_true rfl⟩ rfl rfl (Nat.le_of_ble_eq_true rfl) ⟨Nat.le_refl _, Nat.le_refl _⟩ rfl ?_
        refine E.istore_n (lv' := [(3, .int r4), (0, .ref (b + 0)), (1, .int x1), (2, .int x2)]) dX11_bribe_71 (by decide) rfl ?_
        refine E.aload_n 1 dX11_bribe_72 rfl ?_
        refine E.get hw 0 0 dX11_bribe_73 flX11_10 rfl rfl rfl rfl ?_
        refine E.getN hw 1 1 dX11_bribe_76 fnX11_149 rfl rfl rfl rfl ?_
        refine E.iconst (v := 3) dX11_bribe_79 (by decide) ?_
        refine E.iload_n 2 dX11_bribe_80 rfl ?_
        refine E.iadd dX11_bribe_81 ?_
        refine E.dup2_11 dX11_bribe_82 rfl rfl ?_
        obtain ⟨g5, hf⟩ := gd_some hf
        refine E.iald hw 4 4 dX11_bribe_83 rfl rfl g5 ?_
        refine E.iload_n 0 dX11_bribe_84 rfl ?_
        refine E.isub dX11_bribe_85 ?_
        obtain ⟨g6, hf⟩ := gd_some hf
        refine E.iast (es' := (wW65 G b q nh nt ne ns v0_faultPlace v0_quashedRows v0_lastRefusal v1_beasts v1_meals v1_seats v1_laws v1_inForce a2 a3 (va_up a4 ((3 + x1) : Int32).toNatClampNeg ((a4 ((3 + x1) : Int32).toNatClampNeg) - r4)) a5 r2.1 r2.2.1 r2.2.2.1 r2.2.2.2.1 r2.2.2.2.2.1 r2.2.2.2.2.2.1 r2.2.2.2.2.2.2.1 r2.2.2.2.2.2.2.2.1 r2.2.2.2.2.2.2.2.2.1 r2.2.2.2.2.2.2.2.2.2.1 v42_steadyBench v42_steadyWays v42_steadySwing r2.2.2.2.2.2.2.2.2.2.2.1 r2.2.2.2.2.2.2.2.2.2.2.2.1 r2.2.2.2.2.2.2.2.2.2.2.2.2.1 r2.2.2.2.2.2.2.2.2.2.2.2.2.2.1 r2.2.2.2.2.2.2.2.2.2.2.2.2.2.2.1 r2.2.2.2.2.2.2.2.2.2.2.2.2.2.2.2 a78 aL1 aL2 aL3 aL4)) hw 4 4 dX11_bribe_86 rfl rfl g6 rfl ?_
        refine E.iconst (v := 0) dX11_bribe_87 (by decide) ?_
        refine E.istore (lv' := [(4, .int 0), (3, .int r4), (0, .ref (b + 0)), (1, .int x1), (2, .int x2)]) dX11_bribe_88 (by decide) rfl ?_
        refine E.locals [2, 3, 4, 1, 0] rfl ?_
        exact tX11_bribe_L_L90 hw _ hf
      · have hf := e_ift hf h
        refine E.aload_n 0 dX11_bribe_54 rfl ?_
        refine E.bipush (v := -3) dX11_bribe_55 (by decide) ?_
        obtain ⟨r7, hc7, hf⟩ := e_bind hf
        refine E.callVDs (es' := (wW65 G b q nh nt ne ns v0_faultPlace v0_quashedRows r7.2.1 v1_beasts v1_meals v1_seats v1_laws v1_inForce a2 a3 a4 a5 r2.1 r2.2.1 r2.2.2.1 r2.2.2.2.1 r2.2.2.2.2.1 r2.2.2.2.2.2.1 r2.2.2.2.2.2.2.1 r2.2.2.2.2.2.2.2.1 r2.2.2.2.2.2.2.2.2.1 r2.2.2.2.2.2.2.2.2.2.1 v42_steadyBench v42_steadyWays v42_steadySwing r2.2.2.2.2.2.2.2.2.2.2.1 r2.2.2.2.2.2.2.2.2.2.2.2.1 r2.2.2.2.2.2.2.2.2.2.2.2.2.1 r2.2.2.2.2.2.2.2.2.2.2.2.2.2.1 r2.2.2.2.2.2.2.2.2.2.2.2.2.2.2.1 r2.2.2.2.2.2.2.2.2.2.2.2.2.2.2.2 r7.2.2 aL1 aL2 aL3 aL4)) [] [0, 16] 0 0 dX11_bribe_57 mlX11_97 hw rfl rfl rfl rfl (mX11_refuse (hw.pick2 [0, 16] rfl (by decide)) hc7) rfl rfl rfl rfl ⟨Nat.le_of_ble_eq_true rfl, Nat.le_of_ble_eq_true rfl⟩ rfl rfl (Nat.le_of_ble_eq_true rfl) ⟨Nat.le_refl _, Nat.le_refl _⟩ rfl ?_
        cases hf
        exact E.iret dX11_bribe_60 (Nat.le_refl _) (Nat.le_refl _) (pD_rf _ _ _)
    · have hf := e_iff hf h
      refine E.locals [0] rfl ?_
      exact tX11_bribe_L_L21 hw hf
set_option maxRecDepth 100000 in
theorem mX11_bribe_L {G : GT} {b : Nat} {q nh nt ne ns : Nat} {c0 : Hp} {n : Nat} (hw : e_wf (kW65 q) n) {v0_faultPlace : Int32} {v0_quashedRows : Int32} {v1_meals : Int32} {v42_steadyBench : Int32} {v42_steadyWays : Int32} {v42_steadySwing : Int64} {Fu : Nat} {v0_lastRefusal : Int32} {v1_beasts : Int32} {v1_seats : Int32} {v1_laws : Int32} {v1_inForce : Int32} {a2 : Nat → Int32} {a3 : Nat → Int32} {a4 : Nat → Int32} {a5 : Nat → Option Nat} {v37_height : Int32} {v37_answer : Int64} {a38 : Nat → Int32} {a39 : Nat → Int64} {v42_beasts : Int32} {v42_seats : Int32} {v42_seated : Int32} {v42_quota : Int32} {v42_known : Int32} {v42_surveyed : Int32} {a43 : Nat → Int32} {a44 : Nat → Int32} {a45 : Nat → Int32} {a46 : Nat → Int32} {a47 : Nat → Int32} {a49 : Nat → Int32} {a78 : Nat → Int32} {aL1 : Nat → Int32} {aL2 : Nat → Int32} {aL3 : Nat → Int32} {aL4 : Nat → Int32} {x1 : Int32} {x2 : Int32} {R : Int32 × Int32 × (Nat → Int32) × (Nat → Int32) × Int32 × Int64 × (Nat → Int32) × (Nat → Int64) × Int32 × Int32 × Int32 × Int32 × Int32 × Int32 × (Nat → Int32) × (Nat → Int32) × (Nat → Int32) × (Nat → Int32) × (Nat → Int32) × (Nat → Int32) × (Nat → Int32)} (hf : fX11_bribe_L Fu nh nt ne ns b q v0_lastRefusal v1_beasts v1_seats v1_laws v1_inForce a2 a3 a4 a5 v37_height v37_answer a38 a39 v42_beasts v42_seats v42_seated v42_quota v42_known v42_surveyed a43 a44 a45 a46 a47 a49 a78 aL1 aL2 aL3 aL4 x1 x2 = some R) : e_C G b yX11_bribe cX11_bribe 5 (some .int) 6 0 0 [.ref (b + 0), .int x1, .int x2] (e_ov (kW65 q) (wW65 G b q nh nt ne ns v0_faultPlace v0_quashedRows v0_lastRefusal v1_beasts v1_meals v1_seats v1_laws v1_inForce a2 a3 a4 a5 v37_height v37_answer a38 a39 v42_beasts v42_seats v42_seated v42_quota v42_known v42_surveyed v42_steadyBench v42_steadyWays v42_steadySwing a43 a44 a45 a46 a47 a49 a78 aL1 aL2 aL3 aL4) c0) n (pD (some (.int R.1)) (e_ov (kW65 q) (wW65 G b q nh nt ne ns v0_faultPlace v0_quashedRows R.2.1 v1_beasts v1_meals v1_seats v1_laws v1_inForce R.2.2.1 a3 R.2.2.2.1 a5 R.2.2.2.2.1 R.2.2.2.2.2.1 R.2.2.2.2.2.2.1 R.2.2.2.2.2.2.2.1 R.2.2.2.2.2.2.2.2.1 R.2.2.2.2.2.2.2.2.2.1 R.2.2.2.2.2.2.2.2.2.2.1 R.2.2.2.2.2.2.2.2.2.2.2.1 R.2.2.2.2.2.2.2.2.2.2.2.2.1 R.2.2.2.2.2.2.2.2.2.2.2.2.2.1 v42_steadyBench v42_steadyWays v42_steadySwing R.2.2.2.2.2.2.2.2.2.2.2.2.2.2.1 R.2.2.2.2.2.2.2.2.2.2.2.2.2.2.2.1 R.2.2.2.2.2.2.2.2.2.2.2.2.2.2.2.2.1 R.2.2.2.2.2.2.2.2.2.2.2.2.2.2.2.2.2.1 R.2.2.2.2.2.2.2.2.2.2.2.2.2.2.2.2.2.2.1 R.2.2.2.2.2.2.2.2.2.2.2.2.2.2.2.2.2.2.2.1 R.2.2.2.2.2.2.2.2.2.2.2.2.2.2.2.2.2.2.2.2 aL1 aL2 aL3 aL4) c0) n) := e_C.of (by decide) (Nat.le_of_ble_eq_true rfl) (tX11_bribe_L hw hf)
def fX1_bestAlone_L58 (Fu : Nat) (k8 : Int32 → (Nat → Int32) → (Nat → Int32) → (Nat → Int32) → (Nat → Int32) → Int32 → (Nat → Int64) → Int32 → Int32 → Int32 → Int64 → Int32 → Option (Int64 × Int32 × (Nat → Int64))) (v42_beasts : Int32) (a43 : Nat → Int32) (a44 : Nat → Int32) (a46 : Nat → Int32) (a47 : Nat → Int32) (v67_voters : Int32) (a68 : Nat → Int64) (x1 : Int32) (x2 : Int32) (x3 : Int32) (x4 : Int64) (x6 : Int32) (s0 : Int64) : Option (Int64 × Int32 × (Nat → Int64)) := (fX1_worth x1 s0).bind fun r4 => (k8 v42_beasts a43 a44 a46 a47 v67_voters a68 x1 x2 x3 (if (r4 : Int64) < x4 then x4 else r4) (x6 + 1))
set_option maxHeartbeats 4000000 in
set_option maxRecDepth 100000 in
theorem tX1_bestAlone_L58 {G : GT} {b : Nat} {c0 : Hp} {n : Nat} (hw : e_wf (kW52) n) {v42_seats : Int32} {v42_seated : Int32} {v42_quota : Int32} {v42_known : Int32} {v42_surveyed : Int32} {v42_steadyBench : Int32} {v42_steadyWays : Int32} {v42_steadySwing : Int64} {Fu : Nat} {k8 : Int32 → (Nat → Int32) → (Nat → Int32) → (Nat → Int32) → (Nat → Int32) → Int32 → (Nat → Int64) → Int32 → Int32 → Int32 → Int64 → Int32 → Option (Int64 × Int32 × (Nat → Int64))} (hk8 : ∀ {v42_beasts : Int32} {a43 : Nat → Int32} {a44 : Nat → Int32} {a46 : Nat → Int32} {a47 : Nat → Int32} {v67_voters : Int32} {a68 : Nat → Int64} {x1 : Int32} {x2 : Int32} {x3 : Int32} {x4 : Int64} {x6 : Int32} {R : Int64 × Int32 × (Nat → Int64)}, k8 v42_beasts a43 a44 a46 a47 v67_voters a68 x1 x2 x3 x4 x6 = some R → E G b yX1_bestAlone cX1_bestAlone 9 (some .long) (e_rm 3 0 0) e_X0 (e_Z G b (pD (some (.long R.1)) (e_ov (kW52) (wW52 G b v42_beasts v42_seats v42_seated v42_quota v42_known v42_surveyed v42_steadyBench v42_steadyWays v42_steadySwing a43 a44 a46 a47 R.2.1 R.2.2) c0) n) 0 0) 8 [(0, .ref (b + 42)), (1, .int x1), (2, .int x2), (3, .int x3), (4, .long x4), (6, .int x6)] [] (e_ov (kW52) (wW52 G b v42_beasts v42_seats v42_seated v42_quota v42_known v42_surveyed v42_steadyBench v42_steadyWays v42_steadySwing a43 a44 a46 a47 v67_voters a68) c0) n 0 0) {v42_beasts : Int32} {a43 : Nat → Int32} {a44 : Nat → Int32} {a46 : Nat → Int32} {a47 : Nat → Int32} {v67_voters : Int32} {a68 : Nat → Int64} {x1 : Int32} {x2 : Int32} {x3 : Int32} {x4 : Int64} {x6 : Int32} {s0 : Int64} {R : Int64 × Int32 × (Nat → Int64)} (hf : fX1_bestAlone_L58 Fu k8 v42_beasts a43 a44 a46 a47 v67_voters a68 x1 x2 x3 x4 x6 s0 = some R) : E G b yX1_bestAlone cX1_bestAlone 9 (some .long) (e_rm 3 0 0) e_X0 (e_Z G b (pD (some (.long R.1)) (e_ov (kW52) (wW52 G b v42_beasts v42_seats v42_seated v42_quota v42_known v42_surveyed v42_steadyBench v42_steadyWays v42_steadySwing a43 a44 a46 a47 R.2.1 R.2.2) c0) n) 0 0) 58 [(0, .ref (b + 42)), (1, .int x1), (2, .int x2), (3, .int x3), (4, .long x4), (6, .int x6)] [.long s0] (e_ov (kW52) (wW52 G b v42_beasts v42_seats v42_seated v42_quota v42_known v42_surveyed v42_steadyBench v42_steadyWays v42_steadySwing a43 a44 a46 a47 v67_voters a68) c0) n 0 0 := by
  unfold fX1_bestAlone_L58 at hf
  refine E.lstore (lv' := [(7, .long s0), (0, .ref (b + 42)), (1, .int x1), (2, .int x2), (3, .int x3), (4, .long x4), (6, .int x6)]) dX1_bestAlone_58 (by decide) rfl ?_
  refine E.lload 5 dX1_bestAlone_60 rfl ?_
  refine E.iload_n 2 dX1_bestAlone_62 rfl ?_
  refine E.lload 0 dX1_bestAlone_63 rfl ?_
  obtain ⟨r4, hc4, hf⟩ := e_bind hf
  refine E.callSD [.long x4] dX1_bestAlone_65 mlX1_139 (mX1_worth hc4) ⟨Nat.le_of_ble_eq_true rfl, Nat.le_of_ble_eq_true rfl⟩ rfl rfl (Nat.le_of_ble_eq_true rfl) ⟨Nat.le_refl _, Nat.le_refl _⟩ rfl ?_
  refine E.mmax_long dX1_bestAlone_68 mmX1_187 ⟨Nat.le_of_ble_eq_true rfl, Nat.le_of_ble_eq_true rfl⟩ ⟨Nat.le_refl _, Nat.le_refl _⟩ ?_
  refine E.lstore (lv' := [(4, .long (if (r4 : Int64) < x4 then x4 else r4)), (7, .long s0), (0, .ref (b + 42)), (1, .int x1), (2, .int x2), (3, .int x3), (6, .int x6)]) dX1_bestAlone_71 (by decide) rfl ?_
  refine E.iinc (q := 6) (v := (x6 + 1)) (lv' := [(6, .int (x6 + 1)), (4, .long (if (r4 : Int64) < x4 then x4 else r4)), (7, .long s0), (0, .ref (b + 42)), (1, .int x1), (2, .int x2), (3, .int x3)]) dX1_bestAlone_73 rfl rfl (by decide) rfl ?_
  refine E.goto dX1_bestAlone_76 ?_
  refine E.locals [3, 4, 5, 6, 1, 0] rfl ?_
  exact hk8 hf
def fX1_bestAlone_L8 (Fu : Nat) : Nat → Int32 → (Nat → Int32) → (Nat → Int32) → (Nat → Int32) → (Nat → Int32) → Int32 → (Nat → Int64) → Int32 → Int32 → Int32 → Int64 → Int32 → Option (Int64 × Int32 × (Nat → Int64))
  | 0, _, _, _, _, _, _, _, _, _, _, _, _ => none
  | k + 1, v42_beasts, a43, a44, a46, a47, v67_voters, a68, x1, x2, x3, x4, x6 => if (x2 : Int32) < (x6 : Int32) then (some (x4, v67_voters, a68)) else (if ((x6 &&& (x2 ^^^ (-1 : Int32))) : Int32) = (0 : Int32) then ((fX1_affords a46 a47 x1 x6).bind fun r1 => (if (r1 : Int32) = (0 : Int32) then ((fX1_bestAlone_L8 Fu k) v42_beasts a43 a44 a46 a47 v67_voters a68 x1 x2 x3 x4 (x6 + 1)) else (if (x1 : Int32) = (0 : Int32) then ((fX1_winningOn Fu v42_beasts a43 a44 v67_voters a68 x2 x3 x6 0).bind fun r3 => (fX1_bestAlone_L58 Fu (fX1_bestAlone_L8 Fu k) v42_beasts a43 a44 a46 a47 r3.2.1 r3.2.2 x1 x2 x3 x4 x6 r3.1)) else ((fX1_winningOn Fu v42_beasts a43 a44 v67_voters a68 x2 x3 0 x6).bind fun r2 => (fX1_bestAlone_L58 Fu (fX1_bestAlone_L8 Fu k) v42_beasts a43 a44 a46 a47 r2.2.1 r2.2.2 x1 x2 x3 x4 x6 r2.1))))) else ((fX1_bestAlone_L8 Fu k) v42_beasts a43 a44 a46 a47 v67_voters a68 x1 x2 x3 x4 (x6 + 1)))
set_option maxHeartbeats 4000000 in
set_option maxRecDepth 100000 in
theorem tX1_bestAlone_L8 {G : GT} {b : Nat} {c0 : Hp} {n : Nat} (hw : e_wf (kW52) n) {v42_seats : Int32} {v42_seated : Int32} {v42_quota : Int32} {v42_known : Int32} {v42_surveyed : Int32} {v42_steadyBench : Int32} {v42_steadyWays : Int32} {v42_steadySwing : Int64} {Fu : Nat} : ∀ (k : Nat) {v42_beasts : Int32} {a43 : Nat → Int32} {a44 : Nat → Int32} {a46 : Nat → Int32} {a47 : Nat → Int32} {v67_voters : Int32} {a68 : Nat → Int64} {x1 : Int32} {x2 : Int32} {x3 : Int32} {x4 : Int64} {x6 : Int32} {R : Int64 × Int32 × (Nat → Int64)}, fX1_bestAlone_L8 Fu k v42_beasts a43 a44 a46 a47 v67_voters a68 x1 x2 x3 x4 x6 = some R → E G b yX1_bestAlone cX1_bestAlone 9 (some .long) (e_rm 3 0 0) e_X0 (e_Z G b (pD (some (.long R.1)) (e_ov (kW52) (wW52 G b v42_beasts v42_seats v42_seated v42_quota v42_known v42_surveyed v42_steadyBench v42_steadyWays v42_steadySwing a43 a44 a46 a47 R.2.1 R.2.2) c0) n) 0 0) 8 [(0, .ref (b + 42)), (1, .int x1), (2, .int x2), (3, .int x3), (4, .long x4), (6, .int x6)] [] (e_ov (kW52) (wW52 G b v42_beasts v42_seats v42_seated v42_quota v42_known v42_surveyed v42_steadyBench v42_steadyWays v42_steadySwing a43 a44 a46 a47 v67_voters a68) c0) n 0 0 := by
  intro k
  induction k with
  | zero =>
    intro _ _ _ _ _ _ _ _ _ _ _ _ _ hf
    have hf : (none : Option (Int64 × Int32 × (Nat → Int64))) = some _ := hf
    cases hf
  | succ k ih =>
    intro v42_beasts a43 a44 a46 a47 v67_voters a68 x1 x2 x3 x4 x6 R hf
    rw [fX1_bestAlone_L8] at hf
    refine E.iload 5 dX1_bestAlone_8 rfl ?_
    refine E.iload_n 2 dX1_bestAlone_10 rfl ?_
    refine E.icmp_gt dX1_bestAlone_11 (fun h => ?_) (fun h => ?_)
    · have hf := e_ift hf h
      refine E.lload 4 dX1_bestAlone_79 rfl ?_
      cases hf
      exact E.lret dX1_bestAlone_81 (Nat.le_refl _) (Nat.le_refl _) (pD_rf _ _ _)
    · have hf := e_iff hf h
      refine E.iload 5 dX1_bestAlone_14 rfl ?_
      refine E.iload_n 2 dX1_bestAlone_16 rfl ?_
      refine E.iconst (v := -1) dX1_bestAlone_17 (by decide) ?_
      refine E.ixor dX1_bestAlone_18 ?_
      refine E.iand dX1_bestAlone_19 ?_
      refine E.if_ne dX1_bestAlone_20 (fun h => ?_) (fun h => ?_)
      · have hf := e_iff hf h
        refine E.iinc (q := 5) (v := (x6 + 1)) (lv' := [(6, .int (x6 + 1)), (0, .ref (b + 42)), (1, .int x1), (2, .int x2), (3, .int x3), (4, .long x4)]) dX1_bestAlone_73 rfl rfl (by decide) rfl ?_
        refine E.goto dX1_bestAlone_76 ?_
        refine E.locals [1, 2, 3, 4, 5, 0] rfl ?_
        exact ih hf
      · have hf := e_ift hf h
        refine E.aload_n 0 dX1_bestAlone_23 rfl ?_
        refine E.iload_n 1 dX1_bestAlone_24 rfl ?_
        refine E.iload 5 dX1_bestAlone_25 rfl ?_
        obtain ⟨r1, hc1, hf⟩ := e_bind hf
        refine E.callVDs (es' := (wW52 G b v42_beasts v42_seats v42_seated v42_quota v42_known v42_surveyed v42_steadyBench v42_steadyWays v42_steadySwing a43 a44 a46 a47 v67_voters a68)) [] [0, 3, 4] 0 42 dX1_bestAlone_27 mlX1_103 hw rfl rfl rfl rfl (mX1_affords (hw.pick2 [0, 3, 4] rfl (by decide)) hc1) rfl rfl rfl rfl ⟨Nat.le_of_ble_eq_true rfl, Nat.le_of_ble_eq_true rfl⟩ rfl rfl (Nat.le_of_ble_eq_true rfl) ⟨Nat.le_refl _, Nat.le_refl _⟩ rfl ?_
        refine E.if_eq dX1_bestAlone_30 (fun h => ?_) (fun h => ?_)
        · have hf := e_ift hf h
          refine E.iinc (q := 5) (v := (x6 + 1)) (lv' := [(6, .int (x6 + 1)), (0, .ref (b + 42)), (1, .int x1), (2, .int x2), (3, .int x3), (4, .long x4)]) dX1_bestAlone_73 rfl rfl (by decide) rfl ?_
          refine E.goto dX1_bestAlone_76 ?_
          refine E.locals [1, 2, 3, 4, 5, 0] rfl ?_
          exact ih hf
        · have hf := e_iff hf h
          refine E.iload_n 1 dX1_bestAlone_33 rfl ?_
          refine E.if_ne dX1_bestAlone_34 (fun h => ?_) (fun h => ?_)
          · have hf := e_iff hf h
            refine E.aload_n 0 dX1_bestAlone_49 rfl ?_
            refine E.iload_n 2 dX1_bestAlone_50 rfl ?_
            refine E.iload_n 3 dX1_bestAlone_51 rfl ?_
            refine E.iconst (v := 0) dX1_bestAlone_52 (by decide) ?_
            refine E.iload 5 dX1_bestAlone_53 rfl ?_
            obtain ⟨r2, hc2, hf⟩ := e_bind hf
            refine E.callVDs (es' := (wW52 G b v42_beasts v42_seats v42_seated v42_quota v42_known v42_surveyed v42_steadyBench v42_steadyWays v42_steadySwing a43 a44 a46 a47 r2.2.1 r2.2.2)) [] [0, 1, 2, 5, 6] 0 42 dX1_bestAlone_55 mlX1_107 hw rfl rfl rfl rfl (mX1_winningOn (hw.pick2 [0, 1, 2, 5, 6] rfl (by decide)) hc2) rfl rfl rfl rfl ⟨Nat.le_of_ble_eq_true rfl, Nat.le_of_ble_eq_true rfl⟩ rfl rfl (Nat.le_of_ble_eq_true rfl) ⟨Nat.le_refl _, Nat.le_refl _⟩ rfl ?_
            exact tX1_bestAlone_L58 hw ih hf
          · have hf := e_ift hf h
            refine E.aload_n 0 dX1_bestAlone_37 rfl ?_
            refine E.iload_n 2 dX1_bestAlone_38 rfl ?_
            refine E.iload_n 3 dX1_bestAlone_39 rfl ?_
            refine E.iload 5 dX1_bestAlone_40 rfl ?_
            refine E.iconst (v := 0) dX1_bestAlone_42 (by decide) ?_
            obtain ⟨r3, hc3, hf⟩ := e_bind hf
            refine E.callVDs (es' := (wW52 G b v42_beasts v42_seats v42_seated v42_quota v42_known v42_surveyed v42_steadyBench v42_steadyWays v42_steadySwing a43 a44 a46 a47 r3.2.1 r3.2.2)) [] [0, 1, 2, 5, 6] 0 42 dX1_bestAlone_43 mlX1_107 hw rfl rfl rfl rfl (mX1_winningOn (hw.pick2 [0, 1, 2, 5, 6] rfl (by decide)) hc3) rfl rfl rfl rfl ⟨Nat.le_of_ble_eq_true rfl, Nat.le_of_ble_eq_true rfl⟩ rfl rfl (Nat.le_of_ble_eq_true rfl) ⟨Nat.le_refl _, Nat.le_refl _⟩ rfl ?_
            refine E.goto dX1_bestAlone_46 ?_
            exact tX1_bestAlone_L58 hw ih hf
def fX1_bestAlone (Fu : Nat) (v42_beasts : Int32) (a43 : Nat → Int32) (a44 : Nat → Int32) (a46 : Nat → Int32) (a47 : Nat → Int32) (v67_voters : Int32) (a68 : Nat → Int64) (x1 : Int32) (x2 : Int32) (x3 : Int32) : Option (Int64 × Int32 × (Nat → Int64)) := fX1_bestAlone_L8 Fu Fu v42_beasts a43 a44 a46 a47 v67_voters a68 x1 x2 x3 (-9223372036854775808 : Int64) 0
set_option maxHeartbeats 4000000 in
set_option maxRecDepth 100000 in
theorem tX1_bestAlone {G : GT} {b : Nat} {c0 : Hp} {n : Nat} (hw : e_wf (kW52) n) {v42_seats : Int32} {v42_seated : Int32} {v42_quota : Int32} {v42_known : Int32} {v42_surveyed : Int32} {v42_steadyBench : Int32} {v42_steadyWays : Int32} {v42_steadySwing : Int64} {Fu : Nat} {v42_beasts : Int32} {a43 : Nat → Int32} {a44 : Nat → Int32} {a46 : Nat → Int32} {a47 : Nat → Int32} {v67_voters : Int32} {a68 : Nat → Int64} {x1 : Int32} {x2 : Int32} {x3 : Int32} {R : Int64 × Int32 × (Nat → Int64)} (hf : fX1_bestAlone Fu v42_beasts a43 a44 a46 a47 v67_voters a68 x1 x2 x3 = some R) : E G b yX1_bestAlone cX1_bestAlone 9 (some .long) (e_rm 3 0 0) e_X0 (e_Z G b (pD (some (.long R.1)) (e_ov (kW52) (wW52 G b v42_beasts v42_seats v42_seated v42_quota v42_known v42_surveyed v42_steadyBench v42_steadyWays v42_steadySwing a43 a44 a46 a47 R.2.1 R.2.2) c0) n) 0 0) 0 [(0, .ref (b + 42)), (1, .int x1), (2, .int x2), (3, .int x3)] [] (e_ov (kW52) (wW52 G b v42_beasts v42_seats v42_seated v42_quota v42_known v42_surveyed v42_steadyBench v42_steadyWays v42_steadySwing a43 a44 a46 a47 v67_voters a68) c0) n 0 0 := by
  unfold fX1_bestAlone at hf
  refine E.ldc2 dX1_bestAlone_0 kX1_130 ?_
  refine E.lstore (lv' := [(4, .long (-9223372036854775808 : Int64)), (0, .ref (b + 42)), (1, .int x1), (2, .int x2), (3, .int x3)]) dX1_bestAlone_3 (by decide) rfl ?_
  refine E.iconst (v := 0) dX1_bestAlone_5 (by decide) ?_
  refine E.istore (lv' := [(6, .int 0), (4, .long (-9223372036854775808 : Int64)), (0, .ref (b + 42)), (1, .int x1), (2, .int x2), (3, .int x3)]) dX1_bestAlone_6 (by decide) rfl ?_
  refine E.locals [2, 3, 4, 5, 1, 0] rfl ?_
  exact tX1_bestAlone_L8 hw _ hf
set_option maxRecDepth 100000 in
theorem mX1_bestAlone {G : GT} {b : Nat} {c0 : Hp} {n : Nat} (hw : e_wf (kW52) n) {v42_seats : Int32} {v42_seated : Int32} {v42_quota : Int32} {v42_known : Int32} {v42_surveyed : Int32} {v42_steadyBench : Int32} {v42_steadyWays : Int32} {v42_steadySwing : Int64} {Fu : Nat} {v42_beasts : Int32} {a43 : Nat → Int32} {a44 : Nat → Int32} {a46 : Nat → Int32} {a47 : Nat → Int32} {v67_voters : Int32} {a68 : Nat → Int64} {x1 : Int32} {x2 : Int32} {x3 : Int32} {R : Int64 × Int32 × (Nat → Int64)} (hf : fX1_bestAlone Fu v42_beasts a43 a44 a46 a47 v67_voters a68 x1 x2 x3 = some R) : e_C G b yX1_bestAlone cX1_bestAlone 9 (some .long) 3 0 0 [.ref (b + 42), .int x1, .int x2, .int x3] (e_ov (kW52) (wW52 G b v42_beasts v42_seats v42_seated v42_quota v42_known v42_surveyed v42_steadyBench v42_steadyWays v42_steadySwing a43 a44 a46 a47 v67_voters a68) c0) n (pD (some (.long R.1)) (e_ov (kW52) (wW52 G b v42_beasts v42_seats v42_seated v42_quota v42_known v42_surveyed v42_steadyBench v42_steadyWays v42_steadySwing a43 a44 a46 a47 R.2.1 R.2.2) c0) n) := e_C.of (by decide) (Nat.le_of_ble_eq_true rfl) (tX1_bestAlone hw hf)
def fX1_steadiest_L85 (Fu : Nat) (k19 : Int32 → Int32 → Int32 → Int64 → (Nat → Int32) → (Nat → Int32) → (Nat → Int32) → (Nat → Int32) → Int32 → (Nat → Int64) → Int32 → Int32 → Option (Int32 × Int32 × Int64 × Int32 × (Nat → Int64))) (v42_beasts : Int32) (v42_steadyBench : Int32) (v42_steadyWays : Int32) (v42_steadySwing : Int64) (a43 : Nat → Int32) (a44 : Nat → Int32) (a46 : Nat → Int32) (a47 : Nat → Int32) (v67_voters : Int32) (a68 : Nat → Int64) (x1 : Int32) (x2 : Int32) (x3 : Int64) : Option (Int32 × Int32 × Int64 × Int32 × (Nat → Int64)) := if (x3 : Int64) = (v42_steadySwing : Int64) then (k19 v42_beasts v42_steadyBench (v42_steadyWays + 1) v42_steadySwing a43 a44 a46 a47 v67_voters a68 x1 (x2 + 1)) else (k19 v42_beasts v42_steadyBench v42_steadyWays v42_steadySwing a43 a44 a46 a47 v67_voters a68 x1 (x2 + 1))
set_option maxHeartbeats 4000000 in
set_option maxRecDepth 100000 in
theorem tX1_steadiest_L85 {G : GT} {b : Nat} {c0 : Hp} {n : Nat} (hw : e_wf (kW52) n) {v42_seats : Int32} {v42_seated : Int32} {v42_quota : Int32} {v42_known : Int32} {v42_surveyed : Int32} {Fu : Nat} {k19 : Int32 → Int32 → Int32 → Int64 → (Nat → Int32) → (Nat → Int32) → (Nat → Int32) → (Nat → Int32) → Int32 → (Nat → Int64) → Int32 → Int32 → Option (Int32 × Int32 × Int64 × Int32 × (Nat → Int64))} (hk19 : ∀ {v42_beasts : Int32} {v42_steadyBench : Int32} {v42_steadyWays : Int32} {v42_steadySwing : Int64} {a43 : Nat → Int32} {a44 : Nat → Int32} {a46 : Nat → Int32} {a47 : Nat → Int32} {v67_voters : Int32} {a68 : Nat → Int64} {x1 : Int32} {x2 : Int32} {R : Int32 × Int32 × Int64 × Int32 × (Nat → Int64)}, k19 v42_beasts v42_steadyBench v42_steadyWays v42_steadySwing a43 a44 a46 a47 v67_voters a68 x1 x2 = some R → E G b yX1_steadiest cX1_steadiest 5 none (e_rm 4 0 0) e_X0 (e_Z G b (pD none (e_ov (kW52) (wW52 G b v42_beasts v42_seats v42_seated v42_quota v42_known v42_surveyed R.1 R.2.1 R.2.2.1 a43 a44 a46 a47 R.2.2.2.1 R.2.2.2.2) c0) n) 0 0) 19 [(0, .ref (b + 42)), (1, .int x1), (2, .int x2)] [] (e_ov (kW52) (wW52 G b v42_beasts v42_seats v42_seated v42_quota v42_known v42_surveyed v42_steadyBench v42_steadyWays v42_steadySwing a43 a44 a46 a47 v67_voters a68) c0) n 0 0) {v42_beasts : Int32} {v42_steadyBench : Int32} {v42_steadyWays : Int32} {v42_steadySwing : Int64} {a43 : Nat → Int32} {a44 : Nat → Int32} {a46 : Nat → Int32} {a47 : Nat → Int32} {v67_voters : Int32} {a68 : Nat → Int64} {x1 : Int32} {x2 : Int32} {x3 : Int64} {R : Int32 × Int32 × Int64 × Int32 × (Nat → Int64)} (hf : fX1_steadiest_L85 Fu k19 v42_beasts v42_steadyBench v42_steadyWays v42_steadySwing a43 a44 a46 a47 v67_voters a68 x1 x2 x3 = some R) : E G b yX1_steadiest cX1_steadiest 5 none (e_rm 4 0 0) e_X0 (e_Z G b (pD none (e_ov (kW52) (wW52 G b v42_beasts v42_seats v42_seated v42_quota v42_known v42_surveyed R.1 R.2.1 R.2.2.1 a43 a44 a46 a47 R.2.2.2.1 R.2.2.2.2) c0) n) 0 0) 85 [(0, .ref (b + 42)), (1, .int x1), (2, .int x2), (3, .long x3)] [] (e_ov (kW52) (wW52 G b v42_beasts v42_seats v42_seated v42_quota v42_known v42_surveyed v42_steadyBench v42_steadyWays v42_steadySwing a43 a44 a46 a47 v67_voters a68) c0) n 0 0 := by
  unfold fX1_steadiest_L85 at hf
  refine E.lload_n 3 dX1_steadiest_85 rfl ?_
  refine E.aload_n 0 dX1_steadiest_86 rfl ?_
  refine E.get hw 0 42 dX1_steadiest_87 flX1_196 rfl rfl rfl rfl ?_
  refine E.lc_ne dX1_steadiest_90 dX1_steadiest_91 (fun h => ?_) (fun h => ?_)
  · have hf := e_iff hf h
    refine E.iinc (q := 2) (v := (x2 + 1)) (lv' := [(2, .int (x2 + 1)), (0, .ref (b + 42)), (1, .int x1), (3, .long x3)]) dX1_steadiest_104 rfl rfl (by decide) rfl ?_
    refine E.goto dX1_steadiest_107 ?_
    refine E.locals [1, 2, 0] rfl ?_
    exact hk19 hf
  · have hf := e_ift hf h
    refine E.aload_n 0 dX1_steadiest_94 rfl ?_
    refine E.dup dX1_steadiest_95 rfl ?_
    refine E.get hw 0 42 dX1_steadiest_96 flX1_193 rfl rfl rfl rfl ?_
    refine E.iconst (v := 1) dX1_steadiest_99 (by decide) ?_
    refine E.iadd dX1_steadiest_100 ?_
    refine E.put (es' := (wW52 G b v42_beasts v42_seats v42_seated v42_quota v42_known v42_surveyed v42_steadyBench (v42_steadyWays + 1) v42_steadySwing a43 a44 a46 a47 v67_voters a68)) hw 0 42 dX1_steadiest_101 flX1_193 ftX1 rfl rfl rfl rfl rfl rfl (Nat.le_of_ble_eq_true rfl) rfl ?_
    refine E.iinc (q := 2) (v := (x2 + 1)) (lv' := [(2, .int (x2 + 1)), (0, .ref (b + 42)), (1, .int x1), (3, .long x3)]) dX1_steadiest_104 rfl rfl (by decide) rfl ?_
    refine E.goto dX1_steadiest_107 ?_
    refine E.locals [1, 2, 0] rfl ?_
    exact hk19 hf
def fX1_steadiest_L19 (Fu : Nat) : Nat → Int32 → Int32 → Int32 → Int64 → (Nat → Int32) → (Nat → Int32) → (Nat → Int32) → (Nat → Int32) → Int32 → (Nat → Int64) → Int32 → Int32 → Option (Int32 × Int32 × Int64 × Int32 × (Nat → Int64))
  | 0, _, _, _, _, _, _, _, _, _, _, _, _ => none
  | k + 1, v42_beasts, v42_steadyBench, v42_steadyWays, v42_steadySwing, a43, a44, a46, a47, v67_voters, a68, x1, x2 => if (((1 : Int32) <<< ((v42_beasts : Int32) &&& 31)) : Int32) ≤ (x2 : Int32) then (some (v42_steadyBench, v42_steadyWays, v42_steadySwing, v67_voters, a68)) else ((fJ6_bitCount_0f7a4 x2).bind fun r1 => (if (r1 : Int32) = (x1 : Int32) then (gz 2 ((fX1_bestAlone Fu v42_beasts a43 a44 a46 a47 v67_voters a68 0 x2 ((x1 / 2) + 1)).bind fun r3 => (gz 2 ((fX1_bestAlone Fu v42_beasts a43 a44 a46 a47 r3.2.1 r3.2.2 1 x2 ((x1 / 2) + 1)).bind fun r5 => (if (v42_steadySwing : Int64) ≤ ((r3.1 + r5.1) : Int64) then (fX1_steadiest_L85 Fu (fX1_steadiest_L19 Fu k) v42_beasts v42_steadyBench v42_steadyWays v42_steadySwing a43 a44 a46 a47 r5.2.1 r5.2.2 x1 x2 (r3.1 + r5.1)) else (fX1_steadiest_L85 Fu (fX1_steadiest_L19 Fu k) v42_beasts x2 0 (r3.1 + r5.1) a43 a44 a46 a47 r5.2.1 r5.2.2 x1 x2 (r3.1 + r5.1))))))) else ((fX1_steadiest_L19 Fu k) v42_beasts v42_steadyBench v42_steadyWays v42_steadySwing a43 a44 a46 a47 v67_voters a68 x1 (x2 + 1))))
set_option maxHeartbeats 4000000 in
set_option maxRecDepth 100000 in
theorem tX1_steadiest_L19 {G : GT} {b : Nat} {c0 : Hp} {n : Nat} (hw : e_wf (kW52) n) {v42_seats : Int32} {v42_seated : Int32} {v42_quota : Int32} {v42_known : Int32} {v42_surveyed : Int32} {Fu : Nat} : ∀ (k : Nat) {v42_beasts : Int32} {v42_steadyBench : Int32} {v42_steadyWays : Int32} {v42_steadySwing : Int64} {a43 : Nat → Int32} {a44 : Nat → Int32} {a46 : Nat → Int32} {a47 : Nat → Int32} {v67_voters : Int32} {a68 : Nat → Int64} {x1 : Int32} {x2 : Int32} {R : Int32 × Int32 × Int64 × Int32 × (Nat → Int64)}, fX1_steadiest_L19 Fu k v42_beasts v42_steadyBench v42_steadyWays v42_steadySwing a43 a44 a46 a47 v67_voters a68 x1 x2 = some R → E G b yX1_steadiest cX1_steadiest 5 none (e_rm 4 0 0) e_X0 (e_Z G b (pD none (e_ov (kW52) (wW52 G b v42_beasts v42_seats v42_seated v42_quota v42_known v42_surveyed R.1 R.2.1 R.2.2.1 a43 a44 a46 a47 R.2.2.2.1 R.2.2.2.2) c0) n) 0 0) 19 [(0, .ref (b + 42)), (1, .int x1), (2, .int x2)] [] (e_ov (kW52) (wW52 G b v42_beasts v42_seats v42_seated v42_quota v42_known v42_surveyed v42_steadyBench v42_steadyWays v42_steadySwing a43 a44 a46 a47 v67_voters a68) c0) n 0 0 := by
  intro k
  induction k with
  | zero =>
    intro _ _ _ _ _ _ _ _ _ _ _ _ _ hf
    have hf : (none : Option (Int32 × Int32 × Int64 × Int32 × (Nat → Int64))) = some _ := hf
    cases hf
  | succ k ih =>
    intro v42_beasts v42_steadyBench v42_steadyWays v42_steadySwing a43 a44 a46 a47 v67_voters a68 x1 x2 R hf
    rw [fX1_steadiest_L19] at hf
    refine E.iload_n 2 dX1_steadiest_19 rfl ?_
    refine E.iconst (v := 1) dX1_steadiest_20 (by decide) ?_
    refine E.aload_n 0 dX1_steadiest_21 rfl ?_
    refine E.get hw 0 42 dX1_steadiest_22 flX1_58 rfl rfl rfl rfl ?_
    refine E.ishl dX1_steadiest_25 ?_
    refine E.icmp_ge dX1_steadiest_26 (fun h => ?_) (fun h => ?_)
    · have hf := e_ift hf h
      cases hf
      exact E.vret dX1_steadiest_110 (Nat.le_refl _) (Nat.le_refl _) (pD_rf _ _ _)
    · have hf := e_iff hf h
      refine E.iload_n 2 dX1_steadiest_29 rfl ?_
      obtain ⟨r1, hc1, hf⟩ := e_bind hf
      refine E.callSD [] dX1_steadiest_30 mlX1_200 (mJ6_bitCount_0f7a4 hc1) ⟨Nat.le_of_ble_eq_true rfl, Nat.le_of_ble_eq_true rfl⟩ rfl rfl (Nat.le_of_ble_eq_true rfl) ⟨Nat.le_refl _, Nat.le_refl _⟩ rfl ?_
      refine E.iload_n 1 dX1_steadiest_33 rfl ?_
      refine E.icmp_ne dX1_steadiest_34 (fun h => ?_) (fun h => ?_)
      · have hf := e_iff hf h
        refine E.iinc (q := 2) (v := (x2 + 1)) (lv' := [(2, .int (x2 + 1)), (0, .ref (b + 42)), (1, .int x1)]) dX1_steadiest_104 rfl rfl (by decide) rfl ?_
        refine E.goto dX1_steadiest_107 ?_
        refine E.locals [1, 2, 0] rfl ?_
        exact ih hf
      · have hf := e_ift hf h
        refine E.aload_n 0 dX1_steadiest_37 rfl ?_
        refine E.iconst (v := 0) dX1_steadiest_38 (by decide) ?_
        refine E.iload_n 2 dX1_steadiest_39 rfl ?_
        refine E.iload_n 1 dX1_steadiest_40 rfl ?_
        refine E.iconst (v := 2) dX1_steadiest_41 (by decide) ?_
        obtain ⟨g2, hf⟩ := gz_some hf
        refine E.idiv dX1_steadiest_42 g2 ?_
        refine E.iconst (v := 1) dX1_steadiest_43 (by decide) ?_
        refine E.iadd dX1_steadiest_44 ?_
        obtain ⟨r3, hc3, hf⟩ := e_bind hf
        refine E.callVD [] dX1_steadiest_45 mlX1_203 ⟨hw.sub (p := 0) rfl, e_ov_get hw.1 (p := 0) rfl rfl⟩ rfl rfl (mX1_bestAlone hw hc3) ⟨Nat.le_of_ble_eq_true rfl, Nat.le_of_ble_eq_true rfl⟩ rfl rfl (Nat.le_of_ble_eq_true rfl) ⟨Nat.le_refl _, Nat.le_refl _⟩ rfl ?_
        refine E.aload_n 0 dX1_steadiest_48 rfl ?_
        refine E.iconst (v := 1) dX1_steadiest_49 (by decide) ?_
        refine E.iload_n 2 dX1_steadiest_50 rfl ?_
        refine E.iload_n 1 dX1_steadiest_51 rfl ?_
        refine E.iconst (v := 2) dX1_steadiest_52 (by decide) ?_
        obtain ⟨g4, hf⟩ := gz_some hf
        refine E.idiv dX1_steadiest_53 g4 ?_
        refine E.iconst (v := 1) dX1_steadiest_54 (by decide) ?_
        refine E.iadd dX1_steadiest_55 ?_
        obtain ⟨r5, hc5, hf⟩ := e_bind hf
        refine E.callVD [.long r3.1] dX1_steadiest_56 mlX1_203 ⟨hw.sub (p := 0) rfl, e_ov_get hw.1 (p := 0) rfl rfl⟩ rfl rfl (mX1_bestAlone hw hc5) ⟨Nat.le_of_ble_eq_true rfl, Nat.le_of_ble_eq_true rfl⟩ rfl rfl (Nat.le_of_ble_eq_true rfl) ⟨Nat.le_refl _, Nat.le_refl _⟩ rfl ?_
        refine E.ladd dX1_steadiest_59 ?_
        refine E.lstore_n (lv' := [(3, .long (r3.1 + r5.1)), (0, .ref (b + 42)), (1, .int x1), (2, .int x2)]) dX1_steadiest_60 (by decide) rfl ?_
        refine E.lload_n 0 dX1_steadiest_61 rfl ?_
        refine E.aload_n 1 dX1_steadiest_62 rfl ?_
        refine E.get hw 0 42 dX1_steadiest_63 flX1_196 rfl rfl rfl rfl ?_
        refine E.lc_ge dX1_steadiest_66 dX1_steadiest_67 (fun h => ?_) (fun h => ?_)
        · have hf := e_ift hf h
          refine E.locals [1, 2, 3, 0] rfl ?_
          exact tX1_steadiest_L85 hw ih hf
        · have hf := e_iff hf h
          refine E.aload_n 1 dX1_steadiest_70 rfl ?_
          refine E.lload_n 0 dX1_steadiest_71 rfl ?_
          refine E.put (es' := (wW52 G b v42_beasts v42_seats v42_seated v42_quota v42_known v42_surveyed v42_steadyBench v42_steadyWays (r3.1 + r5.1) a43 a44 a46 a47 r5.2.1 r5.2.2)) hw 0 42 dX1_steadiest_72 flX1_196 ftX1 rfl rfl rfl rfl rfl rfl (Nat.le_of_ble_eq_true rfl) rfl ?_
          refine E.aload_n 1 dX1_steadiest_75 rfl ?_
          refine E.iload_n 3 dX1_steadiest_76 rfl ?_
          refine E.put (es' := (wW52 G b v42_beasts v42_seats v42_seated v42_quota v42_known v42_surveyed x2 v42_steadyWays (r3.1 + r5.1) a43 a44 a46 a47 r5.2.1 r5.2.2)) hw 0 42 dX1_steadiest_77 flX1_190 ftX1 rfl rfl rfl rfl rfl rfl (Nat.le_of_ble_eq_true rfl) rfl ?_
          refine E.aload_n 1 dX1_steadiest_80 rfl ?_
          refine E.iconst (v := 0) dX1_steadiest_81 (by decide) ?_
          refine E.put (es' := (wW52 G b v42_beasts v42_seats v42_seated v42_quota v42_known v42_surveyed x2 0 (r3.1 + r5.1) a43 a44 a46 a47 r5.2.1 r5.2.2)) hw 0 42 dX1_steadiest_82 flX1_193 ftX1 rfl rfl rfl rfl rfl rfl (Nat.le_of_ble_eq_true rfl) rfl ?_
          refine E.locals [1, 2, 3, 0] rfl ?_
          exact tX1_steadiest_L85 hw ih hf
def fX1_steadiest (Fu : Nat) (v42_beasts : Int32) (v42_steadyBench : Int32) (v42_steadyWays : Int32) (v42_steadySwing : Int64) (a43 : Nat → Int32) (a44 : Nat → Int32) (a46 : Nat → Int32) (a47 : Nat → Int32) (v67_voters : Int32) (a68 : Nat → Int64) (x1 : Int32) : Option (Int32 × Int32 × Int64 × Int32 × (Nat → Int64)) := fX1_steadiest_L19 Fu Fu v42_beasts (-1 : Int32) 0 9223372036854775807 a43 a44 a46 a47 v67_voters a68 x1 1
set_option maxHeartbeats 4000000 in
set_option maxRecDepth 100000 in
theorem tX1_steadiest {G : GT} {b : Nat} {c0 : Hp} {n : Nat} (hw : e_wf (kW52) n) {v42_seats : Int32} {v42_seated : Int32} {v42_quota : Int32} {v42_known : Int32} {v42_surveyed : Int32} {Fu : Nat} {v42_beasts : Int32} {v42_steadyBench : Int32} {v42_steadyWays : Int32} {v42_steadySwing : Int64} {a43 : Nat → Int32} {a44 : Nat → Int32} {a46 : Nat → Int32} {a47 : Nat → Int32} {v67_voters : Int32} {a68 : Nat → Int64} {x1 : Int32} {R : Int32 × Int32 × Int64 × Int32 × (Nat → Int64)} (hf : fX1_steadiest Fu v42_beasts v42_steadyBench v42_steadyWays v42_steadySwing a43 a44 a46 a47 v67_voters a68 x1 = some R) : E G b yX1_steadiest cX1_steadiest 5 none (e_rm 4 0 0) e_X0 (e_Z G b (pD none (e_ov (kW52) (wW52 G b v42_beasts v42_seats v42_seated v42_quota v42_known v42_surveyed R.1 R.2.1 R.2.2.1 a43 a44 a46 a47 R.2.2.2.1 R.2.2.2.2) c0) n) 0 0) 0 [(0, .ref (b + 42)), (1, .int x1)] [] (e_ov (kW52) (wW52 G b v42_beasts v42_seats v42_seated v42_quota v42_known v42_surveyed v42_steadyBench v42_steadyWays v42_steadySwing a43 a44 a46 a47 v67_voters a68) c0) n 0 0 := by
  unfold fX1_steadiest at hf
  refine E.aload_n 0 dX1_steadiest_0 rfl ?_
  refine E.iconst (v := -1) dX1_steadiest_1 (by decide) ?_
  refine E.put (es' := (wW52 G b v42_beasts v42_seats v42_seated v42_quota v42_known v42_surveyed (-1 : Int32) v42_steadyWays v42_steadySwing a43 a44 a46 a47 v67_voters a68)) hw 0 42 dX1_steadiest_2 flX1_190 ftX1 rfl rfl rfl rfl rfl rfl (Nat.le_of_ble_eq_true rfl) rfl ?_
  refine E.aload_n 0 dX1_steadiest_5 rfl ?_
  refine E.iconst (v := 0) dX1_steadiest_6 (by decide) ?_
  refine E.put (es' := (wW52 G b v42_beasts v42_seats v42_seated v42_quota v42_known v42_surveyed (-1 : Int32) 0 v42_steadySwing a43 a44 a46 a47 v67_voters a68)) hw 0 42 dX1_steadiest_7 flX1_193 ftX1 rfl rfl rfl rfl rfl rfl (Nat.le_of_ble_eq_true rfl) rfl ?_
  refine E.aload_n 0 dX1_steadiest_10 rfl ?_
  refine E.ldc2 dX1_steadiest_11 kX1_156 ?_
  refine E.put (es' := (wW52 G b v42_beasts v42_seats v42_seated v42_quota v42_known v42_surveyed (-1 : Int32) 0 9223372036854775807 a43 a44 a46 a47 v67_voters a68)) hw 0 42 dX1_steadiest_14 flX1_196 ftX1 rfl rfl rfl rfl rfl rfl (Nat.le_of_ble_eq_true rfl) rfl ?_
  refine E.iconst (v := 1) dX1_steadiest_17 (by decide) ?_
  refine E.istore_n (lv' := [(2, .int 1), (0, .ref (b + 42)), (1, .int x1)]) dX1_steadiest_18 (by decide) rfl ?_
  refine E.locals [1, 2, 0] rfl ?_
  exact tX1_steadiest_L19 hw _ hf
set_option maxRecDepth 100000 in
theorem mX1_steadiest {G : GT} {b : Nat} {c0 : Hp} {n : Nat} (hw : e_wf (kW52) n) {v42_seats : Int32} {v42_seated : Int32} {v42_quota : Int32} {v42_known : Int32} {v42_surveyed : Int32} {Fu : Nat} {v42_beasts : Int32} {v42_steadyBench : Int32} {v42_steadyWays : Int32} {v42_steadySwing : Int64} {a43 : Nat → Int32} {a44 : Nat → Int32} {a46 : Nat → Int32} {a47 : Nat → Int32} {v67_voters : Int32} {a68 : Nat → Int64} {x1 : Int32} {R : Int32 × Int32 × Int64 × Int32 × (Nat → Int64)} (hf : fX1_steadiest Fu v42_beasts v42_steadyBench v42_steadyWays v42_steadySwing a43 a44 a46 a47 v67_voters a68 x1 = some R) : e_C G b yX1_steadiest cX1_steadiest 5 none 4 0 0 [.ref (b + 42), .int x1] (e_ov (kW52) (wW52 G b v42_beasts v42_seats v42_seated v42_quota v42_known v42_surveyed v42_steadyBench v42_steadyWays v42_steadySwing a43 a44 a46 a47 v67_voters a68) c0) n (pD none (e_ov (kW52) (wW52 G b v42_beasts v42_seats v42_seated v42_quota v42_known v42_surveyed R.1 R.2.1 R.2.2.1 a43 a44 a46 a47 R.2.2.2.1 R.2.2.2.2) c0) n) := e_C.of (by decide) (Nat.le_of_ble_eq_true rfl) (tX1_steadiest hw hf)
def fX11_steady_N (Fu : Nat) (v1_beasts : Int32) (v1_seats : Int32) (v1_laws : Int32) (v1_inForce : Int32) (a2 : Nat → Int32) (a3 : Nat → Int32) (a4 : Nat → Int32) (a5 : Nat → Option Nat) (a38 : Nat → Int32) (v42_beasts : Int32) (v42_seats : Int32) (v42_seated : Int32) (v42_quota : Int32) (v42_known : Int32) (v42_surveyed : Int32) (v42_steadyBench : Int32) (v42_steadyWays : Int32) (v42_steadySwing : Int64) (a43 : Nat → Int32) (a44 : Nat → Int32) (a45 : Nat → Int32) (a46 : Nat → Int32) (a47 : Nat → Int32) (a49 : Nat → Int32) (v67_voters : Int32) (a68 : Nat → Int64) (x1 : Int32) (x2 : Int32) : Option (Int32 × (Nat → Int32) × Int32 × Int32 × Int32 × Int32 × Int32 × Int32 × Int32 × Int32 × Int64 × (Nat → Int32) × (Nat → Int32) × (Nat → Int32) × (Nat → Int32) × (Nat → Int32) × (Nat → Int32) × Int32 × (Nat → Int64)) := if (x1 : Int32) < (1 : Int32) then (some ((-1 : Int32), a38, v42_beasts, v42_seats, v42_seated, v42_quota, v42_known, v42_surveyed, v42_steadyBench, v42_steadyWays, v42_steadySwing, a43, a44, a45, a46, a47, a49, v67_voters, a68)) else (if (v1_beasts : Int32) < (x1 : Int32) then (some ((-1 : Int32), a38, v42_beasts, v42_seats, v42_seated, v42_quota, v42_known, v42_surveyed, v42_steadyBench, v42_steadyWays, v42_steadySwing, a43, a44, a45, a46, a47, a49, v67_voters, a68)) else ((fX11_isEither x2).bind fun r1 => (if (r1 : Int32) = (0 : Int32) then (some ((-1 : Int32), a38, v42_beasts, v42_seats, v42_seated, v42_quota, v42_known, v42_surveyed, v42_steadyBench, v42_steadyWays, v42_steadySwing, a43, a44, a45, a46, a47, a49, v67_voters, a68)) else ((fX1_learn_N Fu v1_beasts v1_seats v1_laws v1_inForce a2 a3 a4 a5 a38 v42_beasts v42_seats v42_seated v42_quota v42_known v42_surveyed a43 a44 a45 a46 a47 a49).bind fun r2 => ((fX1_steadiest Fu r2.2.1 v42_steadyBench v42_steadyWays v42_steadySwing r2.2.2.2.2.2.2.2.1 r2.2.2.2.2.2.2.2.2.1 r2.2.2.2.2.2.2.2.2.2.2.1 r2.2.2.2.2.2.2.2.2.2.2.2.1 v67_voters a68 x1).bind fun r3 => (if (x2 : Int32) = (0 : Int32) then (some (r3.1, r2.1, r2.2.1, r2.2.2.1, r2.2.2.2.1, r2.2.2.2.2.1, r2.2.2.2.2.2.1, r2.2.2.2.2.2.2.1, r3.1, r3.2.1, r3.2.2.1, r2.2.2.2.2.2.2.2.1, r2.2.2.2.2.2.2.2.2.1, r2.2.2.2.2.2.2.2.2.2.1, r2.2.2.2.2.2.2.2.2.2.2.1, r2.2.2.2.2.2.2.2.2.2.2.2.1, r2.2.2.2.2.2.2.2.2.2.2.2.2, r3.2.2.2.1, r3.2.2.2.2)) else (some (r3.2.1, r2.1, r2.2.1, r2.2.2.1, r2.2.2.2.1, r2.2.2.2.2.1, r2.2.2.2.2.2.1, r2.2.2.2.2.2.2.1, r3.1, r3.2.1, r3.2.2.1, r2.2.2.2.2.2.2.2.1, r2.2.2.2.2.2.2.2.2.1, r2.2.2.2.2.2.2.2.2.2.1, r2.2.2.2.2.2.2.2.2.2.2.1, r2.2.2.2.2.2.2.2.2.2.2.2.1, r2.2.2.2.2.2.2.2.2.2.2.2.2, r3.2.2.2.1, r3.2.2.2.2))))))))
set_option maxHeartbeats 4000000 in
set_option maxRecDepth 100000 in
theorem tX11_steady_N {G : GT} {b : Nat} {c0 : Hp} {n : Nat} (hw : e_wf (kW49) n) {v0_faultPlace : Int32} {v0_quashedRows : Int32} {v0_lastRefusal : Int32} {v1_meals : Int32} {v37_height : Int32} {v37_answer : Int64} {Fu : Nat} {v1_beasts : Int32} {v1_seats : Int32} {v1_laws : Int32} {v1_inForce : Int32} {a2 : Nat → Int32} {a3 : Nat → Int32} {a4 : Nat → Int32} {a5 : Nat → Option Nat} {a38 : Nat → Int32} {v42_beasts : Int32} {v42_seats : Int32} {v42_seated : Int32} {v42_quota : Int32} {v42_known : Int32} {v42_surveyed : Int32} {v42_steadyBench : Int32} {v42_steadyWays : Int32} {v42_steadySwing : Int64} {a43 : Nat → Int32} {a44 : Nat → Int32} {a45 : Nat → Int32} {a46 : Nat → Int32} {a47 : Nat → Int32} {a49 : Nat → Int32} {v67_voters : Int32} {a68 : Nat → Int64} {x1 : Int32} {x2 : Int32} {R : Int32 × (Nat → Int32) × Int32 × Int32 × Int32 × Int32 × Int32 × Int32 × Int32 × Int32 × Int64 × (Nat → Int32) × (Nat → Int32) × (Nat → Int32) × (Nat → Int32) × (Nat → Int32) × (Nat → Int32) × Int32 × (Nat → Int64)} (hf : fX11_steady_N Fu v1_beasts v1_seats v1_laws v1_inForce a2 a3 a4 a5 a38 v42_beasts v42_seats v42_seated v42_quota v42_known v42_surveyed v42_steadyBench v42_steadyWays v42_steadySwing a43 a44 a45 a46 a47 a49 v67_voters a68 x1 x2 = some R) : E G b yX11_steady cX11_steady 3 (some .int) (e_rm 5 0 0) e_X0 (e_Z G b (pD (some (.int R.1)) (e_ov (kW49) (wW49 G b v0_faultPlace v0_quashedRows v0_lastRefusal v1_beasts v1_meals v1_seats v1_laws v1_inForce a2 a3 a4 a5 v37_height v37_answer R.2.1 R.2.2.1 R.2.2.2.1 R.2.2.2.2.1 R.2.2.2.2.2.1 R.2.2.2.2.2.2.1 R.2.2.2.2.2.2.2.1 R.2.2.2.2.2.2.2.2.1 R.2.2.2.2.2.2.2.2.2.1 R.2.2.2.2.2.2.2.2.2.2.1 R.2.2.2.2.2.2.2.2.2.2.2.1 R.2.2.2.2.2.2.2.2.2.2.2.2.1 R.2.2.2.2.2.2.2.2.2.2.2.2.2.1 R.2.2.2.2.2.2.2.2.2.2.2.2.2.2.1 R.2.2.2.2.2.2.2.2.2.2.2.2.2.2.2.1 R.2.2.2.2.2.2.2.2.2.2.2.2.2.2.2.2.1 R.2.2.2.2.2.2.2.2.2.2.2.2.2.2.2.2.2.1 R.2.2.2.2.2.2.2.2.2.2.2.2.2.2.2.2.2.2) c0) n) 0 0) 0 [(0, .ref (b + 0)), (1, .int x1), (2, .int x2)] [] (e_ov (kW49) (wW49 G b v0_faultPlace v0_quashedRows v0_lastRefusal v1_beasts v1_meals v1_seats v1_laws v1_inForce a2 a3 a4 a5 v37_height v37_answer a38 v42_beasts v42_seats v42_seated v42_quota v42_known v42_surveyed v42_steadyBench v42_steadyWays v42_steadySwing a43 a44 a45 a46 a47 a49 v67_voters a68) c0) n 0 0 := by
  unfold fX11_steady_N at hf
  refine E.iload_n 1 dX11_steady_0 rfl ?_
  refine E.iconst (v := 1) dX11_steady_1 (by decide) ?_
  refine E.icmp_lt dX11_steady_2 (fun h => ?_) (fun h => ?_)
  · have hf := e_ift hf h
    refine E.iconst (v := -1) dX11_steady_23 (by decide) ?_
    cases hf
    exact E.iret dX11_steady_24 (Nat.le_refl _) (Nat.le_refl _) (pD_rf _ _ _)
  · have hf := e_iff hf h
    refine E.iload_n 1 dX11_steady_5 rfl ?_
    refine E.aload_n 0 dX11_steady_6 rfl ?_
    refine E.get hw 0 0 dX11_steady_7 flX11_10 rfl rfl rfl rfl ?_
    refine E.getN hw 1 1 dX11_steady_10 fnX11_101 rfl rfl rfl rfl ?_
    refine E.icmp_gt dX11_steady_13 (fun h => ?_) (fun h => ?_)
    · have hf := e_ift hf h
      refine E.iconst (v := -1) dX11_steady_23 (by decide) ?_
      cases hf
      exact E.iret dX11_steady_24 (Nat.le_refl _) (Nat.le_refl _) (pD_rf _ _ _)
    · have hf := e_iff hf h
      refine E.iload_n 2 dX11_steady_16 rfl ?_
      obtain ⟨r1, hc1, hf⟩ := e_bind hf
      refine E.callSD [] dX11_steady_17 mlX11_274 (mX11_isEither hc1) ⟨Nat.le_of_ble_eq_true rfl, Nat.le_of_ble_eq_true rfl⟩ rfl rfl (Nat.le_of_ble_eq_true rfl) ⟨Nat.le_refl _, Nat.le_refl _⟩ rfl ?_
      refine E.if_ne dX11_steady_20 (fun h => ?_) (fun h => ?_)
      · have hf := e_iff hf h
        refine E.aload_n 0 dX11_steady_25 rfl ?_
        refine E.get hw 0 0 dX11_steady_26 flX11_57 rfl rfl rfl rfl ?_
        refine E.aload_n 0 dX11_steady_29 rfl ?_
        refine E.get hw 0 0 dX11_steady_30 flX11_10 rfl rfl rfl rfl ?_
        refine E.aload_n 0 dX11_steady_33 rfl ?_
        refine E.get hw 0 0 dX11_steady_34 flX11_43 rfl rfl rfl rfl ?_
        obtain ⟨r2, hc2, hf⟩ := e_bind hf
        refine E.callVDs (es' := (wW49 G b v0_faultPlace v0_quashedRows v0_lastRefusal v1_beasts v1_meals v1_seats v1_laws v1_inForce a2 a3 a4 a5 v37_height v37_answer r2.1 r2.2.1 r2.2.2.1 r2.2.2.2.1 r2.2.2.2.2.1 r2.2.2.2.2.2.1 r2.2.2.2.2.2.2.1 v42_steadyBench v42_steadyWays v42_steadySwing r2.2.2.2.2.2.2.2.1 r2.2.2.2.2.2.2.2.2.1 r2.2.2.2.2.2.2.2.2.2.1 r2.2.2.2.2.2.2.2.2.2.2.1 r2.2.2.2.2.2.2.2.2.2.2.2.1 r2.2.2.2.2.2.2.2.2.2.2.2.2 v67_voters a68)) [] [1, 2, 3, 4, 5, 6, 7, 8, 9, 10, 11, 12, 13, 14] 8 42 dX11_steady_37 mlX11_263 hw rfl rfl rfl rfl (mX1_learn_N (hw.pick2 [1, 2, 3, 4, 5, 6, 7, 8, 9, 10, 11, 12, 13, 14] rfl (by decide)) hc2) rfl rfl rfl rfl ⟨Nat.le_of_ble_eq_true rfl, Nat.le_of_ble_eq_true rfl⟩ rfl rfl (Nat.le_of_ble_eq_true rfl) ⟨Nat.le_refl _, Nat.le_refl _⟩ rfl ?_
        refine E.aload_n 0 dX11_steady_40 rfl ?_
        refine E.get hw 0 0 dX11_steady_41 flX11_57 rfl rfl rfl rfl ?_
        refine E.iload_n 1 dX11_steady_44 rfl ?_
        obtain ⟨r3, hc3, hf⟩ := e_bind hf
        refine E.callVDs (es' := (wW49 G b v0_faultPlace v0_quashedRows v0_lastRefusal v1_beasts v1_meals v1_seats v1_laws v1_inForce a2 a3 a4 a5 v37_height v37_answer r2.1 r2.2.1 r2.2.2.1 r2.2.2.2.1 r2.2.2.2.2.1 r2.2.2.2.2.2.1 r2.2.2.2.2.2.2.1 r3.1 r3.2.1 r3.2.2.1 r2.2.2.2.2.2.2.2.1 r2.2.2.2.2.2.2.2.2.1 r2.2.2.2.2.2.2.2.2.2.1 r2.2.2.2.2.2.2.2.2.2.2.1 r2.2.2.2.2.2.2.2.2.2.2.2.1 r2.2.2.2.2.2.2.2.2.2.2.2.2 r3.2.2.2.1 r3.2.2.2.2)) [] [8, 9, 10, 12, 13, 15, 16] 8 42 dX11_steady_45 mlX11_301 hw rfl rfl rfl rfl (mX1_steadiest (hw.pick2 [8, 9, 10, 12, 13, 15, 16] rfl (by decide)) hc3) rfl rfl rfl rfl ⟨Nat.le_of_ble_eq_true rfl, Nat.le_of_ble_eq_true rfl⟩ rfl rfl (Nat.le_of_ble_eq_true rfl) ⟨Nat.le_refl _, Nat.le_refl _⟩ rfl ?_
        refine E.iload_n 2 dX11_steady_48 rfl ?_
        refine E.if_ne dX11_steady_49 (fun h => ?_) (fun h => ?_)
        · have hf := e_iff hf h
          refine E.aload_n 0 dX11_steady_62 rfl ?_
          refine E.get hw 0 0 dX11_steady_63 flX11_57 rfl rfl rfl rfl ?_
          refine E.getN hw 8 42 dX11_steady_66 fnX11_307 rfl rfl rfl rfl ?_
          cases hf
          exact E.iret dX11_steady_69 (Nat.le_refl _) (Nat.le_refl _) (pD_rf _ _ _)
        · have hf := e_ift hf h
          refine E.aload_n 0 dX11_steady_52 rfl ?_
          refine E.get hw 0 0 dX11_steady_53 flX11_57 rfl rfl rfl rfl ?_
          refine E.getN hw 8 42 dX11_steady_56 fnX11_304 rfl rfl rfl rfl ?_
          refine E.goto dX11_steady_59 ?_
          cases hf
          exact E.iret dX11_steady_69 (Nat.le_refl _) (Nat.le_refl _) (pD_rf _ _ _)
      · have hf := e_ift hf h
        refine E.iconst (v := -1) dX11_steady_23 (by decide) ?_
        cases hf
        exact E.iret dX11_steady_24 (Nat.le_refl _) (Nat.le_refl _) (pD_rf _ _ _)
set_option maxRecDepth 100000 in
theorem mX11_steady_N {G : GT} {b : Nat} {c0 : Hp} {n : Nat} (hw : e_wf (kW49) n) {v0_faultPlace : Int32} {v0_quashedRows : Int32} {v0_lastRefusal : Int32} {v1_meals : Int32} {v37_height : Int32} {v37_answer : Int64} {Fu : Nat} {v1_beasts : Int32} {v1_seats : Int32} {v1_laws : Int32} {v1_inForce : Int32} {a2 : Nat → Int32} {a3 : Nat → Int32} {a4 : Nat → Int32} {a5 : Nat → Option Nat} {a38 : Nat → Int32} {v42_beasts : Int32} {v42_seats : Int32} {v42_seated : Int32} {v42_quota : Int32} {v42_known : Int32} {v42_surveyed : Int32} {v42_steadyBench : Int32} {v42_steadyWays : Int32} {v42_steadySwing : Int64} {a43 : Nat → Int32} {a44 : Nat → Int32} {a45 : Nat → Int32} {a46 : Nat → Int32} {a47 : Nat → Int32} {a49 : Nat → Int32} {v67_voters : Int32} {a68 : Nat → Int64} {x1 : Int32} {x2 : Int32} {R : Int32 × (Nat → Int32) × Int32 × Int32 × Int32 × Int32 × Int32 × Int32 × Int32 × Int32 × Int64 × (Nat → Int32) × (Nat → Int32) × (Nat → Int32) × (Nat → Int32) × (Nat → Int32) × (Nat → Int32) × Int32 × (Nat → Int64)} (hf : fX11_steady_N Fu v1_beasts v1_seats v1_laws v1_inForce a2 a3 a4 a5 a38 v42_beasts v42_seats v42_seated v42_quota v42_known v42_surveyed v42_steadyBench v42_steadyWays v42_steadySwing a43 a44 a45 a46 a47 a49 v67_voters a68 x1 x2 = some R) : e_C G b yX11_steady cX11_steady 3 (some .int) 5 0 0 [.ref (b + 0), .int x1, .int x2] (e_ov (kW49) (wW49 G b v0_faultPlace v0_quashedRows v0_lastRefusal v1_beasts v1_meals v1_seats v1_laws v1_inForce a2 a3 a4 a5 v37_height v37_answer a38 v42_beasts v42_seats v42_seated v42_quota v42_known v42_surveyed v42_steadyBench v42_steadyWays v42_steadySwing a43 a44 a45 a46 a47 a49 v67_voters a68) c0) n (pD (some (.int R.1)) (e_ov (kW49) (wW49 G b v0_faultPlace v0_quashedRows v0_lastRefusal v1_beasts v1_meals v1_seats v1_laws v1_inForce a2 a3 a4 a5 v37_height v37_answer R.2.1 R.2.2.1 R.2.2.2.1 R.2.2.2.2.1 R.2.2.2.2.2.1 R.2.2.2.2.2.2.1 R.2.2.2.2.2.2.2.1 R.2.2.2.2.2.2.2.2.1 R.2.2.2.2.2.2.2.2.2.1 R.2.2.2.2.2.2.2.2.2.2.1 R.2.2.2.2.2.2.2.2.2.2.2.1 R.2.2.2.2.2.2.2.2.2.2.2.2.1 R.2.2.2.2.2.2.2.2.2.2.2.2.2.1 R.2.2.2.2.2.2.2.2.2.2.2.2.2.2.1 R.2.2.2.2.2.2.2.2.2.2.2.2.2.2.2.1 R.2.2.2.2.2.2.2.2.2.2.2.2.2.2.2.2.1 R.2.2.2.2.2.2.2.2.2.2.2.2.2.2.2.2.2.1 R.2.2.2.2.2.2.2.2.2.2.2.2.2.2.2.2.2.2) c0) n) := e_C.of (by decide) (Nat.le_of_ble_eq_true rfl) (tX11_steady_N hw hf)
def fX11_steady_L (Fu : Nat) (nh : Nat) (nt : Nat) (ne : Nat) (ns : Nat) (b q : Nat) (v1_beasts : Int32) (v1_seats : Int32) (v1_laws : Int32) (v1_inForce : Int32) (a2 : Nat → Int32) (a3 : Nat → Int32) (a4 : Nat → Int32) (a5 : Nat → Option Nat) (v37_height : Int32) (v37_answer : Int64) (a38 : Nat → Int32) (a39 : Nat → Int64) (v42_beasts : Int32) (v42_seats : Int32) (v42_seated : Int32) (v42_quota : Int32) (v42_known : Int32) (v42_surveyed : Int32) (v42_steadyBench : Int32) (v42_steadyWays : Int32) (v42_steadySwing : Int64) (a43 : Nat → Int32) (a44 : Nat → Int32) (a45 : Nat → Int32) (a46 : Nat → Int32) (a47 : Nat → Int32) (a49 : Nat → Int32) (v67_voters : Int32) (a68 : Nat → Int64) (aL1 : Nat → Int32) (aL2 : Nat → Int32) (aL3 : Nat → Int32) (aL4 : Nat → Int32) (x1 : Int32) (x2 : Int32) : Option (Int32 × Int32 × Int64 × (Nat → Int32) × (Nat → Int64) × Int32 × Int32 × Int32 × Int32 × Int32 × Int32 × Int32 × Int32 × Int64 × (Nat → Int32) × (Nat → Int32) × (Nat → Int32) × (Nat → Int32) × (Nat → Int32) × (Nat → Int32) × Int32 × (Nat → Int64)) := if (x1 : Int32) < (1 : Int32) then (some ((-1 : Int32), v37_height, v37_answer, a38, a39, v42_beasts, v42_seats, v42_seated, v42_quota, v42_known, v42_surveyed, v42_steadyBench, v42_steadyWays, v42_steadySwing, a43, a44, a45, a46, a47, a49, v67_voters, a68)) else (if (v1_beasts : Int32) < (x1 : Int32) then (some ((-1 : Int32), v37_height, v37_answer, a38, a39, v42_beasts, v42_seats, v42_seated, v42_quota, v42_known, v42_surveyed, v42_steadyBench, v42_steadyWays, v42_steadySwing, a43, a44, a45, a46, a47, a49, v67_voters, a68)) else ((fX11_isEither x2).bind fun r1 => (if (r1 : Int32) = (0 : Int32) then (some ((-1 : Int32), v37_height, v37_answer, a38, a39, v42_beasts, v42_seats, v42_seated, v42_quota, v42_known, v42_surveyed, v42_steadyBench, v42_steadyWays, v42_steadySwing, a43, a44, a45, a46, a47, a49, v67_voters, a68)) else ((fX1_learn_L Fu nh nt ne ns b q v1_beasts v1_seats v1_laws v1_inForce a2 a3 a4 a5 v37_height v37_answer a38 a39 v42_beasts v42_seats v42_seated v42_quota v42_known v42_surveyed a43 a44 a45 a46 a47 a49 aL1 aL2 aL3 aL4).bind fun r2 => ((fX1_steadiest Fu r2.2.2.2.2.1 v42_steadyBench v42_steadyWays v42_steadySwing r2.2.2.2.2.2.2.2.2.2.2.1 r2.2.2.2.2.2.2.2.2.2.2.2.1 r2.2.2.2.2.2.2.2.2.2.2.2.2.2.1 r2.2.2.2.2.2.2.2.2.2.2.2.2.2.2.1 v67_voters a68 x1).bind fun r3 => (if (x2 : Int32) = (0 : Int32) then (some (r3.1, r2.1, r2.2.1, r2.2.2.1, r2.2.2.2.1, r2.2.2.2.2.1, r2.2.2.2.2.2.1, r2.2.2.2.2.2.2.1, r2.2.2.2.2.2.2.2.1, r2.2.2.2.2.2.2.2.2.1, r2.2.2.2.2.2.2.2.2.2.1, r3.1, r3.2.1, r3.2.2.1, r2.2.2.2.2.2.2.2.2.2.2.1, r2.2.2.2.2.2.2.2.2.2.2.2.1, r2.2.2.2.2.2.2.2.2.2.2.2.2.1, r2.2.2.2.2.2.2.2.2.2.2.2.2.2.1, r2.2.2.2.2.2.2.2.2.2.2.2.2.2.2.1, r2.2.2.2.2.2.2.2.2.2.2.2.2.2.2.2, r3.2.2.2.1, r3.2.2.2.2)) else (some (r3.2.1, r2.1, r2.2.1, r2.2.2.1, r2.2.2.2.1, r2.2.2.2.2.1, r2.2.2.2.2.2.1, r2.2.2.2.2.2.2.1, r2.2.2.2.2.2.2.2.1, r2.2.2.2.2.2.2.2.2.1, r2.2.2.2.2.2.2.2.2.2.1, r3.1, r3.2.1, r3.2.2.1, r2.2.2.2.2.2.2.2.2.2.2.1, r2.2.2.2.2.2.2.2.2.2.2.2.1, r2.2.2.2.2.2.2.2.2.2.2.2.2.1, r2.2.2.2.2.2.2.2.2.2.2.2.2.2.1, r2.2.2.2.2.2.2.2.2.2.2.2.2.2.2.1, r2.2.2.2.2.2.2.2.2.2.2.2.2.2.2.2, r3.2.2.2.1, r3.2.2.2.2))))))))
set_option maxHeartbeats 4000000 in
set_option maxRecDepth 100000 in
theorem tX11_steady_L {G : GT} {b : Nat} {q nh nt ne ns : Nat} {c0 : Hp} {n : Nat} (hw : e_wf (kW51 q) n) {v0_faultPlace : Int32} {v0_quashedRows : Int32} {v0_lastRefusal : Int32} {v1_meals : Int32} {Fu : Nat} {v1_beasts : Int32} {v1_seats : Int32} {v1_laws : Int32} {v1_inForce : Int32} {a2 : Nat → Int32} {a3 : Nat → Int32} {a4 : Nat → Int32} {a5 : Nat → Option Nat} {v37_height : Int32} {v37_answer : Int64} {a38 : Nat → Int32} {a39 : Nat → Int64} {v42_beasts : Int32} {v42_seats : Int32} {v42_seated : Int32} {v42_quota : Int32} {v42_known : Int32} {v42_surveyed : Int32} {v42_steadyBench : Int32} {v42_steadyWays : Int32} {v42_steadySwing : Int64} {a43 : Nat → Int32} {a44 : Nat → Int32} {a45 : Nat → Int32} {a46 : Nat → Int32} {a47 : Nat → Int32} {a49 : Nat → Int32} {v67_voters : Int32} {a68 : Nat → Int64} {aL1 : Nat → Int32} {aL2 : Nat → Int32} {aL3 : Nat → Int32} {aL4 : Nat → Int32} {x1 : Int32} {x2 : Int32} {R : Int32 × Int32 × Int64 × (Nat → Int32) × (Nat → Int64) × Int32 × Int32 × Int32 × Int32 × Int32 × Int32 × Int32 × Int32 × Int64 × (Nat → Int32) × (Nat → Int32) × (Nat → Int32) × (Nat → Int32) × (Nat → Int32) × (Nat → Int32) × Int32 × (Nat → Int64)} (hf : fX11_steady_L Fu nh nt ne ns b q v1_beasts v1_seats v1_laws v1_inForce a2 a3 a4 a5 v37_height v37_answer a38 a39 v42_beasts v42_seats v42_seated v42_quota v42_known v42_surveyed v42_steadyBench v42_steadyWays v42_steadySwing a43 a44 a45 a46 a47 a49 v67_voters a68 aL1 aL2 aL3 aL4 x1 x2 = some R) : E G b yX11_steady cX11_steady 3 (some .int) (e_rm 6 0 0) e_X0 (e_Z G b (pD (some (.int R.1)) (e_ov (kW51 q) (wW51 G b q nh nt ne ns v0_faultPlace v0_quashedRows v0_lastRefusal v1_beasts v1_meals v1_seats v1_laws v1_inForce a2 a3 a4 a5 R.2.1 R.2.2.1 R.2.2.2.1 R.2.2.2.2.1 R.2.2.2.2.2.1 R.2.2.2.2.2.2.1 R.2.2.2.2.2.2.2.1 R.2.2.2.2.2.2.2.2.1 R.2.2.2.2.2.2.2.2.2.1 R.2.2.2.2.2.2.2.2.2.2.1 R.2.2.2.2.2.2.2.2.2.2.2.1 R.2.2.2.2.2.2.2.2.2.2.2.2.1 R.2.2.2.2.2.2.2.2.2.2.2.2.2.1 R.2.2.2.2.2.2.2.2.2.2.2.2.2.2.1 R.2.2.2.2.2.2.2.2.2.2.2.2.2.2.2.1 R.2.2.2.2.2.2.2.2.2.2.2.2.2.2.2.2.1 R.2.2.2.2.2.2.2.2.2.2.2.2.2.2.2.2.2.1 R.2.2.2.2.2.2.2.2.2.2.2.2.2.2.2.2.2.2.1 R.2.2.2.2.2.2.2.2.2.2.2.2.2.2.2.2.2.2.2.1 R.2.2.2.2.2.2.2.2.2.2.2.2.2.2.2.2.2.2.2.2.1 R.2.2.2.2.2.2.2.2.2.2.2.2.2.2.2.2.2.2.2.2.2 aL1 aL2 aL3 aL4) c0) n) 0 0) 0 [(0, .ref (b + 0)), (1, .int x1), (2, .int x2)] [] (e_ov (kW51 q) (wW51 G b q nh nt ne ns v0_faultPlace v0_quashedRows v0_lastRefusal v1_beasts v1_meals v1_seats v1_laws v1_inForce a2 a3 a4 a5 v37_height v37_answer a38 a39 v42_beasts v42_seats v42_seated v42_quota v42_known v42_surveyed v42_steadyBench v42_steadyWays v42_steadySwing a43 a44 a45 a46 a47 a49 v67_voters a68 aL1 aL2 aL3 aL4) c0) n 0 0 := by
  unfold fX11_steady_L at hf
  refine E.iload_n 1 dX11_steady_0 rfl ?_
  refine E.iconst (v := 1) dX11_steady_1 (by decide) ?_
  refine E.icmp_lt dX11_steady_2 (fun h => ?_) (fun h => ?_)
  · have hf := e_ift hf h
    refine E.iconst (v := -1) dX11_steady_23 (by decide) ?_
    cases hf
    exact E.iret dX11_steady_24 (Nat.le_refl _) (Nat.le_refl _) (pD_rf _ _ _)
  · have hf := e_iff hf h
    refine E.iload_n 1 dX11_steady_5 rfl ?_
    refine E.aload_n 0 dX11_steady_6 rfl ?_
    refine E.get hw 0 0 dX11_steady_7 flX11_10 rfl rfl rfl rfl ?_
    refine E.getN hw 1 1 dX11_steady_10 fnX11_101 rfl rfl rfl rfl ?_
    refine E.icmp_gt dX11_steady_13 (fun h => ?_) (fun h => ?_)
    · have hf := e_ift hf h
      refine E.iconst (v := -1) dX11_steady_23 (by decide) ?_
      cases hf
      exact E.iret dX11_steady_24 (Nat.le_refl _) (Nat.le_refl _) (pD_rf _ _ _)
    · have hf := e_iff hf h
      refine E.iload_n 2 dX11_steady_16 rfl ?_
      obtain ⟨r1, hc1, hf⟩ := e_bind hf
      refine E.callSD [] dX11_steady_17 mlX11_274 (mX11_isEither hc1) ⟨Nat.le_of_ble_eq_true rfl, Nat.le_of_ble_eq_true rfl⟩ rfl rfl (Nat.le_of_ble_eq_true rfl) ⟨Nat.le_refl _, Nat.le_refl _⟩ rfl ?_
      refine E.if_ne dX11_steady_20 (fun h => ?_) (fun h => ?_)
      · have hf := e_iff hf h
        refine E.aload_n 0 dX11_steady_25 rfl ?_
        refine E.get hw 0 0 dX11_steady_26 flX11_57 rfl rfl rfl rfl ?_
        refine E.aload_n 0 dX11_steady_29 rfl ?_
        refine E.get hw 0 0 dX11_steady_30 flX11_10 rfl rfl rfl rfl ?_
        refine E.aload_n 0 dX11_steady_33 rfl ?_
        refine E.get hw 0 0 dX11_steady_34 flX11_43 rfl rfl rfl rfl ?_
        obtain ⟨r2, hc2, hf⟩ := e_bind hf
        refine E.callVDs (es' := (wW51 G b q nh nt ne ns v0_faultPlace v0_quashedRows v0_lastRefusal v1_beasts v1_meals v1_seats v1_laws v1_inForce a2 a3 a4 a5 r2.1 r2.2.1 r2.2.2.1 r2.2.2.2.1 r2.2.2.2.2.1 r2.2.2.2.2.2.1 r2.2.2.2.2.2.2.1 r2.2.2.2.2.2.2.2.1 r2.2.2.2.2.2.2.2.2.1 r2.2.2.2.2.2.2.2.2.2.1 v42_steadyBench v42_steadyWays v42_steadySwing r2.2.2.2.2.2.2.2.2.2.2.1 r2.2.2.2.2.2.2.2.2.2.2.2.1 r2.2.2.2.2.2.2.2.2.2.2.2.2.1 r2.2.2.2.2.2.2.2.2.2.2.2.2.2.1 r2.2.2.2.2.2.2.2.2.2.2.2.2.2.2.1 r2.2.2.2.2.2.2.2.2.2.2.2.2.2.2.2 v67_voters a68 aL1 aL2 aL3 aL4)) [] [1, 2, 3, 4, 5, 6, 7, 8, 9, 10, 11, 12, 13, 14, 15, 18, 19, 20, 21, 22] 9 42 dX11_steady_37 mlX11_263 hw rfl rfl rfl rfl (mX1_learn_L (hw.pick2 [1, 2, 3, 4, 5, 6, 7, 8, 9, 10, 11, 12, 13, 14, 15, 18, 19, 20, 21, 22] rfl (by decide)) hc2) rfl rfl rfl rfl ⟨Nat.le_of_ble_eq_true rfl, Nat.le_of_ble_eq_true rfl⟩ rfl rfl (Nat.le_of_ble_eq_true rfl) ⟨Nat.le_refl _, Nat.le_refl _⟩ rfl ?_
        refine E.aload_n 0 dX11_steady_40 rfl ?_
        refine E.get hw 0 0 dX11_steady_41 flX11_57 rfl rfl rfl rfl ?_
        refine E.iload_n 1 dX11_steady_44 rfl ?_
        obtain ⟨r3, hc3, hf⟩ := e_bind hf
        refine E.callVDs (es' := (wW51 G b q nh nt ne ns v0_faultPlace v0_quashedRows v0_lastRefusal v1_beasts v1_meals v1_seats v1_laws v1_inForce a2 a3 a4 a5 r2.1 r2.2.1 r2.2.2.1 r2.2.2.2.1 r2.2.2.2.2.1 r2.2.2.2.2.2.1 r2.2.2.2.2.2.2.1 r2.2.2.2.2.2.2.2.1 r2.2.2.2.2.2.2.2.2.1 r2.2.2.2.2.2.2.2.2.2.1 r3.1 r3.2.1 r3.2.2.1 r2.2.2.2.2.2.2.2.2.2.2.1 r2.2.2.2.2.2.2.2.2.2.2.2.1 r2.2.2.2.2.2.2.2.2.2.2.2.2.1 r2.2.2.2.2.2.2.2.2.2.2.2.2.2.1 r2.2.2.2.2.2.2.2.2.2.2.2.2.2.2.1 r2.2.2.2.2.2.2.2.2.2.2.2.2.2.2.2 r3.2.2.2.1 r3.2.2.2.2 aL1 aL2 aL3 aL4)) [] [9, 10, 11, 13, 14, 16, 17] 9 42 dX11_steady_45 mlX11_301 hw rfl rfl rfl rfl (mX1_steadiest (hw.pick2 [9, 10, 11, 13, 14, 16, 17] rfl (by decide)) hc3) rfl rfl rfl rfl ⟨Nat.le_of_ble_eq_true rfl, Nat.le_of_ble_eq_true rfl⟩ rfl rfl (Nat.le_of_ble_eq_true rfl) ⟨Nat.le_refl _, Nat.le_refl _⟩ rfl ?_
        refine E.iload_n 2 dX11_steady_48 rfl ?_
        refine E.if_ne dX11_steady_49 (fun h => ?_) (fun h => ?_)
        · have hf := e_iff hf h
          refine E.aload_n 0 dX11_steady_62 rfl ?_
          refine E.get hw 0 0 dX11_steady_63 flX11_57 rfl rfl rfl rfl ?_
          refine E.getN hw 9 42 dX11_steady_66 fnX11_307 rfl rfl rfl rfl ?_
          cases hf
          exact E.iret dX11_steady_69 (Nat.le_refl _) (Nat.le_refl _) (pD_rf _ _ _)
        · have hf := e_ift hf h
          refine E.aload_n 0 dX11_steady_52 rfl ?_
          refine E.get hw 0 0 dX11_steady_53 flX11_57 rfl rfl rfl rfl ?_
          refine E.getN hw 9 42 dX11_steady_56 fnX11_304 rfl rfl rfl rfl ?_
          refine E.goto dX11_steady_59 ?_
          cases hf
          exact E.iret dX11_steady_69 (Nat.le_refl _) (Nat.le_refl _) (pD_rf _ _ _)
      · have hf := e_ift hf h
        refine E.iconst (v := -1) dX11_steady_23 (by decide) ?_
        cases hf
        exact E.iret dX11_steady_24 (Nat.le_refl _) (Nat.le_refl _) (pD_rf _ _ _)
set_option maxRecDepth 100000 in
theorem mX11_steady_L {G : GT} {b : Nat} {q nh nt ne ns : Nat} {c0 : Hp} {n : Nat} (hw : e_wf (kW51 q) n) {v0_faultPlace : Int32} {v0_quashedRows : Int32} {v0_lastRefusal : Int32} {v1_meals : Int32} {Fu : Nat} {v1_beasts : Int32} {v1_seats : Int32} {v1_laws : Int32} {v1_inForce : Int32} {a2 : Nat → Int32} {a3 : Nat → Int32} {a4 : Nat → Int32} {a5 : Nat → Option Nat} {v37_height : Int32} {v37_answer : Int64} {a38 : Nat → Int32} {a39 : Nat → Int64} {v42_beasts : Int32} {v42_seats : Int32} {v42_seated : Int32} {v42_quota : Int32} {v42_known : Int32} {v42_surveyed : Int32} {v42_steadyBench : Int32} {v42_steadyWays : Int32} {v42_steadySwing : Int64} {a43 : Nat → Int32} {a44 : Nat → Int32} {a45 : Nat → Int32} {a46 : Nat → Int32} {a47 : Nat → Int32} {a49 : Nat → Int32} {v67_voters : Int32} {a68 : Nat → Int64} {aL1 : Nat → Int32} {aL2 : Nat → Int32} {aL3 : Nat → Int32} {aL4 : Nat → Int32} {x1 : Int32} {x2 : Int32} {R : Int32 × Int32 × Int64 × (Nat → Int32) × (Nat → Int64) × Int32 × Int32 × Int32 × Int32 × Int32 × Int32 × Int32 × Int32 × Int64 × (Nat → Int32) × (Nat → Int32) × (Nat → Int32) × (Nat → Int32) × (Nat → Int32) × (Nat → Int32) × Int32 × (Nat → Int64)} (hf : fX11_steady_L Fu nh nt ne ns b q v1_beasts v1_seats v1_laws v1_inForce a2 a3 a4 a5 v37_height v37_answer a38 a39 v42_beasts v42_seats v42_seated v42_quota v42_known v42_surveyed v42_steadyBench v42_steadyWays v42_steadySwing a43 a44 a45 a46 a47 a49 v67_voters a68 aL1 aL2 aL3 aL4 x1 x2 = some R) : e_C G b yX11_steady cX11_steady 3 (some .int) 6 0 0 [.ref (b + 0), .int x1, .int x2] (e_ov (kW51 q) (wW51 G b q nh nt ne ns v0_faultPlace v0_quashedRows v0_lastRefusal v1_beasts v1_meals v1_seats v1_laws v1_inForce a2 a3 a4 a5 v37_height v37_answer a38 a39 v42_beasts v42_seats v42_seated v42_quota v42_known v42_surveyed v42_steadyBench v42_steadyWays v42_steadySwing a43 a44 a45 a46 a47 a49 v67_voters a68 aL1 aL2 aL3 aL4) c0) n (pD (some (.int R.1)) (e_ov (kW51 q) (wW51 G b q nh nt ne ns v0_faultPlace v0_quashedRows v0_lastRefusal v1_beasts v1_meals v1_seats v1_laws v1_inForce a2 a3 a4 a5 R.2.1 R.2.2.1 R.2.2.2.1 R.2.2.2.2.1 R.2.2.2.2.2.1 R.2.2.2.2.2.2.1 R.2.2.2.2.2.2.2.1 R.2.2.2.2.2.2.2.2.1 R.2.2.2.2.2.2.2.2.2.1 R.2.2.2.2.2.2.2.2.2.2.1 R.2.2.2.2.2.2.2.2.2.2.2.1 R.2.2.2.2.2.2.2.2.2.2.2.2.1 R.2.2.2.2.2.2.2.2.2.2.2.2.2.1 R.2.2.2.2.2.2.2.2.2.2.2.2.2.2.1 R.2.2.2.2.2.2.2.2.2.2.2.2.2.2.2.1 R.2.2.2.2.2.2.2.2.2.2.2.2.2.2.2.2.1 R.2.2.2.2.2.2.2.2.2.2.2.2.2.2.2.2.2.1 R.2.2.2.2.2.2.2.2.2.2.2.2.2.2.2.2.2.2.1 R.2.2.2.2.2.2.2.2.2.2.2.2.2.2.2.2.2.2.2.1 R.2.2.2.2.2.2.2.2.2.2.2.2.2.2.2.2.2.2.2.2.1 R.2.2.2.2.2.2.2.2.2.2.2.2.2.2.2.2.2.2.2.2.2 aL1 aL2 aL3 aL4) c0) n) := e_C.of (by decide) (Nat.le_of_ble_eq_true rfl) (tX11_steady_L hw hf)
def fX11_swing_N (Fu : Nat) (v1_beasts : Int32) (v1_seats : Int32) (v1_laws : Int32) (v1_inForce : Int32) (a2 : Nat → Int32) (a3 : Nat → Int32) (a4 : Nat → Int32) (a5 : Nat → Option Nat) (a38 : Nat → Int32) (v42_beasts : Int32) (v42_seats : Int32) (v42_seated : Int32) (v42_quota : Int32) (v42_known : Int32) (v42_surveyed : Int32) (v42_steadyBench : Int32) (v42_steadyWays : Int32) (v42_steadySwing : Int64) (a43 : Nat → Int32) (a44 : Nat → Int32) (a45 : Nat → Int32) (a46 : Nat → Int32) (a47 : Nat → Int32) (a49 : Nat → Int32) (v67_voters : Int32) (a68 : Nat → Int64) (x1 : Int32) : Option (Int64 × (Nat → Int32) × Int32 × Int32 × Int32 × Int32 × Int32 × Int32 × Int32 × Int32 × Int64 × (Nat → Int32) × (Nat → Int32) × (Nat → Int32) × (Nat → Int32) × (Nat → Int32) × (Nat → Int32) × Int32 × (Nat → Int64)) := if (x1 : Int32) < (1 : Int32) then (some ((-1 : Int64), a38, v42_beasts, v42_seats, v42_seated, v42_quota, v42_known, v42_surveyed, v42_steadyBench, v42_steadyWays, v42_steadySwing, a43, a44, a45, a46, a47, a49, v67_voters, a68)) else (if (x1 : Int32) ≤ (v1_beasts : Int32) then ((fX1_learn_N Fu v1_beasts v1_seats v1_laws v1_inForce a2 a3 a4 a5 a38 v42_beasts v42_seats v42_seated v42_quota v42_known v42_surveyed a43 a44 a45 a46 a47 a49).bind fun r1 => ((fX1_steadiest Fu r1.2.1 v42_steadyBench v42_steadyWays v42_steadySwing r1.2.2.2.2.2.2.2.1 r1.2.2.2.2.2.2.2.2.1 r1.2.2.2.2.2.2.2.2.2.2.1 r1.2.2.2.2.2.2.2.2.2.2.2.1 v67_voters a68 x1).bind fun r2 => (some (r2.2.2.1, r1.1, r1.2.1, r1.2.2.1, r1.2.2.2.1, r1.2.2.2.2.1, r1.2.2.2.2.2.1, r1.2.2.2.2.2.2.1, r2.1, r2.2.1, r2.2.2.1, r1.2.2.2.2.2.2.2.1, r1.2.2.2.2.2.2.2.2.1, r1.2.2.2.2.2.2.2.2.2.1, r1.2.2.2.2.2.2.2.2.2.2.1, r1.2.2.2.2.2.2.2.2.2.2.2.1, r1.2.2.2.2.2.2.2.2.2.2.2.2, r2.2.2.2.1, r2.2.2.2.2)))) else (some ((-1 : Int64), a38, v42_beasts, v42_seats, v42_seated, v42_quota, v42_known, v42_surveyed, v42_steadyBench, v42_steadyWays, v42_steadySwing, a43, a44, a45, a46, a47, a49, v67_voters, a68)))
set_option maxHeartbeats 4000000 in
set_option maxRecDepth 100000 in
theorem tX11_swing_N {G : GT} {b : Nat} {c0 : Hp} {n : Nat} (hw : e_wf (kW49) n) {v0_faultPlace : Int32} {v0_quashedRows : Int32} {v0_lastRefusal : Int32} {v1_meals : Int32} {v37_height : Int32} {v37_answer : Int64} {Fu : Nat} {v1_beasts : Int32} {v1_seats : Int32} {v1_laws : Int32} {v1_inForce : Int32} {a2 : Nat → Int32} {a3 : Nat → Int32} {a4 : Nat → Int32} {a5 : Nat → Option Nat} {a38 : Nat → Int32} {v42_beasts : Int32} {v42_seats : Int32} {v42_seated : Int32} {v42_quota : Int32} {v42_known : Int32} {v42_surveyed : Int32} {v42_steadyBench : Int32} {v42_steadyWays : Int32} {v42_steadySwing : Int64} {a43 : Nat → Int32} {a44 : Nat → Int32} {a45 : Nat → Int32} {a46 : Nat → Int32} {a47 : Nat → Int32} {a49 : Nat → Int32} {v67_voters : Int32} {a68 : Nat → Int64} {x1 : Int32} {R : Int64 × (Nat → Int32) × Int32 × Int32 × Int32 × Int32 × Int32 × Int32 × Int32 × Int32 × Int64 × (Nat → Int32) × (Nat → Int32) × (Nat → Int32) × (Nat → Int32) × (Nat → Int32) × (Nat → Int32) × Int32 × (Nat → Int64)} (hf : fX11_swing_N Fu v1_beasts v1_seats v1_laws v1_inForce a2 a3 a4 a5 a38 v42_beasts v42_seats v42_seated v42_quota v42_known v42_surveyed v42_steadyBench v42_steadyWays v42_steadySwing a43 a44 a45 a46 a47 a49 v67_voters a68 x1 = some R) : E G b yX11_swing cX11_swing 2 (some .long) (e_rm 5 0 0) e_X0 (e_Z G b (pD (some (.long R.1)) (e_ov (kW49) (wW49 G b v0_faultPlace v0_quashedRows v0_lastRefusal v1_beasts v1_meals v1_seats v1_laws v1_inForce a2 a3 a4 a5 v37_height v37_answer R.2.1 R.2.2.1 R.2.2.2.1 R.2.2.2.2.1 R.2.2.2.2.2.1 R.2.2.2.2.2.2.1 R.2.2.2.2.2.2.2.1 R.2.2.2.2.2.2.2.2.1 R.2.2.2.2.2.2.2.2.2.1 R.2.2.2.2.2.2.2.2.2.2.1 R.2.2.2.2.2.2.2.2.2.2.2.1 R.2.2.2.2.2.2.2.2.2.2.2.2.1 R.2.2.2.2.2.2.2.2.2.2.2.2.2.1 R.2.2.2.2.2.2.2.2.2.2.2.2.2.2.1 R.2.2.2.2.2.2.2.2.2.2.2.2.2.2.2.1 R.2.2.2.2.2.2.2.2.2.2.2.2.2.2.2.2.1 R.2.2.2.2.2.2.2.2.2.2.2.2.2.2.2.2.2.1 R.2.2.2.2.2.2.2.2.2.2.2.2.2.2.2.2.2.2) c0) n) 0 0) 0 [(0, .ref (b + 0)), (1, .int x1)] [] (e_ov (kW49) (wW49 G b v0_faultPlace v0_quashedRows v0_lastRefusal v1_beasts v1_meals v1_seats v1_laws v1_inForce a2 a3 a4 a5 v37_height v37_answer a38 v42_beasts v42_seats v42_seated v42_quota v42_known v42_surveyed v42_steadyBench v42_steadyWays v42_steadySwing a43 a44 a45 a46 a47 a49 v67_voters a68) c0) n 0 0 := by
  unfold fX11_swing_N at hf
  refine E.iload_n 1 dX11_swing_0 rfl ?_
  refine E.iconst (v := 1) dX11_swing_1 (by decide) ?_
  refine E.icmp_lt dX11_swing_2 (fun h => ?_) (fun h => ?_)
  · have hf := e_ift hf h
    refine E.ldc2 dX11_swing_16 kX11_210 ?_
    cases hf
    exact E.lret dX11_swing_19 (Nat.le_refl _) (Nat.le_refl _) (pD_rf _ _ _)
  · have hf := e_iff hf h
    refine E.iload_n 1 dX11_swing_5 rfl ?_
    refine E.aload_n 0 dX11_swing_6 rfl ?_
    refine E.get hw 0 0 dX11_swing_7 flX11_10 rfl rfl rfl rfl ?_
    refine E.getN hw 1 1 dX11_swing_10 fnX11_101 rfl rfl rfl rfl ?_
    refine E.icmp_le dX11_swing_13 (fun h => ?_) (fun h => ?_)
    · have hf := e_ift hf h
      refine E.aload_n 0 dX11_swing_20 rfl ?_
      refine E.get hw 0 0 dX11_swing_21 flX11_57 rfl rfl rfl rfl ?_
      refine E.aload_n 0 dX11_swing_24 rfl ?_
      refine E.get hw 0 0 dX11_swing_25 flX11_10 rfl rfl rfl rfl ?_
      refine E.aload_n 0 dX11_swing_28 rfl ?_
      refine E.get hw 0 0 dX11_swing_29 flX11_43 rfl rfl rfl rfl ?_
      obtain ⟨r1, hc1, hf⟩ := e_bind hf
      refine E.callVDs (es' := (wW49 G b v0_faultPlace v0_quashedRows v0_lastRefusal v1_beasts v1_meals v1_seats v1_laws v1_inForce a2 a3 a4 a5 v37_height v37_answer r1.1 r1.2.1 r1.2.2.1 r1.2.2.2.1 r1.2.2.2.2.1 r1.2.2.2.2.2.1 r1.2.2.2.2.2.2.1 v42_steadyBench v42_steadyWays v42_steadySwing r1.2.2.2.2.2.2.2.1 r1.2.2.2.2.2.2.2.2.1 r1.2.2.2.2.2.2.2.2.2.1 r1.2.2.2.2.2.2.2.2.2.2.1 r1.2.2.2.2.2.2.2.2.2.2.2.1 r1.2.2.2.2.2.2.2.2.2.2.2.2 v67_voters a68)) [] [1, 2, 3, 4, 5, 6, 7, 8, 9, 10, 11, 12, 13, 14] 8 42 dX11_swing_32 mlX11_263 hw rfl rfl rfl rfl (mX1_learn_N (hw.pick2 [1, 2, 3, 4, 5, 6, 7, 8, 9, 10, 11, 12, 13, 14] rfl (by decide)) hc1) rfl rfl rfl rfl ⟨Nat.le_of_ble_eq_true rfl, Nat.le_of_ble_eq_true rfl⟩ rfl rfl (Nat.le_of_ble_eq_true rfl) ⟨Nat.le_refl _, Nat.le_refl _⟩ rfl ?_
      refine E.aload_n 0 dX11_swing_35 rfl ?_
      refine E.get hw 0 0 dX11_swing_36 flX11_57 rfl rfl rfl rfl ?_
      refine E.iload_n 1 dX11_swing_39 rfl ?_
      obtain ⟨r2, hc2, hf⟩ := e_bind hf
      refine E.callVDs (es' := (wW49 G b v0_faultPlace v0_quashedRows v0_lastRefusal v1_beasts v1_meals v1_seats v1_laws v1_inForce a2 a3 a4 a5 v37_height v37_answer r1.1 r1.2.1 r1.2.2.1 r1.2.2.2.1 r1.2.2.2.2.1 r1.2.2.2.2.2.1 r1.2.2.2.2.2.2.1 r2.1 r2.2.1 r2.2.2.1 r1.2.2.2.2.2.2.2.1 r1.2.2.2.2.2.2.2.2.1 r1.2.2.2.2.2.2.2.2.2.1 r1.2.2.2.2.2.2.2.2.2.2.1 r1.2.2.2.2.2.2.2.2.2.2.2.1 r1.2.2.2.2.2.2.2.2.2.2.2.2 r2.2.2.2.1 r2.2.2.2.2)) [] [8, 9, 10, 12, 13, 15, 16] 8 42 dX11_swing_40 mlX11_301 hw rfl rfl rfl rfl (mX1_steadiest (hw.pick2 [8, 9, 10, 12, 13, 15, 16] rfl (by decide)) hc2) rfl rfl rfl rfl ⟨Nat.le_of_ble_eq_true rfl, Nat.le_of_ble_eq_true rfl⟩ rfl rfl (Nat.le_of_ble_eq_true rfl) ⟨Nat.le_refl _, Nat.le_refl _⟩ rfl ?_
      refine E.aload_n 0 dX11_swing_43 rfl ?_
      refine E.get hw 0 0 dX11_swing_44 flX11_57 rfl rfl rfl rfl ?_
      refine E.getN hw 8 42 dX11_swing_47 fnX11_310 rfl rfl rfl rfl ?_
      cases hf
      exact E.lret dX11_swing_50 (Nat.le_refl _) (Nat.le_refl _) (pD_rf _ _ _)
    · have hf := e_iff hf h
      refine E.ldc2 dX11_swing_16 kX11_210 ?_
      cases hf
      exact E.lret dX11_swing_19 (Nat.le_refl _) (Nat.le_refl _) (pD_rf _ _ _)
set_option maxRecDepth 100000 in
theorem mX11_swing_N {G : GT} {b : Nat} {c0 : Hp} {n : Nat} (hw : e_wf (kW49) n) {v0_faultPlace : Int32} {v0_quashedRows : Int32} {v0_lastRefusal : Int32} {v1_meals : Int32} {v37_height : Int32} {v37_answer : Int64} {Fu : Nat} {v1_beasts : Int32} {v1_seats : Int32} {v1_laws : Int32} {v1_inForce : Int32} {a2 : Nat → Int32} {a3 : Nat → Int32} {a4 : Nat → Int32} {a5 : Nat → Option Nat} {a38 : Nat → Int32} {v42_beasts : Int32} {v42_seats : Int32} {v42_seated : Int32} {v42_quota : Int32} {v42_known : Int32} {v42_surveyed : Int32} {v42_steadyBench : Int32} {v42_steadyWays : Int32} {v42_steadySwing : Int64} {a43 : Nat → Int32} {a44 : Nat → Int32} {a45 : Nat → Int32} {a46 : Nat → Int32} {a47 : Nat → Int32} {a49 : Nat → Int32} {v67_voters : Int32} {a68 : Nat → Int64} {x1 : Int32} {R : Int64 × (Nat → Int32) × Int32 × Int32 × Int32 × Int32 × Int32 × Int32 × Int32 × Int32 × Int64 × (Nat → Int32) × (Nat → Int32) × (Nat → Int32) × (Nat → Int32) × (Nat → Int32) × (Nat → Int32) × Int32 × (Nat → Int64)} (hf : fX11_swing_N Fu v1_beasts v1_seats v1_laws v1_inForce a2 a3 a4 a5 a38 v42_beasts v42_seats v42_seated v42_quota v42_known v42_surveyed v42_steadyBench v42_steadyWays v42_steadySwing a43 a44 a45 a46 a47 a49 v67_voters a68 x1 = some R) : e_C G b yX11_swing cX11_swing 2 (some .long) 5 0 0 [.ref (b + 0), .int x1] (e_ov (kW49) (wW49 G b v0_faultPlace v0_quashedRows v0_lastRefusal v1_beasts v1_meals v1_seats v1_laws v1_inForce a2 a3 a4 a5 v37_height v37_answer a38 v42_beasts v42_seats v42_seated v42_quota v42_known v42_surveyed v42_steadyBench v42_steadyWays v42_steadySwing a43 a44 a45 a46 a47 a49 v67_voters a68) c0) n (pD (some (.long R.1)) (e_ov (kW49) (wW49 G b v0_faultPlace v0_quashedRows v0_lastRefusal v1_beasts v1_meals v1_seats v1_laws v1_inForce a2 a3 a4 a5 v37_height v37_answer R.2.1 R.2.2.1 R.2.2.2.1 R.2.2.2.2.1 R.2.2.2.2.2.1 R.2.2.2.2.2.2.1 R.2.2.2.2.2.2.2.1 R.2.2.2.2.2.2.2.2.1 R.2.2.2.2.2.2.2.2.2.1 R.2.2.2.2.2.2.2.2.2.2.1 R.2.2.2.2.2.2.2.2.2.2.2.1 R.2.2.2.2.2.2.2.2.2.2.2.2.1 R.2.2.2.2.2.2.2.2.2.2.2.2.2.1 R.2.2.2.2.2.2.2.2.2.2.2.2.2.2.1 R.2.2.2.2.2.2.2.2.2.2.2.2.2.2.2.1 R.2.2.2.2.2.2.2.2.2.2.2.2.2.2.2.2.1 R.2.2.2.2.2.2.2.2.2.2.2.2.2.2.2.2.2.1 R.2.2.2.2.2.2.2.2.2.2.2.2.2.2.2.2.2.2) c0) n) := e_C.of (by decide) (Nat.le_of_ble_eq_true rfl) (tX11_swing_N hw hf)
def fX11_swing_L (Fu : Nat) (nh : Nat) (nt : Nat) (ne : Nat) (ns : Nat) (b q : Nat) (v1_beasts : Int32) (v1_seats : Int32) (v1_laws : Int32) (v1_inForce : Int32) (a2 : Nat → Int32) (a3 : Nat → Int32) (a4 : Nat → Int32) (a5 : Nat → Option Nat) (v37_height : Int32) (v37_answer : Int64) (a38 : Nat → Int32) (a39 : Nat → Int64) (v42_beasts : Int32) (v42_seats : Int32) (v42_seated : Int32) (v42_quota : Int32) (v42_known : Int32) (v42_surveyed : Int32) (v42_steadyBench : Int32) (v42_steadyWays : Int32) (v42_steadySwing : Int64) (a43 : Nat → Int32) (a44 : Nat → Int32) (a45 : Nat → Int32) (a46 : Nat → Int32) (a47 : Nat → Int32) (a49 : Nat → Int32) (v67_voters : Int32) (a68 : Nat → Int64) (aL1 : Nat → Int32) (aL2 : Nat → Int32) (aL3 : Nat → Int32) (aL4 : Nat → Int32) (x1 : Int32) : Option (Int64 × Int32 × Int64 × (Nat → Int32) × (Nat → Int64) × Int32 × Int32 × Int32 × Int32 × Int32 × Int32 × Int32 × Int32 × Int64 × (Nat → Int32) × (Nat → Int32) × (Nat → Int32) × (Nat → Int32) × (Nat → Int32) × (Nat → Int32) × Int32 × (Nat → Int64)) := if (x1 : Int32) < (1 : Int32) then (some ((-1 : Int64), v37_height, v37_answer, a38, a39, v42_beasts, v42_seats, v42_seated, v42_quota, v42_known, v42_surveyed, v42_steadyBench, v42_steadyWays, v42_steadySwing, a43, a44, a45, a46, a47, a49, v67_voters, a68)) else (if (x1 : Int32) ≤ (v1_beasts : Int32) then ((fX1_learn_L Fu nh nt ne ns b q v1_beasts v1_seats v1_laws v1_inForce a2 a3 a4 a5 v37_height v37_answer a38 a39 v42_beasts v42_seats v42_seated v42_quota v42_known v42_surveyed a43 a44 a45 a46 a47 a49 aL1 aL2 aL3 aL4).bind fun r1 => ((fX1_steadiest Fu r1.2.2.2.2.1 v42_steadyBench v42_steadyWays v42_steadySwing r1.2.2.2.2.2.2.2.2.2.2.1 r1.2.2.2.2.2.2.2.2.2.2.2.1 r1.2.2.2.2.2.2.2.2.2.2.2.2.2.1 r1.2.2.2.2.2.2.2.2.2.2.2.2.2.2.1 v67_voters a68 x1).bind fun r2 => (some (r2.2.2.1, r1.1, r1.2.1, r1.2.2.1, r1.2.2.2.1, r1.2.2.2.2.1, r1.2.2.2.2.2.1, r1.2.2.2.2.2.2.1, r1.2.2.2.2.2.2.2.1, r1.2.2.2.2.2.2.2.2.1, r1.2.2.2.2.2.2.2.2.2.1, r2.1, r2.2.1, r2.2.2.1, r1.2.2.2.2.2.2.2.2.2.2.1, r1.2.2.2.2.2.2.2.2.2.2.2.1, r1.2.2.2.2.2.2.2.2.2.2.2.2.1, r1.2.2.2.2.2.2.2.2.2.2.2.2.2.1, r1.2.2.2.2.2.2.2.2.2.2.2.2.2.2.1, r1.2.2.2.2.2.2.2.2.2.2.2.2.2.2.2, r2.2.2.2.1, r2.2.2.2.2)))) else (some ((-1 : Int64), v37_height, v37_answer, a38, a39, v42_beasts, v42_seats, v42_seated, v42_quota, v42_known, v42_surveyed, v42_steadyBench, v42_steadyWays, v42_steadySwing, a43, a44, a45, a46, a47, a49, v67_voters, a68)))
set_option maxHeartbeats 4000000 in
set_option maxRecDepth 100000 in
theorem tX11_swing_L {G : GT} {b : Nat} {q nh nt ne ns : Nat} {c0 : Hp} {n : Nat} (hw : e_wf (kW51 q) n) {v0_faultPlace : Int32} {v0_quashedRows : Int32} {v0_lastRefusal : Int32} {v1_meals : Int32} {Fu : Nat} {v1_beasts : Int32} {v1_seats : Int32} {v1_laws : Int32} {v1_inForce : Int32} {a2 : Nat → Int32} {a3 : Nat → Int32} {a4 : Nat → Int32} {a5 : Nat → Option Nat} {v37_height : Int32} {v37_answer : Int64} {a38 : Nat → Int32} {a39 : Nat → Int64} {v42_beasts : Int32} {v42_seats : Int32} {v42_seated : Int32} {v42_quota : Int32} {v42_known : Int32} {v42_surveyed : Int32} {v42_steadyBench : Int32} {v42_steadyWays : Int32} {v42_steadySwing : Int64} {a43 : Nat → Int32} {a44 : Nat → Int32} {a45 : Nat → Int32} {a46 : Nat → Int32} {a47 : Nat → Int32} {a49 : Nat → Int32} {v67_voters : Int32} {a68 : Nat → Int64} {aL1 : Nat → Int32} {aL2 : Nat → Int32} {aL3 : Nat → Int32} {aL4 : Nat → Int32} {x1 : Int32} {R : Int64 × Int32 × Int64 × (Nat → Int32) × (Nat → Int64) × Int32 × Int32 × Int32 × Int32 × Int32 × Int32 × Int32 × Int32 × Int64 × (Nat → Int32) × (Nat → Int32) × (Nat → Int32) × (Nat → Int32) × (Nat → Int32) × (Nat → Int32) × Int32 × (Nat → Int64)} (hf : fX11_swing_L Fu nh nt ne ns b q v1_beasts v1_seats v1_laws v1_inForce a2 a3 a4 a5 v37_height v37_answer a38 a39 v42_beasts v42_seats v42_seated v42_quota v42_known v42_surveyed v42_steadyBench v42_steadyWays v42_steadySwing a43 a44 a45 a46 a47 a49 v67_voters a68 aL1 aL2 aL3 aL4 x1 = some R) : E G b yX11_swing cX11_swing 2 (some .long) (e_rm 6 0 0) e_X0 (e_Z G b (pD (some (.long R.1)) (e_ov (kW51 q) (wW51 G b q nh nt ne ns v0_faultPlace v0_quashedRows v0_lastRefusal v1_beasts v1_meals v1_seats v1_laws v1_inForce a2 a3 a4 a5 R.2.1 R.2.2.1 R.2.2.2.1 R.2.2.2.2.1 R.2.2.2.2.2.1 R.2.2.2.2.2.2.1 R.2.2.2.2.2.2.2.1 R.2.2.2.2.2.2.2.2.1 R.2.2.2.2.2.2.2.2.2.1 R.2.2.2.2.2.2.2.2.2.2.1 R.2.2.2.2.2.2.2.2.2.2.2.1 R.2.2.2.2.2.2.2.2.2.2.2.2.1 R.2.2.2.2.2.2.2.2.2.2.2.2.2.1 R.2.2.2.2.2.2.2.2.2.2.2.2.2.2.1 R.2.2.2.2.2.2.2.2.2.2.2.2.2.2.2.1 R.2.2.2.2.2.2.2.2.2.2.2.2.2.2.2.2.1 R.2.2.2.2.2.2.2.2.2.2.2.2.2.2.2.2.2.1 R.2.2.2.2.2.2.2.2.2.2.2.2.2.2.2.2.2.2.1 R.2.2.2.2.2.2.2.2.2.2.2.2.2.2.2.2.2.2.2.1 R.2.2.2.2.2.2.2.2.2.2.2.2.2.2.2.2.2.2.2.2.1 R.2.2.2.2.2.2.2.2.2.2.2.2.2.2.2.2.2.2.2.2.2 aL1 aL2 aL3 aL4) c0) n) 0 0) 0 [(0, .ref (b + 0)), (1, .int x1)] [] (e_ov (kW51 q) (wW51 G b q nh nt ne ns v0_faultPlace v0_quashedRows v0_lastRefusal v1_beasts v1_meals v1_seats v1_laws v1_inForce a2 a3 a4 a5 v37_height v37_answer a38 a39 v42_beasts v42_seats v42_seated v42_quota v42_known v42_surveyed v42_steadyBench v42_steadyWays v42_steadySwing a43 a44 a45 a46 a47 a49 v67_voters a68 aL1 aL2 aL3 aL4) c0) n 0 0 := by
  unfold fX11_swing_L at hf
  refine E.iload_n 1 dX11_swing_0 rfl ?_
  refine E.iconst (v := 1) dX11_swing_1 (by decide) ?_
  refine E.icmp_lt dX11_swing_2 (fun h => ?_) (fun h => ?_)
  · have hf := e_ift hf h
    refine E.ldc2 dX11_swing_16 kX11_210 ?_
    cases hf
    exact E.lret dX11_swing_19 (Nat.le_refl _) (Nat.le_refl _) (pD_rf _ _ _)
  · have hf := e_iff hf h
    refine E.iload_n 1 dX11_swing_5 rfl ?_
    refine E.aload_n 0 dX11_swing_6 rfl ?_
    refine E.get hw 0 0 dX11_swing_7 flX11_10 rfl rfl rfl rfl ?_
    refine E.getN hw 1 1 dX11_swing_10 fnX11_101 rfl rfl rfl rfl ?_
    refine E.icmp_le dX11_swing_13 (fun h => ?_) (fun h => ?_)
    · have hf := e_ift hf h
      refine E.aload_n 0 dX11_swing_20 rfl ?_
      refine E.get hw 0 0 dX11_swing_21 flX11_57 rfl rfl rfl rfl ?_
      refine E.aload_n 0 dX11_swing_24 rfl ?_
      refine E.get hw 0 0 dX11_swing_25 flX11_10 rfl rfl rfl rfl ?_
      refine E.aload_n 0 dX11_swing_28 rfl ?_
      refine E.get hw 0 0 dX11_swing_29 flX11_43 rfl rfl rfl rfl ?_
      obtain ⟨r1, hc1, hf⟩ := e_bind hf
      refine E.callVDs (es' := (wW51 G b q nh nt ne ns v0_faultPlace v0_quashedRows v0_lastRefusal v1_beasts v1_meals v1_seats v1_laws v1_inForce a2 a3 a4 a5 r1.1 r1.2.1 r1.2.2.1 r1.2.2.2.1 r1.2.2.2.2.1 r1.2.2.2.2.2.1 r1.2.2.2.2.2.2.1 r1.2.2.2.2.2.2.2.1 r1.2.2.2.2.2.2.2.2.1 r1.2.2.2.2.2.2.2.2.2.1 v42_steadyBench v42_steadyWays v42_steadySwing r1.2.2.2.2.2.2.2.2.2.2.1 r1.2.2.2.2.2.2.2.2.2.2.2.1 r1.2.2.2.2.2.2.2.2.2.2.2.2.1 r1.2.2.2.2.2.2.2.2.2.2.2.2.2.1 r1.2.2.2.2.2.2.2.2.2.2.2.2.2.2.1 r1.2.2.2.2.2.2.2.2.2.2.2.2.2.2.2 v67_voters a68 aL1 aL2 aL3 aL4)) [] [1, 2, 3, 4, 5, 6, 7, 8, 9, 10, 11, 12, 13, 14, 15, 18, 19, 20, 21, 22] 9 42 dX11_swing_32 mlX11_263 hw rfl rfl rfl rfl (mX1_learn_L (hw.pick2 [1, 2, 3, 4, 5, 6, 7, 8, 9, 10, 11, 12, 13, 14, 15, 18, 19, 20, 21, 22] rfl (by decide)) hc1) rfl rfl rfl rfl ⟨Nat.le_of_ble_eq_true rfl, Nat.le_of_ble_eq_true rfl⟩ rfl rfl (Nat.le_of_ble_eq_true rfl) ⟨Nat.le_refl _, Nat.le_refl _⟩ rfl ?_
      refine E.aload_n 0 dX11_swing_35 rfl ?_
      refine E.get hw 0 0 dX11_swing_36 flX11_57 rfl rfl rfl rfl ?_
      refine E.iload_n 1 dX11_swing_39 rfl ?_
      obtain ⟨r2, hc2, hf⟩ := e_bind hf
      refine E.callVDs (es' := (wW51 G b q nh nt ne ns v0_faultPlace v0_quashedRows v0_lastRefusal v1_beasts v1_meals v1_seats v1_laws v1_inForce a2 a3 a4 a5 r1.1 r1.2.1 r1.2.2.1 r1.2.2.2.1 r1.2.2.2.2.1 r1.2.2.2.2.2.1 r1.2.2.2.2.2.2.1 r1.2.2.2.2.2.2.2.1 r1.2.2.2.2.2.2.2.2.1 r1.2.2.2.2.2.2.2.2.2.1 r2.1 r2.2.1 r2.2.2.1 r1.2.2.2.2.2.2.2.2.2.2.1 r1.2.2.2.2.2.2.2.2.2.2.2.1 r1.2.2.2.2.2.2.2.2.2.2.2.2.1 r1.2.2.2.2.2.2.2.2.2.2.2.2.2.1 r1.2.2.2.2.2.2.2.2.2.2.2.2.2.2.1 r1.2.2.2.2.2.2.2.2.2.2.2.2.2.2.2 r2.2.2.2.1 r2.2.2.2.2 aL1 aL2 aL3 aL4)) [] [9, 10, 11, 13, 14, 16, 17] 9 42 dX11_swing_40 mlX11_301 hw rfl rfl rfl rfl (mX1_steadiest (hw.pick2 [9, 10, 11, 13, 14, 16, 17] rfl (by decide)) hc2) rfl rfl rfl rfl ⟨Nat.le_of_ble_eq_true rfl, Nat.le_of_ble_eq_true rfl⟩ rfl rfl (Nat.le_of_ble_eq_true rfl) ⟨Nat.le_refl _, Nat.le_refl _⟩ rfl ?_
      refine E.aload_n 0 dX11_swing_43 rfl ?_
      refine E.get hw 0 0 dX11_swing_44 flX11_57 rfl rfl rfl rfl ?_
      refine E.getN hw 9 42 dX11_swing_47 fnX11_310 rfl rfl rfl rfl ?_
      cases hf
      exact E.lret dX11_swing_50 (Nat.le_refl _) (Nat.le_refl _) (pD_rf _ _ _)
    · have hf := e_iff hf h
      refine E.ldc2 dX11_swing_16 kX11_210 ?_
      cases hf
      exact E.lret dX11_swing_19 (Nat.le_refl _) (Nat.le_refl _) (pD_rf _ _ _)
set_option maxRecDepth 100000 in
theorem mX11_swing_L {G : GT} {b : Nat} {q nh nt ne ns : Nat} {c0 : Hp} {n : Nat} (hw : e_wf (kW51 q) n) {v0_faultPlace : Int32} {v0_quashedRows : Int32} {v0_lastRefusal : Int32} {v1_meals : Int32} {Fu : Nat} {v1_beasts : Int32} {v1_seats : Int32} {v1_laws : Int32} {v1_inForce : Int32} {a2 : Nat → Int32} {a3 : Nat → Int32} {a4 : Nat → Int32} {a5 : Nat → Option Nat} {v37_height : Int32} {v37_answer : Int64} {a38 : Nat → Int32} {a39 : Nat → Int64} {v42_beasts : Int32} {v42_seats : Int32} {v42_seated : Int32} {v42_quota : Int32} {v42_known : Int32} {v42_surveyed : Int32} {v42_steadyBench : Int32} {v42_steadyWays : Int32} {v42_steadySwing : Int64} {a43 : Nat → Int32} {a44 : Nat → Int32} {a45 : Nat → Int32} {a46 : Nat → Int32} {a47 : Nat → Int32} {a49 : Nat → Int32} {v67_voters : Int32} {a68 : Nat → Int64} {aL1 : Nat → Int32} {aL2 : Nat → Int32} {aL3 : Nat → Int32} {aL4 : Nat → Int32} {x1 : Int32} {R : Int64 × Int32 × Int64 × (Nat → Int32) × (Nat → Int64) × Int32 × Int32 × Int32 × Int32 × Int32 × Int32 × Int32 × Int32 × Int64 × (Nat → Int32) × (Nat → Int32) × (Nat → Int32) × (Nat → Int32) × (Nat → Int32) × (Nat → Int32) × Int32 × (Nat → Int64)} (hf : fX11_swing_L Fu nh nt ne ns b q v1_beasts v1_seats v1_laws v1_inForce a2 a3 a4 a5 v37_height v37_answer a38 a39 v42_beasts v42_seats v42_seated v42_quota v42_known v42_surveyed v42_steadyBench v42_steadyWays v42_steadySwing a43 a44 a45 a46 a47 a49 v67_voters a68 aL1 aL2 aL3 aL4 x1 = some R) : e_C G b yX11_swing cX11_swing 2 (some .long) 6 0 0 [.ref (b + 0), .int x1] (e_ov (kW51 q) (wW51 G b q nh nt ne ns v0_faultPlace v0_quashedRows v0_lastRefusal v1_beasts v1_meals v1_seats v1_laws v1_inForce a2 a3 a4 a5 v37_height v37_answer a38 a39 v42_beasts v42_seats v42_seated v42_quota v42_known v42_surveyed v42_steadyBench v42_steadyWays v42_steadySwing a43 a44 a45 a46 a47 a49 v67_voters a68 aL1 aL2 aL3 aL4) c0) n (pD (some (.long R.1)) (e_ov (kW51 q) (wW51 G b q nh nt ne ns v0_faultPlace v0_quashedRows v0_lastRefusal v1_beasts v1_meals v1_seats v1_laws v1_inForce a2 a3 a4 a5 R.2.1 R.2.2.1 R.2.2.2.1 R.2.2.2.2.1 R.2.2.2.2.2.1 R.2.2.2.2.2.2.1 R.2.2.2.2.2.2.2.1 R.2.2.2.2.2.2.2.2.1 R.2.2.2.2.2.2.2.2.2.1 R.2.2.2.2.2.2.2.2.2.2.1 R.2.2.2.2.2.2.2.2.2.2.2.1 R.2.2.2.2.2.2.2.2.2.2.2.2.1 R.2.2.2.2.2.2.2.2.2.2.2.2.2.1 R.2.2.2.2.2.2.2.2.2.2.2.2.2.2.1 R.2.2.2.2.2.2.2.2.2.2.2.2.2.2.2.1 R.2.2.2.2.2.2.2.2.2.2.2.2.2.2.2.2.1 R.2.2.2.2.2.2.2.2.2.2.2.2.2.2.2.2.2.1 R.2.2.2.2.2.2.2.2.2.2.2.2.2.2.2.2.2.2.1 R.2.2.2.2.2.2.2.2.2.2.2.2.2.2.2.2.2.2.2.1 R.2.2.2.2.2.2.2.2.2.2.2.2.2.2.2.2.2.2.2.2.1 R.2.2.2.2.2.2.2.2.2.2.2.2.2.2.2.2.2.2.2.2.2 aL1 aL2 aL3 aL4) c0) n) := e_C.of (by decide) (Nat.le_of_ble_eq_true rfl) (tX11_swing_L hw hf)
abbrev kW66 : List Nat := [0, 1, 6, 7, 8, 9, 42, 78]
abbrev wW66 (G : GT) (b  : Nat) (v0_faultPlace : Int32) (v0_quashedRows : Int32) (v0_lastRefusal : Int32) (v1_beasts : Int32) (v1_meals : Int32) (v1_seats : Int32) (v1_laws : Int32) (v1_inForce : Int32) (v6_cases : Int32) (a7 : Nat → Int32) (a8 : Nat → Int32) (a9 : Nat → Int32) (v42_beasts : Int32) (v42_seats : Int32) (v42_seated : Int32) (v42_quota : Int32) (v42_known : Int32) (v42_surveyed : Int32) (v42_steadyBench : Int32) (v42_steadyWays : Int32) (v42_steadySwing : Int64) (a78 : Nat → Int32) : List va_E := [.inr (11, [.ref (b + 1), .ref (b + 10), .ref (b + 29), .ref (b + 30), .ref (b + 32), .ref (b + 37), .ref (b + 40), .ref (b + 42), .ref (b + 69), .ref (b + 73), .ref (b + 74), .ref (b + 76), .ref (b + 78), .int v0_faultPlace, .int v0_quashedRows, .int v0_lastRefusal]), .inr (10, [.ref (b + 2), .ref (b + 3), .ref (b + 4), .ref (b + 5), .ref (b + 6), .int v1_beasts, .int v1_meals, .int v1_seats, .int v1_laws, .int v1_inForce]), .inr (2, [.ref (b + 7), .ref (b + 8), .ref (b + 9), .int v6_cases]), aI G 20 a7, aI G 20 a8, aI G 20 a9, .inr (1, [.ref (b + 43), .ref (b + 44), .ref (b + 45), .ref (b + 46), .ref (b + 47), .ref (b + 48), .ref (b + 49), .ref (b + 50), .ref (b + 67), .int v42_beasts, .int v42_seats, .int v42_seated, .int v42_quota, .int v42_known, .int v42_surveyed, .int v42_steadyBench, .int v42_steadyWays, .long v42_steadySwing]), aI G 7 a78]
def fX11_judged (v0_lastRefusal : Int32) (v6_cases : Int32) (a7 : Nat → Int32) (a8 : Nat → Int32) (a9 : Nat → Int32) (v42_known : Int32) (a78 : Nat → Int32) (x1 : Int32) (x2 : Int32) (x3 : Int32) : Option (Int32 × Int32 × Int32 × (Nat → Int32) × (Nat → Int32) × (Nat → Int32) × Int32 × (Nat → Int32)) := (fX11_canJudge x1 x2 x3).bind fun r1 => (if (r1 : Int32) = (0 : Int32) then ((fX11_refuse v0_lastRefusal a78 (-1 : Int32)).bind fun r5 => (some (r5.1, r5.2.1, v6_cases, a7, a8, a9, v42_known, r5.2.2))) else (if (v6_cases : Int32) < (20 : Int32) then ((fX2_add v6_cases a7 a8 a9 x1 x2 x3).bind fun r2 => ((fX11_accept v0_lastRefusal v42_known r2.1).bind fun r3 => (some (r3.1, r3.2.1, r2.1, r2.2.1, r2.2.2.1, r2.2.2.2, r3.2.2, a78)))) else ((fX11_refuse v0_lastRefusal a78 (-5 : Int32)).bind fun r4 => (some (r4.1, r4.2.1, v6_cases, a7, a8, a9, v42_known, r4.2.2)))))
set_option maxHeartbeats 4000000 in
set_option maxRecDepth 100000 in
theorem tX11_judged {G : GT} {b : Nat} {c0 : Hp} {n : Nat} (hw : e_wf (kW66) n) {v0_faultPlace : Int32} {v0_quashedRows : Int32} {v1_beasts : Int32} {v1_meals : Int32} {v1_seats : Int32} {v1_laws : Int32} {v1_inForce : Int32} {v42_beasts : Int32} {v42_seats : Int32} {v42_seated : Int32} {v42_quota : Int32} {v42_surveyed : Int32} {v42_steadyBench : Int32} {v42_steadyWays : Int32} {v42_steadySwing : Int64} {v0_lastRefusal : Int32} {v6_cases : Int32} {a7 : Nat → Int32} {a8 : Nat → Int32} {a9 : Nat → Int32} {v42_known : Int32} {a78 : Nat → Int32} {x1 : Int32} {x2 : Int32} {x3 : Int32} {R : Int32 × Int32 × Int32 × (Nat → Int32) × (Nat → Int32) × (Nat → Int32) × Int32 × (Nat → Int32)} (hf : fX11_judged v0_lastRefusal v6_cases a7 a8 a9 v42_known a78 x1 x2 x3 = some R) : E G b yX11_judged cX11_judged 4 (some .int) (e_rm 2 0 0) e_X0 (e_Z G b (pD (some (.int R.1)) (e_ov (kW66) (wW66 G b v0_faultPlace v0_quashedRows R.2.1 v1_beasts v1_meals v1_seats v1_laws v1_inForce R.2.2.1 R.2.2.2.1 R.2.2.2.2.1 R.2.2.2.2.2.1 v42_beasts v42_seats v42_seated v42_quota R.2.2.2.2.2.2.1 v42_surveyed v42_steadyBench v42_steadyWays v42_steadySwing R.2.2.2.2.2.2.2) c0) n) 0 0) 0 [(0, .ref (b + 0)), (1, .int x1), (2, .int x2), (3, .int x3)] [] (e_ov (kW66) (wW66 G b v0_faultPlace v0_quashedRows v0_lastRefusal v1_beasts v1_meals v1_seats v1_laws v1_inForce v6_cases a7 a8 a9 v42_beasts v42_seats v42_seated v42_quota v42_known v42_surveyed v42_steadyBench v42_steadyWays v42_steadySwing a78) c0) n 0 0 := by
  unfold fX11_judged at hf
  refine E.iload_n 1 dX11_judged_0 rfl ?_
  refine E.iload_n 2 dX11_judged_1 rfl ?_
  refine E.iload_n 3 dX11_judged_2 rfl ?_
  obtain ⟨r1, hc1, hf⟩ := e_bind hf
  refine E.callSD [] dX11_judged_3 mlX11_165 (mX11_canJudge hc1) ⟨Nat.le_of_ble_eq_true rfl, Nat.le_of_ble_eq_true rfl⟩ rfl rfl (Nat.le_of_ble_eq_true rfl) ⟨Nat.le_refl _, Nat.le_refl _⟩ rfl ?_
  refine E.if_ne dX11_judged_6 (fun h => ?_) (fun h => ?_)
  · have hf := e_iff hf h
    refine E.aload_n 0 dX11_judged_15 rfl ?_
    refine E.get hw 0 0 dX11_judged_16 flX11_10 rfl rfl rfl rfl ?_
    refine E.getN hw 1 1 dX11_judged_19 fnX11_169 rfl rfl rfl rfl ?_
    refine E.getN hw 2 6 dX11_judged_22 fnX11_173 rfl rfl rfl rfl ?_
    refine E.bipush (v := 20) dX11_judged_25 (by decide) ?_
    refine E.icmp_lt dX11_judged_27 (fun h => ?_) (fun h => ?_)
    · have hf := e_ift hf h
      refine E.aload_n 0 dX11_judged_37 rfl ?_
      refine E.get hw 0 0 dX11_judged_38 flX11_10 rfl rfl rfl rfl ?_
      refine E.getN hw 1 1 dX11_judged_41 fnX11_169 rfl rfl rfl rfl ?_
      refine E.iload_n 1 dX11_judged_44 rfl ?_
      refine E.iload_n 2 dX11_judged_45 rfl ?_
      refine E.iload_n 3 dX11_judged_46 rfl ?_
      obtain ⟨r2, hc2, hf⟩ := e_bind hf
      refine E.callVDs (es' := (wW66 G b v0_faultPlace v0_quashedRows v0_lastRefusal v1_beasts v1_meals v1_seats v1_laws v1_inForce r2.1 r2.2.1 r2.2.2.1 r2.2.2.2 v42_beasts v42_seats v42_seated v42_quota v42_known v42_surveyed v42_steadyBench v42_steadyWays v42_steadySwing a78)) [] [2, 3, 4, 5] 2 6 dX11_judged_47 mlX11_178 hw rfl rfl rfl rfl (mX2_add (hw.pick2 [2, 3, 4, 5] rfl (by decide)) hc2) rfl rfl rfl rfl ⟨Nat.le_of_ble_eq_true rfl, Nat.le_of_ble_eq_true rfl⟩ rfl rfl (Nat.le_of_ble_eq_true rfl) ⟨Nat.le_refl _, Nat.le_refl _⟩ rfl ?_
      refine E.aload_n 0 dX11_judged_50 rfl ?_
      refine E.aload_n 0 dX11_judged_51 rfl ?_
      refine E.get hw 0 0 dX11_judged_52 flX11_10 rfl rfl rfl rfl ?_
      refine E.getN hw 1 1 dX11_judged_55 fnX11_169 rfl rfl rfl rfl ?_
      refine E.getN hw 2 6 dX11_judged_58 fnX11_173 rfl rfl rfl rfl ?_
      obtain ⟨r3, hc3, hf⟩ := e_bind hf
      refine E.callVDs (es' := (wW66 G b v0_faultPlace v0_quashedRows r3.2.1 v1_beasts v1_meals v1_seats v1_laws v1_inForce r2.1 r2.2.1 r2.2.2.1 r2.2.2.2 v42_beasts v42_seats v42_seated v42_quota r3.2.2 v42_surveyed v42_steadyBench v42_steadyWays v42_steadySwing a78)) [] [0, 6] 0 0 dX11_judged_61 mlX11_108 hw rfl rfl rfl rfl (mX11_accept (hw.pick2 [0, 6] rfl (by decide)) hc3) rfl rfl rfl rfl ⟨Nat.le_of_ble_eq_true rfl, Nat.le_of_ble_eq_true rfl⟩ rfl rfl (Nat.le_of_ble_eq_true rfl) ⟨Nat.le_refl _, Nat.le_refl _⟩ rfl ?_
      cases hf
      exact E.iret dX11_judged_64 (Nat.le_refl _) (Nat.le_refl _) (pD_rf _ _ _)
    · have hf := e_iff hf h
      refine E.aload_n 0 dX11_judged_30 rfl ?_
      refine E.bipush (v := -5) dX11_judged_31 (by decide) ?_
      obtain ⟨r4, hc4, hf⟩ := e_bind hf
      refine E.callVDs (es' := (wW66 G b v0_faultPlace v0_quashedRows r4.2.1 v1_beasts v1_meals v1_seats v1_laws v1_inForce v6_cases a7 a8 a9 v42_beasts v42_seats v42_seated v42_quota v42_known v42_surveyed v42_steadyBench v42_steadyWays v42_steadySwing r4.2.2)) [] [0, 7] 0 0 dX11_judged_33 mlX11_97 hw rfl rfl rfl rfl (mX11_refuse (hw.pick2 [0, 7] rfl (by decide)) hc4) rfl rfl rfl rfl ⟨Nat.le_of_ble_eq_true rfl, Nat.le_of_ble_eq_true rfl⟩ rfl rfl (Nat.le_of_ble_eq_true rfl) ⟨Nat.le_refl _, Nat.le_refl _⟩ rfl ?_
      cases hf
      exact E.iret dX11_judged_36 (Nat.le_refl _) (Nat.le_refl _) (pD_rf _ _ _)
  · have hf := e_ift hf h
    refine E.aload_n 0 dX11_judged_9 rfl ?_
    refine E.iconst (v := -1) dX11_judged_10 (by decide) ?_
    obtain ⟨r5, hc5, hf⟩ := e_bind hf
    refine E.callVDs (es' := (wW66 G b v0_faultPlace v0_quashedRows r5.2.1 v1_beasts v1_meals v1_seats v1_laws v1_inForce v6_cases a7 a8 a9 v42_beasts v42_seats v42_seated v42_quota v42_known v42_surveyed v42_steadyBench v42_steadyWays v42_steadySwing r5.2.2)) [] [0, 7] 0 0 dX11_judged_11 mlX11_97 hw rfl rfl rfl rfl (mX11_refuse (hw.pick2 [0, 7] rfl (by decide)) hc5) rfl rfl rfl rfl ⟨Nat.le_of_ble_eq_true rfl, Nat.le_of_ble_eq_true rfl⟩ rfl rfl (Nat.le_of_ble_eq_true rfl) ⟨Nat.le_refl _, Nat.le_refl _⟩ rfl ?_
    cases hf
    exact E.iret dX11_judged_14 (Nat.le_refl _) (Nat.le_refl _) (pD_rf _ _ _)
set_option maxRecDepth 100000 in
theorem mX11_judged {G : GT} {b : Nat} {c0 : Hp} {n : Nat} (hw : e_wf (kW66) n) {v0_faultPlace : Int32} {v0_quashedRows : Int32} {v1_beasts : Int32} {v1_meals : Int32} {v1_seats : Int32} {v1_laws : Int32} {v1_inForce : Int32} {v42_beasts : Int32} {v42_seats : Int32} {v42_seated : Int32} {v42_quota : Int32} {v42_surveyed : Int32} {v42_steadyBench : Int32} {v42_steadyWays : Int32} {v42_steadySwing : Int64} {v0_lastRefusal : Int32} {v6_cases : Int32} {a7 : Nat → Int32} {a8 : Nat → Int32} {a9 : Nat → Int32} {v42_known : Int32} {a78 : Nat → Int32} {x1 : Int32} {x2 : Int32} {x3 : Int32} {R : Int32 × Int32 × Int32 × (Nat → Int32) × (Nat → Int32) × (Nat → Int32) × Int32 × (Nat → Int32)} (hf : fX11_judged v0_lastRefusal v6_cases a7 a8 a9 v42_known a78 x1 x2 x3 = some R) : e_C G b yX11_judged cX11_judged 4 (some .int) 2 0 0 [.ref (b + 0), .int x1, .int x2, .int x3] (e_ov (kW66) (wW66 G b v0_faultPlace v0_quashedRows v0_lastRefusal v1_beasts v1_meals v1_seats v1_laws v1_inForce v6_cases a7 a8 a9 v42_beasts v42_seats v42_seated v42_quota v42_known v42_surveyed v42_steadyBench v42_steadyWays v42_steadySwing a78) c0) n (pD (some (.int R.1)) (e_ov (kW66) (wW66 G b v0_faultPlace v0_quashedRows R.2.1 v1_beasts v1_meals v1_seats v1_laws v1_inForce R.2.2.1 R.2.2.2.1 R.2.2.2.2.1 R.2.2.2.2.2.1 v42_beasts v42_seats v42_seated v42_quota R.2.2.2.2.2.2.1 v42_surveyed v42_steadyBench v42_steadyWays v42_steadySwing R.2.2.2.2.2.2.2) c0) n) := e_C.of (by decide) (Nat.le_of_ble_eq_true rfl) (tX11_judged hw hf)
