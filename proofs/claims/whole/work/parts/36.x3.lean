abbrev kW37 : List Nat := [0, 1, 2, 3, 4, 5, 37, 38, 40, 41]
abbrev wW37 (G : GT) (b  : Nat) (v0_faultPlace : Int32) (v0_quashedRows : Int32) (v0_lastRefusal : Int32) (v1_beasts : Int32) (v1_meals : Int32) (v1_seats : Int32) (v1_laws : Int32) (v1_inForce : Int32) (a2 : Nat → Int32) (a3 : Nat → Int32) (a4 : Nat → Int32) (a5 : Nat → Option Nat) (v37_height : Int32) (v37_answer : Int64) (a38 : Nat → Int32) (v40_voters : Int32) (a41 : Nat → Int64) : List va_E := [.inr (11, [.ref (b + 1), .ref (b + 10), .ref (b + 29), .ref (b + 30), .ref (b + 32), .ref (b + 37), .ref (b + 40), .ref (b + 42), .ref (b + 69), .ref (b + 73), .ref (b + 74), .ref (b + 76), .ref (b + 78), .int v0_faultPlace, .int v0_quashedRows, .int v0_lastRefusal]), .inr (10, [.ref (b + 2), .ref (b + 3), .ref (b + 4), .ref (b + 5), .ref (b + 6), .int v1_beasts, .int v1_meals, .int v1_seats, .int v1_laws, .int v1_inForce]), aI G 48 a2, aI G 8 a3, aI G 6 a4, aQ G 4 6 a5, .inr (0, [.ref (b + 38), .ref (b + 39), .int v37_height, .long v37_answer]), aI G 10 a38, .inr (8, [.ref (b + 41), .int v40_voters]), aJ G 9 a41]
def fX11_tallyBench_N_L9 (Fu : Nat) : Nat → Int32 → Int32 → Int32 → Int32 → (Nat → Int32) → (Nat → Int32) → (Nat → Int32) → (Nat → Option Nat) → (Nat → Int32) → Int32 → (Nat → Int64) → Int32 → Int32 → Int32 → Option ((Nat → Int32) × Int32 × (Nat → Int64))
  | 0, _, _, _, _, _, _, _, _, _, _, _, _, _, _ => none
  | k + 1, v1_beasts, v1_seats, v1_laws, v1_inForce, a2, a3, a4, a5, a38, v40_voters, a41, x1, x2, x3 => if (v1_beasts : Int32) ≤ (x3 : Int32) then (some (a38, v40_voters, a41)) else ((fX10_isSeated v1_beasts v1_seats x3).bind fun r2 => (if (r2 : Int32) = (0 : Int32) then ((fX11_tallyBench_N_L9 Fu k) v1_beasts v1_seats v1_laws v1_inForce a2 a3 a4 a5 a38 v40_voters a41 x1 x2 (x3 + 1)) else (if (x3 : Int32) = (x2 : Int32) then ((fX11_tallyBench_N_L9 Fu k) v1_beasts v1_seats v1_laws v1_inForce a2 a3 a4 a5 a38 v40_voters a41 x1 x2 (x3 + 1)) else ((fX10_trait a2 x3 5).bind fun r3 => ((fX0_chanceOf_N Fu v1_laws v1_inForce a2 a3 a4 a5 a38 x3 x1 r3 0).bind fun r4 => ((fX8_vote Fu v40_voters a41 r4.1).bind fun r5 => ((fX11_tallyBench_N_L9 Fu k) v1_beasts v1_seats v1_laws v1_inForce a2 a3 a4 a5 r4.2 r5.1 r5.2 x1 x2 (x3 + 1))))))))
set_option maxHeartbeats 4000000 in
set_option maxRecDepth 100000 in
theorem tX11_tallyBench_N_L9 {G : GT} {b : Nat} {c0 : Hp} {n : Nat} (hw : e_wf (kW37) n) {v0_faultPlace : Int32} {v0_quashedRows : Int32} {v0_lastRefusal : Int32} {v1_meals : Int32} {v37_height : Int32} {v37_answer : Int64} {Fu : Nat} : ∀ (k : Nat) {v1_beasts : Int32} {v1_seats : Int32} {v1_laws : Int32} {v1_inForce : Int32} {a2 : Nat → Int32} {a3 : Nat → Int32} {a4 : Nat → Int32} {a5 : Nat → Option Nat} {a38 : Nat → Int32} {v40_voters : Int32} {a41 : Nat → Int64} {x1 : Int32} {x2 : Int32} {x3 : Int32} {R : (Nat → Int32) × Int32 × (Nat → Int64)}, fX11_tallyBench_N_L9 Fu k v1_beasts v1_seats v1_laws v1_inForce a2 a3 a4 a5 a38 v40_voters a41 x1 x2 x3 = some R → E G b yX11_tallyBench cX11_tallyBench 4 none (e_rm 4 0 0) e_X0 (e_Z G b (pD none (e_ov (kW37) (wW37 G b v0_faultPlace v0_quashedRows v0_lastRefusal v1_beasts v1_meals v1_seats v1_laws v1_inForce a2 a3 a4 a5 v37_height v37_answer R.1 R.2.1 R.2.2) c0) n) 0 0) 9 [(0, .ref (b + 0)), (1, .int x1), (2, .int x2), (3, .int x3)] [] (e_ov (kW37) (wW37 G b v0_faultPlace v0_quashedRows v0_lastRefusal v1_beasts v1_meals v1_seats v1_laws v1_inForce a2 a3 a4 a5 v37_height v37_answer a38 v40_voters a41) c0) n 0 0 := by
  intro k
  induction k with
  | zero =>
    intro _ _ _ _ _ _ _ _ _ _ _ _ _ _ _ hf
    have hf : (none : Option ((Nat → Int32) × Int32 × (Nat → Int64))) = some _ := hf
    cases hf
  | succ k ih =>
    intro v1_beasts v1_seats v1_laws v1_inForce a2 a3 a4 a5 a38 v40_voters a41 x1 x2 x3 R hf
    rw [fX11_tallyBench_N_L9] at hf
    refine E.iload_n 3 dX11_tallyBench_9 rfl ?_
    refine E.aload_n 0 dX11_tallyBench_10 rfl ?_
    refine E.get hw 0 0 dX11_tallyBench_11 flX11_10 rfl rfl rfl rfl ?_
    refine E.getN hw 1 1 dX11_tallyBench_14 fnX11_101 rfl rfl rfl rfl ?_
    refine E.icmp_ge dX11_tallyBench_17 (fun h => ?_) (fun h => ?_)
    · have hf := e_ift hf h
      cases hf
      exact E.vret dX11_tallyBench_72 (Nat.le_refl _) (Nat.le_refl _) (pD_rf _ _ _)
    · have hf := e_iff hf h
      refine E.aload_n 0 dX11_tallyBench_20 rfl ?_
      refine E.get hw 0 0 dX11_tallyBench_21 flX11_10 rfl rfl rfl rfl ?_
      refine E.iload_n 3 dX11_tallyBench_24 rfl ?_
      obtain ⟨r2, hc2, hf⟩ := e_bind hf
      refine E.callVDs (es' := (wW37 G b v0_faultPlace v0_quashedRows v0_lastRefusal v1_beasts v1_meals v1_seats v1_laws v1_inForce a2 a3 a4 a5 v37_height v37_answer a38 v40_voters a41)) [] [1] 1 1 dX11_tallyBench_25 mlX11_223 hw rfl rfl rfl rfl (mX10_isSeated (hw.pick2 [1] rfl (by decide)) hc2) rfl rfl rfl rfl ⟨Nat.le_of_ble_eq_true rfl, Nat.le_of_ble_eq_true rfl⟩ rfl rfl (Nat.le_of_ble_eq_true rfl) ⟨Nat.le_refl _, Nat.le_refl _⟩ rfl ?_
      refine E.if_eq dX11_tallyBench_28 (fun h => ?_) (fun h => ?_)
      · have hf := e_ift hf h
        refine E.iinc (q := 3) (v := (x3 + 1)) (lv' := [(3, .int (x3 + 1)), (0, .ref (b + 0)), (1, .int x1), (2, .int x2)]) dX11_tallyBench_66 rfl rfl (by decide) rfl ?_
        refine E.goto dX11_tallyBench_69 ?_
        refine E.locals [1, 2, 3, 0] rfl ?_
        exact ih hf
      · have hf := e_iff hf h
        refine E.iload_n 3 dX11_tallyBench_31 rfl ?_
        refine E.iload_n 2 dX11_tallyBench_32 rfl ?_
        refine E.icmp_eq dX11_tallyBench_33 (fun h => ?_) (fun h => ?_)
        · have hf := e_ift hf h
          refine E.iinc (q := 3) (v := (x3 + 1)) (lv' := [(3, .int (x3 + 1)), (0, .ref (b + 0)), (1, .int x1), (2, .int x2)]) dX11_tallyBench_66 rfl rfl (by decide) rfl ?_
          refine E.goto dX11_tallyBench_69 ?_
          refine E.locals [1, 2, 3, 0] rfl ?_
          exact ih hf
        · have hf := e_iff hf h
          refine E.aload_n 0 dX11_tallyBench_36 rfl ?_
          refine E.get hw 0 0 dX11_tallyBench_37 flX11_50 rfl rfl rfl rfl ?_
          refine E.aload_n 0 dX11_tallyBench_40 rfl ?_
          refine E.get hw 0 0 dX11_tallyBench_41 flX11_43 rfl rfl rfl rfl ?_
          refine E.aload_n 0 dX11_tallyBench_44 rfl ?_
          refine E.get hw 0 0 dX11_tallyBench_45 flX11_10 rfl rfl rfl rfl ?_
          refine E.iload_n 3 dX11_tallyBench_48 rfl ?_
          refine E.iload_n 1 dX11_tallyBench_49 rfl ?_
          refine E.aload_n 0 dX11_tallyBench_50 rfl ?_
          refine E.get hw 0 0 dX11_tallyBench_51 flX11_10 rfl rfl rfl rfl ?_
          refine E.iload_n 3 dX11_tallyBench_54 rfl ?_
          refine E.iconst (v := 5) dX11_tallyBench_55 (by decide) ?_
          obtain ⟨r3, hc3, hf⟩ := e_bind hf
          refine E.callVDs (es' := (wW37 G b v0_faultPlace v0_quashedRows v0_lastRefusal v1_beasts v1_meals v1_seats v1_laws v1_inForce a2 a3 a4 a5 v37_height v37_answer a38 v40_voters a41)) [.int x1, .int x3, .ref (b + 1), .ref (b + 37), .ref (b + 40)] [1, 2] 1 1 dX11_tallyBench_56 mlX11_115 hw rfl rfl rfl rfl (mX10_trait (hw.pick2 [1, 2] rfl (by decide)) hc3) rfl rfl rfl rfl ⟨Nat.le_of_ble_eq_true rfl, Nat.le_of_ble_eq_true rfl⟩ rfl rfl (Nat.le_of_ble_eq_true rfl) ⟨Nat.le_refl _, Nat.le_refl _⟩ rfl ?_
          refine E.iconst (v := 0) dX11_tallyBench_59 (by decide) ?_
          obtain ⟨r4, hc4, hf⟩ := e_bind hf
          refine E.callVDs (es' := (wW37 G b v0_faultPlace v0_quashedRows v0_lastRefusal v1_beasts v1_meals v1_seats v1_laws v1_inForce a2 a3 a4 a5 v37_height v37_answer r4.2 v40_voters a41)) [.ref (b + 40)] [1, 2, 3, 4, 5, 6, 7] 6 37 dX11_tallyBench_60 mlX11_199 hw rfl rfl rfl rfl (mX0_chanceOf_N (hw.pick2 [1, 2, 3, 4, 5, 6, 7] rfl (by decide)) hc4) rfl rfl rfl rfl ⟨Nat.le_of_ble_eq_true rfl, Nat.le_of_ble_eq_true rfl⟩ rfl rfl (Nat.le_of_ble_eq_true rfl) ⟨Nat.le_refl _, Nat.le_refl _⟩ rfl ?_
          obtain ⟨r5, hc5, hf⟩ := e_bind hf
          refine E.callVDs (es' := (wW37 G b v0_faultPlace v0_quashedRows v0_lastRefusal v1_beasts v1_meals v1_seats v1_laws v1_inForce a2 a3 a4 a5 v37_height v37_answer r4.2 r5.1 r5.2)) [] [8, 9] 8 40 dX11_tallyBench_63 mlX11_375 hw rfl rfl rfl rfl (mX8_vote (hw.pick2 [8, 9] rfl (by decide)) hc5) rfl rfl rfl rfl ⟨Nat.le_of_ble_eq_true rfl, Nat.le_of_ble_eq_true rfl⟩ rfl rfl (Nat.le_of_ble_eq_true rfl) ⟨Nat.le_refl _, Nat.le_refl _⟩ rfl ?_
          refine E.iinc (q := 3) (v := (x3 + 1)) (lv' := [(3, .int (x3 + 1)), (0, .ref (b + 0)), (1, .int x1), (2, .int x2)]) dX11_tallyBench_66 rfl rfl (by decide) rfl ?_
          refine E.goto dX11_tallyBench_69 ?_
          refine E.locals [1, 2, 3, 0] rfl ?_
          exact ih hf
def fX11_tallyBench_N (Fu : Nat) (v1_beasts : Int32) (v1_seats : Int32) (v1_laws : Int32) (v1_inForce : Int32) (a2 : Nat → Int32) (a3 : Nat → Int32) (a4 : Nat → Int32) (a5 : Nat → Option Nat) (a38 : Nat → Int32) (v40_voters : Int32) (a41 : Nat → Int64) (x1 : Int32) (x2 : Int32) : Option ((Nat → Int32) × Int32 × (Nat → Int64)) := (fX8_clear Fu v40_voters a41).bind fun r1 => (fX11_tallyBench_N_L9 Fu Fu v1_beasts v1_seats v1_laws v1_inForce a2 a3 a4 a5 a38 r1.1 r1.2 x1 x2 0)
set_option maxHeartbeats 4000000 in
set_option maxRecDepth 100000 in
theorem tX11_tallyBench_N {G : GT} {b : Nat} {c0 : Hp} {n : Nat} (hw : e_wf (kW37) n) {v0_faultPlace : Int32} {v0_quashedRows : Int32} {v0_lastRefusal : Int32} {v1_meals : Int32} {v37_height : Int32} {v37_answer : Int64} {Fu : Nat} {v1_beasts : Int32} {v1_seats : Int32} {v1_laws : Int32} {v1_inForce : Int32} {a2 : Nat → Int32} {a3 : Nat → Int32} {a4 : Nat → Int32} {a5 : Nat → Option Nat} {a38 : Nat → Int32} {v40_voters : Int32} {a41 : Nat → Int64} {x1 : Int32} {x2 : Int32} {R : (Nat → Int32) × Int32 × (Nat → Int64)} (hf : fX11_tallyBench_N Fu v1_beasts v1_seats v1_laws v1_inForce a2 a3 a4 a5 a38 v40_voters a41 x1 x2 = some R) : E G b yX11_tallyBench cX11_tallyBench 4 none (e_rm 4 0 0) e_X0 (e_Z G b (pD none (e_ov (kW37) (wW37 G b v0_faultPlace v0_quashedRows v0_lastRefusal v1_beasts v1_meals v1_seats v1_laws v1_inForce a2 a3 a4 a5 v37_height v37_answer R.1 R.2.1 R.2.2) c0) n) 0 0) 0 [(0, .ref (b + 0)), (1, .int x1), (2, .int x2)] [] (e_ov (kW37) (wW37 G b v0_faultPlace v0_quashedRows v0_lastRefusal v1_beasts v1_meals v1_seats v1_laws v1_inForce a2 a3 a4 a5 v37_height v37_answer a38 v40_voters a41) c0) n 0 0 := by
  unfold fX11_tallyBench_N at hf
  refine E.aload_n 0 dX11_tallyBench_0 rfl ?_
  refine E.get hw 0 0 dX11_tallyBench_1 flX11_50 rfl rfl rfl rfl ?_
  obtain ⟨r1, hc1, hf⟩ := e_bind hf
  refine E.callVDs (es' := (wW37 G b v0_faultPlace v0_quashedRows v0_lastRefusal v1_beasts v1_meals v1_seats v1_laws v1_inForce a2 a3 a4 a5 v37_height v37_answer a38 r1.1 r1.2)) [] [8, 9] 8 40 dX11_tallyBench_4 mlX11_372 hw rfl rfl rfl rfl (mX8_clear (hw.pick2 [8, 9] rfl (by decide)) hc1) rfl rfl rfl rfl ⟨Nat.le_of_ble_eq_true rfl, Nat.le_of_ble_eq_true rfl⟩ rfl rfl (Nat.le_of_ble_eq_true rfl) ⟨Nat.le_refl _, Nat.le_refl _⟩ rfl ?_
  refine E.iconst (v := 0) dX11_tallyBench_7 (by decide) ?_
  refine E.istore_n (lv' := [(3, .int 0), (0, .ref (b + 0)), (1, .int x1), (2, .int x2)]) dX11_tallyBench_8 (by decide) rfl ?_
  refine E.locals [1, 2, 3, 0] rfl ?_
  exact tX11_tallyBench_N_L9 hw _ hf
set_option maxRecDepth 100000 in
theorem mX11_tallyBench_N {G : GT} {b : Nat} {c0 : Hp} {n : Nat} (hw : e_wf (kW37) n) {v0_faultPlace : Int32} {v0_quashedRows : Int32} {v0_lastRefusal : Int32} {v1_meals : Int32} {v37_height : Int32} {v37_answer : Int64} {Fu : Nat} {v1_beasts : Int32} {v1_seats : Int32} {v1_laws : Int32} {v1_inForce : Int32} {a2 : Nat → Int32} {a3 : Nat → Int32} {a4 : Nat → Int32} {a5 : Nat → Option Nat} {a38 : Nat → Int32} {v40_voters : Int32} {a41 : Nat → Int64} {x1 : Int32} {x2 : Int32} {R : (Nat → Int32) × Int32 × (Nat → Int64)} (hf : fX11_tallyBench_N Fu v1_beasts v1_seats v1_laws v1_inForce a2 a3 a4 a5 a38 v40_voters a41 x1 x2 = some R) : e_C G b yX11_tallyBench cX11_tallyBench 4 none 4 0 0 [.ref (b + 0), .int x1, .int x2] (e_ov (kW37) (wW37 G b v0_faultPlace v0_quashedRows v0_lastRefusal v1_beasts v1_meals v1_seats v1_laws v1_inForce a2 a3 a4 a5 v37_height v37_answer a38 v40_voters a41) c0) n (pD none (e_ov (kW37) (wW37 G b v0_faultPlace v0_quashedRows v0_lastRefusal v1_beasts v1_meals v1_seats v1_laws v1_inForce a2 a3 a4 a5 v37_height v37_answer R.1 R.2.1 R.2.2) c0) n) := e_C.of (by decide) (Nat.le_of_ble_eq_true rfl) (tX11_tallyBench_N hw hf)
def fX8_just_L21 (vT0_voters : Int32) (aT1 : Nat → Int64) : Option (Int64) := some (0)
set_option maxHeartbeats 4000000 in
set_option maxRecDepth 100000 in
theorem tX8_just_L21 {G : GT} {b : Nat} {t : Nat} {c0 : Hp} {n : Nat} (hw : e_wf (kW36 t) n)  {vT0_voters : Int32} {aT1 : Nat → Int64} {R : Int64} (hf : fX8_just_L21 vT0_voters aT1 = some R) : E G b yX8_just cX8_just 2 (some .long) (e_rm 0 0 0) e_X0 (e_Z G b (pD (some (.long R)) (e_ov (kW36 t) (wW36 G b t vT0_voters aT1) c0) n) 0 0) 21 [] [] (e_ov (kW36 t) (wW36 G b t vT0_voters aT1) c0) n 0 0 := by
  unfold fX8_just_L21 at hf
  refine E.lconst (v := 0) dX8_just_21 (by decide) ?_
  cases hf
  exact E.lret dX8_just_22 (Nat.le_refl _) (Nat.le_refl _) (pD_rf _ _ _)
def fX8_just (vT0_voters : Int32) (aT1 : Nat → Int64) (x1 : Int32) : Option (Int64) := if (x1 : Int32) < (0 : Int32) then (fX8_just_L21 vT0_voters aT1) else (if (vT0_voters : Int32) < (x1 : Int32) then (fX8_just_L21 vT0_voters aT1) else (gd x1 9 (some ((aT1 (x1 : Int32).toNatClampNeg)))))
set_option maxHeartbeats 4000000 in
set_option maxRecDepth 100000 in
theorem tX8_just {G : GT} {b : Nat} {t : Nat} {c0 : Hp} {n : Nat} (hw : e_wf (kW36 t) n)  {vT0_voters : Int32} {aT1 : Nat → Int64} {x1 : Int32} {R : Int64} (hf : fX8_just vT0_voters aT1 x1 = some R) : E G b yX8_just cX8_just 2 (some .long) (e_rm 0 0 0) e_X0 (e_Z G b (pD (some (.long R)) (e_ov (kW36 t) (wW36 G b t vT0_voters aT1) c0) n) 0 0) 0 [(0, .ref (b + t)), (1, .int x1)] [] (e_ov (kW36 t) (wW36 G b t vT0_voters aT1) c0) n 0 0 := by
  unfold fX8_just at hf
  refine E.iload_n 1 dX8_just_0 rfl ?_
  refine E.if_lt dX8_just_1 (fun h => ?_) (fun h => ?_)
  · have hf := e_ift hf h
    refine E.locals [] rfl ?_
    exact tX8_just_L21 hw hf
  · have hf := e_iff hf h
    refine E.iload_n 1 dX8_just_4 rfl ?_
    refine E.aload_n 0 dX8_just_5 rfl ?_
    refine E.get hw 0 t dX8_just_6 flX8_21 rfl rfl rfl rfl ?_
    refine E.icmp_gt dX8_just_9 (fun h => ?_) (fun h => ?_)
    · have hf := e_ift hf h
      refine E.locals [] rfl ?_
      exact tX8_just_L21 hw hf
    · have hf := e_iff hf h
      refine E.aload_n 0 dX8_just_12 rfl ?_
      refine E.get hw 0 t dX8_just_13 flX8_9 rfl rfl rfl rfl ?_
      refine E.iload_n 1 dX8_just_16 rfl ?_
      obtain ⟨g1, hf⟩ := gd_some hf
      refine E.lald hw 1 (t + 1) dX8_just_17 rfl rfl g1 ?_
      refine E.goto dX8_just_18 ?_
      cases hf
      exact E.lret dX8_just_22 (Nat.le_refl _) (Nat.le_refl _) (pD_rf _ _ _)
set_option maxRecDepth 100000 in
theorem mX8_just {G : GT} {b : Nat} {t : Nat} {c0 : Hp} {n : Nat} (hw : e_wf (kW36 t) n)  {vT0_voters : Int32} {aT1 : Nat → Int64} {x1 : Int32} {R : Int64} (hf : fX8_just vT0_voters aT1 x1 = some R) : e_C G b yX8_just cX8_just 2 (some .long) 0 0 0 [.ref (b + t), .int x1] (e_ov (kW36 t) (wW36 G b t vT0_voters aT1) c0) n (pD (some (.long R)) (e_ov (kW36 t) (wW36 G b t vT0_voters aT1) c0) n) := e_C.of (by decide) (Nat.le_of_ble_eq_true rfl) (tX8_just hw hf)
def fX8_atLeast_L9 (Fu : Nat) : Nat → Int32 → (Nat → Int64) → Int64 → Int32 → Option (Int64)
  | 0, _, _, _, _ => none
  | k + 1, vT0_voters, aT1, x2, x4 => if (vT0_voters : Int32) < (x4 : Int32) then (some (x2)) else (gd x4 9 ((fX8_atLeast_L9 Fu k) vT0_voters aT1 (x2 + (aT1 (x4 : Int32).toNatClampNeg)) (x4 + 1)))
set_option maxHeartbeats 4000000 in
set_option maxRecDepth 100000 in
theorem tX8_atLeast_L9 {G : GT} {b : Nat} {t : Nat} {c0 : Hp} {n : Nat} (hw : e_wf (kW36 t) n)  {Fu : Nat} : ∀ (k : Nat) {vT0_voters : Int32} {aT1 : Nat → Int64} {x2 : Int64} {x4 : Int32} {R : Int64}, fX8_atLeast_L9 Fu k vT0_voters aT1 x2 x4 = some R → E G b yX8_atLeast cX8_atLeast 5 (some .long) (e_rm 1 0 0) e_X0 (e_Z G b (pD (some (.long R)) (e_ov (kW36 t) (wW36 G b t vT0_voters aT1) c0) n) 0 0) 9 [(0, .ref (b + t)), (2, .long x2), (4, .int x4)] [] (e_ov (kW36 t) (wW36 G b t vT0_voters aT1) c0) n 0 0 := by
  intro k
  induction k with
  | zero =>
    intro _ _ _ _ _ hf
    have hf : (none : Option (Int64)) = some _ := hf
    cases hf
  | succ k ih =>
    intro vT0_voters aT1 x2 x4 R hf
    rw [fX8_atLeast_L9] at hf
    refine E.iload 2 dX8_atLeast_9 rfl ?_
    refine E.aload_n 0 dX8_atLeast_11 rfl ?_
    refine E.get hw 0 t dX8_atLeast_12 flX8_21 rfl rfl rfl rfl ?_
    refine E.icmp_gt dX8_atLeast_15 (fun h => ?_) (fun h => ?_)
    · have hf := e_ift hf h
      refine E.lload_n 1 dX8_atLeast_34 rfl ?_
      cases hf
      exact E.lret dX8_atLeast_35 (Nat.le_refl _) (Nat.le_refl _) (pD_rf _ _ _)
    · have hf := e_iff hf h
      refine E.lload_n 1 dX8_atLeast_18 rfl ?_
      refine E.aload_n 0 dX8_atLeast_19 rfl ?_
      refine E.get hw 0 t dX8_atLeast_20 flX8_9 rfl rfl rfl rfl ?_
      refine E.iload 2 dX8_atLeast_23 rfl ?_
      obtain ⟨g1, hf⟩ := gd_some hf
      refine E.lald hw 1 (t + 1) dX8_atLeast_25 rfl rfl g1 ?_
      refine E.ladd dX8_atLeast_26 ?_
      refine E.lstore_n (lv' := [(2, .long (x2 + (aT1 (x4 : Int32).toNatClampNeg))), (0, .ref (b + t)), (4, .int x4)]) dX8_atLeast_27 (by decide) rfl ?_
      refine E.iinc (q := 2) (v := (x4 + 1)) (lv' := [(4, .int (x4 + 1)), (2, .long (x2 + (aT1 (x4 : Int32).toNatClampNeg))), (0, .ref (b + t))]) dX8_atLeast_28 rfl rfl (by decide) rfl ?_
      refine E.goto dX8_atLeast_31 ?_
      refine E.locals [2, 1, 0] rfl ?_
      exact ih hf
def fX8_atLeast (Fu : Nat) (vT0_voters : Int32) (aT1 : Nat → Int64) (x1 : Int32) : Option (Int64) := fX8_atLeast_L9 Fu Fu vT0_voters aT1 0 (if (0 : Int32) < x1 then x1 else 0)
set_option maxHeartbeats 4000000 in
set_option maxRecDepth 100000 in
theorem tX8_atLeast {G : GT} {b : Nat} {t : Nat} {c0 : Hp} {n : Nat} (hw : e_wf (kW36 t) n)  {Fu : Nat} {vT0_voters : Int32} {aT1 : Nat → Int64} {x1 : Int32} {R : Int64} (hf : fX8_atLeast Fu vT0_voters aT1 x1 = some R) : E G b yX8_atLeast cX8_atLeast 5 (some .long) (e_rm 1 0 0) e_X0 (e_Z G b (pD (some (.long R)) (e_ov (kW36 t) (wW36 G b t vT0_voters aT1) c0) n) 0 0) 0 [(0, .ref (b + t)), (1, .int x1)] [] (e_ov (kW36 t) (wW36 G b t vT0_voters aT1) c0) n 0 0 := by
  unfold fX8_atLeast at hf
  refine E.lconst (v := 0) dX8_atLeast_0 (by decide) ?_
  refine E.lstore_n (lv' := [(2, .long 0), (0, .ref (b + t)), (1, .int x1)]) dX8_atLeast_1 (by decide) rfl ?_
  refine E.iconst (v := 0) dX8_atLeast_2 (by decide) ?_
  refine E.iload_n 2 dX8_atLeast_3 rfl ?_
  refine E.mmax dX8_atLeast_4 mmX8_35 ⟨Nat.le_of_ble_eq_true rfl, Nat.le_of_ble_eq_true rfl⟩ ⟨Nat.le_refl _, Nat.le_refl _⟩ ?_
  refine E.istore (lv' := [(4, .int (if (0 : Int32) < x1 then x1 else 0)), (2, .long 0), (0, .ref (b + t)), (1, .int x1)]) dX8_atLeast_7 (by decide) rfl ?_
  refine E.locals [2, 1, 0] rfl ?_
  exact tX8_atLeast_L9 hw _ hf
set_option maxRecDepth 100000 in
theorem mX8_atLeast {G : GT} {b : Nat} {t : Nat} {c0 : Hp} {n : Nat} (hw : e_wf (kW36 t) n)  {Fu : Nat} {vT0_voters : Int32} {aT1 : Nat → Int64} {x1 : Int32} {R : Int64} (hf : fX8_atLeast Fu vT0_voters aT1 x1 = some R) : e_C G b yX8_atLeast cX8_atLeast 5 (some .long) 1 0 0 [.ref (b + t), .int x1] (e_ov (kW36 t) (wW36 G b t vT0_voters aT1) c0) n (pD (some (.long R)) (e_ov (kW36 t) (wW36 G b t vT0_voters aT1) c0) n) := e_C.of (by decide) (Nat.le_of_ble_eq_true rfl) (tX8_atLeast hw hf)
def fX11_odds_N (Fu : Nat) (v1_beasts : Int32) (v1_seats : Int32) (v1_laws : Int32) (v1_inForce : Int32) (a2 : Nat → Int32) (a3 : Nat → Int32) (a4 : Nat → Int32) (a5 : Nat → Option Nat) (a38 : Nat → Int32) (v40_voters : Int32) (a41 : Nat → Int64) (x1 : Int32) : Option (Int64 × (Nat → Int32) × Int32 × (Nat → Int64)) := if (x1 : Int32) < ((-1 : Int32) : Int32) then (some ((-1 : Int64), a38, v40_voters, a41)) else (if (x1 : Int32) ≤ (8 : Int32) then (gd 1 6 ((fX11_tallyBench_N Fu v1_beasts v1_seats v1_laws v1_inForce a2 a3 a4 a5 a38 v40_voters a41 (a4 (1 : Int32).toNatClampNeg) (-1 : Int32)).bind fun r2 => (if (x1 : Int32) = ((-1 : Int32) : Int32) then (gd 0 6 ((fX8_atLeast Fu r2.2.1 r2.2.2 (a4 (0 : Int32).toNatClampNeg)).bind fun r5 => (some (r5, r2.1, r2.2.1, r2.2.2)))) else ((fX8_just r2.2.1 r2.2.2 x1).bind fun r3 => (some (r3, r2.1, r2.2.1, r2.2.2)))))) else (some ((-1 : Int64), a38, v40_voters, a41)))
set_option maxHeartbeats 4000000 in
set_option maxRecDepth 100000 in
theorem tX11_odds_N {G : GT} {b : Nat} {c0 : Hp} {n : Nat} (hw : e_wf (kW37) n) {v0_faultPlace : Int32} {v0_quashedRows : Int32} {v0_lastRefusal : Int32} {v1_meals : Int32} {v37_height : Int32} {v37_answer : Int64} {Fu : Nat} {v1_beasts : Int32} {v1_seats : Int32} {v1_laws : Int32} {v1_inForce : Int32} {a2 : Nat → Int32} {a3 : Nat → Int32} {a4 : Nat → Int32} {a5 : Nat → Option Nat} {a38 : Nat → Int32} {v40_voters : Int32} {a41 : Nat → Int64} {x1 : Int32} {R : Int64 × (Nat → Int32) × Int32 × (Nat → Int64)} (hf : fX11_odds_N Fu v1_beasts v1_seats v1_laws v1_inForce a2 a3 a4 a5 a38 v40_voters a41 x1 = some R) : E G b yX11_odds cX11_odds 2 (some .long) (e_rm 5 0 0) e_X0 (e_Z G b (pD (some (.long R.1)) (e_ov (kW37) (wW37 G b v0_faultPlace v0_quashedRows v0_lastRefusal v1_beasts v1_meals v1_seats v1_laws v1_inForce a2 a3 a4 a5 v37_height v37_answer R.2.1 R.2.2.1 R.2.2.2) c0) n) 0 0) 0 [(0, .ref (b + 0)), (1, .int x1)] [] (e_ov (kW37) (wW37 G b v0_faultPlace v0_quashedRows v0_lastRefusal v1_beasts v1_meals v1_seats v1_laws v1_inForce a2 a3 a4 a5 v37_height v37_answer a38 v40_voters a41) c0) n 0 0 := by
  unfold fX11_odds_N at hf
  refine E.iload_n 1 dX11_odds_0 rfl ?_
  refine E.iconst (v := -1) dX11_odds_1 (by decide) ?_
  refine E.icmp_lt dX11_odds_2 (fun h => ?_) (fun h => ?_)
  · have hf := e_ift hf h
    refine E.ldc2 dX11_odds_11 kX11_210 ?_
    cases hf
    exact E.lret dX11_odds_14 (Nat.le_refl _) (Nat.le_refl _) (pD_rf _ _ _)
  · have hf := e_iff hf h
    refine E.iload_n 1 dX11_odds_5 rfl ?_
    refine E.bipush (v := 8) dX11_odds_6 (by decide) ?_
    refine E.icmp_le dX11_odds_8 (fun h => ?_) (fun h => ?_)
    · have hf := e_ift hf h
      refine E.aload_n 0 dX11_odds_15 rfl ?_
      refine E.aload_n 0 dX11_odds_16 rfl ?_
      refine E.get hw 0 0 dX11_odds_17 flX11_10 rfl rfl rfl rfl ?_
      refine E.getN hw 1 1 dX11_odds_20 fnX11_149 rfl rfl rfl rfl ?_
      refine E.iconst (v := 1) dX11_odds_23 (by decide) ?_
      obtain ⟨g1, hf⟩ := gd_some hf
      refine E.iald hw 4 4 dX11_odds_24 rfl rfl g1 ?_
      refine E.iconst (v := -1) dX11_odds_25 (by decide) ?_
      obtain ⟨r2, hc2, hf⟩ := e_bind hf
      refine E.callVD [] dX11_odds_26 mlX11_212 ⟨hw.sub (p := 0) rfl, e_ov_get hw.1 (p := 0) rfl rfl⟩ rfl rfl (mX11_tallyBench_N hw hc2) ⟨Nat.le_of_ble_eq_true rfl, Nat.le_of_ble_eq_true rfl⟩ rfl rfl (Nat.le_of_ble_eq_true rfl) ⟨Nat.le_refl _, Nat.le_refl _⟩ rfl ?_
      refine E.iload_n 1 dX11_odds_29 rfl ?_
      refine E.iconst (v := -1) dX11_odds_30 (by decide) ?_
      refine E.icmp_ne dX11_odds_31 (fun h => ?_) (fun h => ?_)
      · have hf := e_iff hf h
        refine E.aload_n 0 dX11_odds_53 rfl ?_
        refine E.get hw 0 0 dX11_odds_54 flX11_50 rfl rfl rfl rfl ?_
        refine E.iload_n 1 dX11_odds_57 rfl ?_
        obtain ⟨r3, hc3, hf⟩ := e_bind hf
        refine E.callVDs (es' := (wW37 G b v0_faultPlace v0_quashedRows v0_lastRefusal v1_beasts v1_meals v1_seats v1_laws v1_inForce a2 a3 a4 a5 v37_height v37_answer r2.1 r2.2.1 r2.2.2)) [] [8, 9] 8 40 dX11_odds_58 mlX11_220 hw rfl rfl rfl rfl (mX8_just (hw.pick2 [8, 9] rfl (by decide)) hc3) rfl rfl rfl rfl ⟨Nat.le_of_ble_eq_true rfl, Nat.le_of_ble_eq_true rfl⟩ rfl rfl (Nat.le_of_ble_eq_true rfl) ⟨Nat.le_refl _, Nat.le_refl _⟩ rfl ?_
        cases hf
        exact E.lret dX11_odds_61 (Nat.le_refl _) (Nat.le_refl _) (pD_rf _ _ _)
      · have hf := e_ift hf h
        refine E.aload_n 0 dX11_odds_34 rfl ?_
        refine E.get hw 0 0 dX11_odds_35 flX11_50 rfl rfl rfl rfl ?_
        refine E.aload_n 0 dX11_odds_38 rfl ?_
        refine E.get hw 0 0 dX11_odds_39 flX11_10 rfl rfl rfl rfl ?_
        refine E.getN hw 1 1 dX11_odds_42 fnX11_149 rfl rfl rfl rfl ?_
        refine E.iconst (v := 0) dX11_odds_45 (by decide) ?_
        obtain ⟨g4, hf⟩ := gd_some hf
        refine E.iald hw 4 4 dX11_odds_46 rfl rfl g4 ?_
        obtain ⟨r5, hc5, hf⟩ := e_bind hf
        refine E.callVDs (es' := (wW37 G b v0_faultPlace v0_quashedRows v0_lastRefusal v1_beasts v1_meals v1_seats v1_laws v1_inForce a2 a3 a4 a5 v37_height v37_answer r2.1 r2.2.1 r2.2.2)) [] [8, 9] 8 40 dX11_odds_47 mlX11_216 hw rfl rfl rfl rfl (mX8_atLeast (hw.pick2 [8, 9] rfl (by decide)) hc5) rfl rfl rfl rfl ⟨Nat.le_of_ble_eq_true rfl, Nat.le_of_ble_eq_true rfl⟩ rfl rfl (Nat.le_of_ble_eq_true rfl) ⟨Nat.le_refl _, Nat.le_refl _⟩ rfl ?_
        refine E.goto dX11_odds_50 ?_
        cases hf
        exact E.lret dX11_odds_61 (Nat.le_refl _) (Nat.le_refl _) (pD_rf _ _ _)
    · have hf := e_iff hf h
      refine E.ldc2 dX11_odds_11 kX11_210 ?_
      cases hf
      exact E.lret dX11_odds_14 (Nat.le_refl _) (Nat.le_refl _) (pD_rf _ _ _)
set_option maxRecDepth 100000 in
theorem mX11_odds_N {G : GT} {b : Nat} {c0 : Hp} {n : Nat} (hw : e_wf (kW37) n) {v0_faultPlace : Int32} {v0_quashedRows : Int32} {v0_lastRefusal : Int32} {v1_meals : Int32} {v37_height : Int32} {v37_answer : Int64} {Fu : Nat} {v1_beasts : Int32} {v1_seats : Int32} {v1_laws : Int32} {v1_inForce : Int32} {a2 : Nat → Int32} {a3 : Nat → Int32} {a4 : Nat → Int32} {a5 : Nat → Option Nat} {a38 : Nat → Int32} {v40_voters : Int32} {a41 : Nat → Int64} {x1 : Int32} {R : Int64 × (Nat → Int32) × Int32 × (Nat → Int64)} (hf : fX11_odds_N Fu v1_beasts v1_seats v1_laws v1_inForce a2 a3 a4 a5 a38 v40_voters a41 x1 = some R) : e_C G b yX11_odds cX11_odds 2 (some .long) 5 0 0 [.ref (b + 0), .int x1] (e_ov (kW37) (wW37 G b v0_faultPlace v0_quashedRows v0_lastRefusal v1_beasts v1_meals v1_seats v1_laws v1_inForce a2 a3 a4 a5 v37_height v37_answer a38 v40_voters a41) c0) n (pD (some (.long R.1)) (e_ov (kW37) (wW37 G b v0_faultPlace v0_quashedRows v0_lastRefusal v1_beasts v1_meals v1_seats v1_laws v1_inForce a2 a3 a4 a5 v37_height v37_answer R.2.1 R.2.2.1 R.2.2.2) c0) n) := e_C.of (by decide) (Nat.le_of_ble_eq_true rfl) (tX11_odds_N hw hf)
abbrev kW38 (q : Nat) : List Nat := [0, 1, 2, 3, 4, 5, 37, 38, 39, 40, 41, q, (q + 1), (q + 2), (q + 3), (q + 4)]
abbrev wW38 (G : GT) (b q nh nt ne ns : Nat) (v0_faultPlace : Int32) (v0_quashedRows : Int32) (v0_lastRefusal : Int32) (v1_beasts : Int32) (v1_meals : Int32) (v1_seats : Int32) (v1_laws : Int32) (v1_inForce : Int32) (a2 : Nat → Int32) (a3 : Nat → Int32) (a4 : Nat → Int32) (a5 : Nat → Option Nat) (v37_height : Int32) (v37_answer : Int64) (a38 : Nat → Int32) (a39 : Nat → Int64) (v40_voters : Int32) (a41 : Nat → Int64) (aL1 : Nat → Int32) (aL2 : Nat → Int32) (aL3 : Nat → Int32) (aL4 : Nat → Int32) : List va_E := [.inr (11, [.ref (b + 1), .ref (b + 10), .ref (b + 29), .ref (b + 30), .ref (b + 32), .ref (b + 37), .ref (b + 40), .ref (b + 42), .ref (b + 69), .ref (b + 73), .ref (b + 74), .ref (b + 76), .ref (b + 78), .int v0_faultPlace, .int v0_quashedRows, .int v0_lastRefusal]), .inr (10, [.ref (b + 2), .ref (b + 3), .ref (b + 4), .ref (b + 5), .ref (b + 6), .int v1_beasts, .int v1_meals, .int v1_seats, .int v1_laws, .int v1_inForce]), aI G 48 a2, aI G 8 a3, aI G 6 a4, aQ G 4 6 a5, .inr (0, [.ref (b + 38), .ref (b + 39), .int v37_height, .long v37_answer]), aI G 10 a38, aJ G 51 a39, .inr (8, [.ref (b + 41), .int v40_voters]), aJ G 9 a41, .inr (5, [.ref (b + (q + 1)), .ref (b + (q + 2)), .ref (b + (q + 3)), .ref (b + (q + 4))]), aI G nh aL1, aI G nt aL2, aI G ne aL3, aI G ns aL4]
def fX11_tallyBench_L_L9 (Fu : Nat) (nh : Nat) (nt : Nat) (ne : Nat) (ns : Nat) (b q : Nat) : Nat → Int32 → Int32 → Int32 → Int32 → (Nat → Int32) → (Nat → Int32) → (Nat → Int32) → (Nat → Option Nat) → Int32 → Int64 → (Nat → Int32) → (Nat → Int64) → Int32 → (Nat → Int64) → (Nat → Int32) → (Nat → Int32) → (Nat → Int32) → (Nat → Int32) → Int32 → Int32 → Int32 → Option (Int32 × Int64 × (Nat → Int32) × (Nat → Int64) × Int32 × (Nat → Int64))
  | 0, _, _, _, _, _, _, _, _, _, _, _, _, _, _, _, _, _, _, _, _, _ => none
  | k + 1, v1_beasts, v1_seats, v1_laws, v1_inForce, a2, a3, a4, a5, v37_height, v37_answer, a38, a39, v40_voters, a41, aL1, aL2, aL3, aL4, x1, x2, x3 => if (v1_beasts : Int32) ≤ (x3 : Int32) then (some (v37_height, v37_answer, a38, a39, v40_voters, a41)) else ((fX10_isSeated v1_beasts v1_seats x3).bind fun r2 => (if (r2 : Int32) = (0 : Int32) then ((fX11_tallyBench_L_L9 Fu nh nt ne ns b q k) v1_beasts v1_seats v1_laws v1_inForce a2 a3 a4 a5 v37_height v37_answer a38 a39 v40_voters a41 aL1 aL2 aL3 aL4 x1 x2 (x3 + 1)) else (if (x3 : Int32) = (x2 : Int32) then ((fX11_tallyBench_L_L9 Fu nh nt ne ns b q k) v1_beasts v1_seats v1_laws v1_inForce a2 a3 a4 a5 v37_height v37_answer a38 a39 v40_voters a41 aL1 aL2 aL3 aL4 x1 x2 (x3 + 1)) else ((fX10_trait a2 x3 5).bind fun r3 => ((fX0_chanceOf_L Fu nh nt ne ns b q v1_laws v1_inForce a2 a3 a4 a5 v37_height v37_answer a38 a39 aL1 aL2 aL3 aL4 x3 x1 r3 0).bind fun r4 => ((fX8_vote Fu v40_voters a41 r4.1).bind fun r5 => ((fX11_tallyBench_L_L9 Fu nh nt ne ns b q k) v1_beasts v1_seats v1_laws v1_inForce a2 a3 a4 a5 r4.2.1 r4.2.2.1 r4.2.2.2.1 r4.2.2.2.2 r5.1 r5.2 aL1 aL2 aL3 aL4 x1 x2 (x3 + 1))))))))
set_option maxHeartbeats 4000000 in
set_option maxRecDepth 100000 in
theorem tX11_tallyBench_L_L9 {G : GT} {b : Nat} {q nh nt ne ns : Nat} {c0 : Hp} {n : Nat} (hw : e_wf (kW38 q) n) {v0_faultPlace : Int32} {v0_quashedRows : Int32} {v0_lastRefusal : Int32} {v1_meals : Int32} {Fu : Nat} : ∀ (k : Nat) {v1_beasts : Int32} {v1_seats : Int32} {v1_laws : Int32} {v1_inForce : Int32} {a2 : Nat → Int32} {a3 : Nat → Int32} {a4 : Nat → Int32} {a5 : Nat → Option Nat} {v37_height : Int32} {v37_answer : Int64} {a38 : Nat → Int32} {a39 : Nat → Int64} {v40_voters : Int32} {a41 : Nat → Int64} {aL1 : Nat → Int32} {aL2 : Nat → Int32} {aL3 : Nat → Int32} {aL4 : Nat → Int32} {x1 : Int32} {x2 : Int32} {x3 : Int32} {R : Int32 × Int64 × (Nat → Int32) × (Nat → Int64) × Int32 × (Nat → Int64)}, fX11_tallyBench_L_L9 Fu nh nt ne ns b q k v1_beasts v1_seats v1_laws v1_inForce a2 a3 a4 a5 v37_height v37_answer a38 a39 v40_voters a41 aL1 aL2 aL3 aL4 x1 x2 x3 = some R → E G b yX11_tallyBench cX11_tallyBench 4 none (e_rm 5 0 0) e_X0 (e_Z G b (pD none (e_ov (kW38 q) (wW38 G b q nh nt ne ns v0_faultPlace v0_quashedRows v0_lastRefusal v1_beasts v1_meals v1_seats v1_laws v1_inForce a2 a3 a4 a5 R.1 R.2.1 R.2.2.1 R.2.2.2.1 R.2.2.2.2.1 R.2.2.2.2.2 aL1 aL2 aL3 aL4) c0) n) 0 0) 9 [(0, .ref (b + 0)), (1, .int x1), (2, .int x2), (3, .int x3)] [] (e_ov (kW38 q) (wW38 G b q nh nt ne ns v0_faultPlace v0_quashedRows v0_lastRefusal v1_beasts v1_meals v1_seats v1_laws v1_inForce a2 a3 a4 a5 v37_height v37_answer a38 a39 v40_voters a41 aL1 aL2 aL3 aL4) c0) n 0 0 := by
  intro k
  induction k with
  | zero =>
    intro _ _ _ _ _ _ _ _ _ _ _ _ _ _ _ _ _ _ _ _ _ _ hf
    have hf : (none : Option (Int32 × Int64 × (Nat → Int32) × (Nat → Int64) × Int32 × (Nat → Int64))) = some _ := hf
    cases hf
  | succ k ih =>
    intro v1_beasts v1_seats v1_laws v1_inForce a2 a3 a4 a5 v37_height v37_answer a38 a39 v40_voters a41 aL1 aL2 aL3 aL4 x1 x2 x3 R hf
    rw [fX11_tallyBench_L_L9] at hf
    refine E.iload_n 3 dX11_tallyBench_9 rfl ?_
    refine E.aload_n 0 dX11_tallyBench_10 rfl ?_
    refine E.get hw 0 0 dX11_tallyBench_11 flX11_10 rfl rfl rfl rfl ?_
    refine E.getN hw 1 1 dX11_tallyBench_14 fnX11_101 rfl rfl rfl rfl ?_
    refine E.icmp_ge dX11_tallyBench_17 (fun h => ?_) (fun h => ?_)
    · have hf := e_ift hf h
      cases hf
      exact E.vret dX11_tallyBench_72 (Nat.le_refl _) (Nat.le_refl _) (pD_rf _ _ _)
    · have hf := e_iff hf h
      refine E.aload_n 0 dX11_tallyBench_20 rfl ?_
      refine E.get hw 0 0 dX11_tallyBench_21 flX11_10 rfl rfl rfl rfl ?_
      refine E.iload_n 3 dX11_tallyBench_24 rfl ?_
      obtain ⟨r2, hc2, hf⟩ := e_bind hf
      refine E.callVDs (es' := (wW38 G b q nh nt ne ns v0_faultPlace v0_quashedRows v0_lastRefusal v1_beasts v1_meals v1_seats v1_laws v1_inForce a2 a3 a4 a5 v37_height v37_answer a38 a39 v40_voters a41 aL1 aL2 aL3 aL4)) [] [1] 1 1 dX11_tallyBench_25 mlX11_223 hw rfl rfl rfl rfl (mX10_isSeated (hw.pick2 [1] rfl (by decide)) hc2) rfl rfl rfl rfl ⟨Nat.le_of_ble_eq_true rfl, Nat.le_of_ble_eq_true rfl⟩ rfl rfl (Nat.le_of_ble_eq_true rfl) ⟨Nat.le_refl _, Nat.le_refl _⟩ rfl ?_
      refine E.if_eq dX11_tallyBench_28 (fun h => ?_) (fun h => ?_)
      · have hf := e_ift hf h
        refine E.iinc (q := 3) (v := (x3 + 1)) (lv' := [(3, .int (x3 + 1)), (0, .ref (b + 0)), (1, .int x1), (2, .int x2)]) dX11_tallyBench_66 rfl rfl (by decide) rfl ?_
        refine E.goto dX11_tallyBench_69 ?_
        refine E.locals [1, 2, 3, 0] rfl ?_
        exact ih hf
      · have hf := e_iff hf h
        refine E.iload_n 3 dX11_tallyBench_31 rfl ?_
        refine E.iload_n 2 dX11_tallyBench_32 rfl ?_
        refine E.icmp_eq dX11_tallyBench_33 (fun h => ?_) (fun h => ?_)
        · have hf := e_ift hf h
          refine E.iinc (q := 3) (v := (x3 + 1)) (lv' := [(3, .int (x3 + 1)), (0, .ref (b + 0)), (1, .int x1), (2, .int x2)]) dX11_tallyBench_66 rfl rfl (by decide) rfl ?_
          refine E.goto dX11_tallyBench_69 ?_
          refine E.locals [1, 2, 3, 0] rfl ?_
          exact ih hf
        · have hf := e_iff hf h
          refine E.aload_n 0 dX11_tallyBench_36 rfl ?_
          refine E.get hw 0 0 dX11_tallyBench_37 flX11_50 rfl rfl rfl rfl ?_
          refine E.aload_n 0 dX11_tallyBench_40 rfl ?_
          refine E.get hw 0 0 dX11_tallyBench_41 flX11_43 rfl rfl rfl rfl ?_
          refine E.aload_n 0 dX11_tallyBench_44 rfl ?_
          refine E.get hw 0 0 dX11_tallyBench_45 flX11_10 rfl rfl rfl rfl ?_
          refine E.iload_n 3 dX11_tallyBench_48 rfl ?_
          refine E.iload_n 1 dX11_tallyBench_49 rfl ?_
          refine E.aload_n 0 dX11_tallyBench_50 rfl ?_
          refine E.get hw 0 0 dX11_tallyBench_51 flX11_10 rfl rfl rfl rfl ?_
          refine E.iload_n 3 dX11_tallyBench_54 rfl ?_
          refine E.iconst (v := 5) dX11_tallyBench_55 (by decide) ?_
          obtain ⟨r3, hc3, hf⟩ := e_bind hf
          refine E.callVDs (es' := (wW38 G b q nh nt ne ns v0_faultPlace v0_quashedRows v0_lastRefusal v1_beasts v1_meals v1_seats v1_laws v1_inForce a2 a3 a4 a5 v37_height v37_answer a38 a39 v40_voters a41 aL1 aL2 aL3 aL4)) [.int x1, .int x3, .ref (b + 1), .ref (b + 37), .ref (b + 40)] [1, 2] 1 1 dX11_tallyBench_56 mlX11_115 hw rfl rfl rfl rfl (mX10_trait (hw.pick2 [1, 2] rfl (by decide)) hc3) rfl rfl rfl rfl ⟨Nat.le_of_ble_eq_true rfl, Nat.le_of_ble_eq_true rfl⟩ rfl rfl (Nat.le_of_ble_eq_true rfl) ⟨Nat.le_refl _, Nat.le_refl _⟩ rfl ?_
          refine E.iconst (v := 0) dX11_tallyBench_59 (by decide) ?_
          obtain ⟨r4, hc4, hf⟩ := e_bind hf
          refine E.callVDs (es' := (wW38 G b q nh nt ne ns v0_faultPlace v0_quashedRows v0_lastRefusal v1_beasts v1_meals v1_seats v1_laws v1_inForce a2 a3 a4 a5 r4.2.1 r4.2.2.1 r4.2.2.2.1 r4.2.2.2.2 v40_voters a41 aL1 aL2 aL3 aL4)) [.ref (b + 40)] [1, 2, 3, 4, 5, 6, 7, 8, 11, 12, 13, 14, 15] 6 37 dX11_tallyBench_60 mlX11_199 hw rfl rfl rfl rfl (mX0_chanceOf_L (hw.pick2 [1, 2, 3, 4, 5, 6, 7, 8, 11, 12, 13, 14, 15] rfl (by decide)) hc4) rfl rfl rfl rfl ⟨Nat.le_of_ble_eq_true rfl, Nat.le_of_ble_eq_true rfl⟩ rfl rfl (Nat.le_of_ble_eq_true rfl) ⟨Nat.le_refl _, Nat.le_refl _⟩ rfl ?_
          obtain ⟨r5, hc5, hf⟩ := e_bind hf
          refine E.callVDs (es' := (wW38 G b q nh nt ne ns v0_faultPlace v0_quashedRows v0_lastRefusal v1_beasts v1_meals v1_seats v1_laws v1_inForce a2 a3 a4 a5 r4.2.1 r4.2.2.1 r4.2.2.2.1 r4.2.2.2.2 r5.1 r5.2 aL1 aL2 aL3 aL4)) [] [9, 10] 9 40 dX11_tallyBench_63 mlX11_375 hw rfl rfl rfl rfl (mX8_vote (hw.pick2 [9, 10] rfl (by decide)) hc5) rfl rfl rfl rfl ⟨Nat.le_of_ble_eq_true rfl, Nat.le_of_ble_eq_true rfl⟩ rfl rfl (Nat.le_of_ble_eq_true rfl) ⟨Nat.le_refl _, Nat.le_refl _⟩ rfl ?_
          refine E.iinc (q := 3) (v := (x3 + 1)) (lv' := [(3, .int (x3 + 1)), (0, .ref (b + 0)), (1, .int x1), (2, .int x2)]) dX11_tallyBench_66 rfl rfl (by decide) rfl ?_
          refine E.goto dX11_tallyBench_69 ?_
          refine E.locals [1, 2, 3, 0] rfl ?_
          exact ih hf
def fX11_tallyBench_L (Fu : Nat) (nh : Nat) (nt : Nat) (ne : Nat) (ns : Nat) (b q : Nat) (v1_beasts : Int32) (v1_seats : Int32) (v1_laws : Int32) (v1_inForce : Int32) (a2 : Nat → Int32) (a3 : Nat → Int32) (a4 : Nat → Int32) (a5 : Nat → Option Nat) (v37_height : Int32) (v37_answer : Int64) (a38 : Nat → Int32) (a39 : Nat → Int64) (v40_voters : Int32) (a41 : Nat → Int64) (aL1 : Nat → Int32) (aL2 : Nat → Int32) (aL3 : Nat → Int32) (aL4 : Nat → Int32) (x1 : Int32) (x2 : Int32) : Option (Int32 × Int64 × (Nat → Int32) × (Nat → Int64) × Int32 × (Nat → Int64)) := (fX8_clear Fu v40_voters a41).bind fun r1 => (fX11_tallyBench_L_L9 Fu nh nt ne ns b q Fu v1_beasts v1_seats v1_laws v1_inForce a2 a3 a4 a5 v37_height v37_answer a38 a39 r1.1 r1.2 aL1 aL2 aL3 aL4 x1 x2 0)
set_option maxHeartbeats 4000000 in
set_option maxRecDepth 100000 in
theorem tX11_tallyBench_L {G : GT} {b : Nat} {q nh nt ne ns : Nat} {c0 : Hp} {n : Nat} (hw : e_wf (kW38 q) n) {v0_faultPlace : Int32} {v0_quashedRows : Int32} {v0_lastRefusal : Int32} {v1_meals : Int32} {Fu : Nat} {v1_beasts : Int32} {v1_seats : Int32} {v1_laws : Int32} {v1_inForce : Int32} {a2 : Nat → Int32} {a3 : Nat → Int32} {a4 : Nat → Int32} {a5 : Nat → Option Nat} {v37_height : Int32} {v37_answer : Int64} {a38 : Nat → Int32} {a39 : Nat → Int64} {v40_voters : Int32} {a41 : Nat → Int64} {aL1 : Nat → Int32} {aL2 : Nat → Int32} {aL3 : Nat → Int32} {aL4 : Nat → Int32} {x1 : Int32} {x2 : Int32} {R : Int32 × Int64 × (Nat → Int32) × (Nat → Int64) × Int32 × (Nat → Int64)} (hf : fX11_tallyBench_L Fu nh nt ne ns b q v1_beasts v1_seats v1_laws v1_inForce a2 a3 a4 a5 v37_height v37_answer a38 a39 v40_voters a41 aL1 aL2 aL3 aL4 x1 x2 = some R) : E G b yX11_tallyBench cX11_tallyBench 4 none (e_rm 5 0 0) e_X0 (e_Z G b (pD none (e_ov (kW38 q) (wW38 G b q nh nt ne ns v0_faultPlace v0_quashedRows v0_lastRefusal v1_beasts v1_meals v1_seats v1_laws v1_inForce a2 a3 a4 a5 R.1 R.2.1 R.2.2.1 R.2.2.2.1 R.2.2.2.2.1 R.2.2.2.2.2 aL1 aL2 aL3 aL4) c0) n) 0 0) 0 [(0, .ref (b + 0)), (1, .int x1), (2, .int x2)] [] (e_ov (kW38 q) (wW38 G b q nh nt ne ns v0_faultPlace v0_quashedRows v0_lastRefusal v1_beasts v1_meals v1_seats v1_laws v1_inForce a2 a3 a4 a5 v37_height v37_answer a38 a39 v40_voters a41 aL1 aL2 aL3 aL4) c0) n 0 0 := by
  unfold fX11_tallyBench_L at hf
  refine E.aload_n 0 dX11_tallyBench_0 rfl ?_
  refine E.get hw 0 0 dX11_tallyBench_1 flX11_50 rfl rfl rfl rfl ?_
  obtain ⟨r1, hc1, hf⟩ := e_bind hf
  refine E.callVDs (es' := (wW38 G b q nh nt ne ns v0_faultPlace v0_quashedRows v0_lastRefusal v1_beasts v1_meals v1_seats v1_laws v1_inForce a2 a3 a4 a5 v37_height v37_answer a38 a39 r1.1 r1.2 aL1 aL2 aL3 aL4)) [] [9, 10] 9 40 dX11_tallyBench_4 mlX11_372 hw rfl rfl rfl rfl (mX8_clear (hw.pick2 [9, 10] rfl (by decide)) hc1) rfl rfl rfl rfl ⟨Nat.le_of_ble_eq_true rfl, Nat.le_of_ble_eq_true rfl⟩ rfl rfl (Nat.le_of_ble_eq_true rfl) ⟨Nat.le_refl _, Nat.le_refl _⟩ rfl ?_
  refine E.iconst (v := 0) dX11_tallyBench_7 (by decide) ?_
  refine E.istore_n (lv' := [(3, .int 0), (0, .ref (b + 0)), (1, .int x1), (2, .int x2)]) dX11_tallyBench_8 (by decide) rfl ?_
  refine E.locals [1, 2, 3, 0] rfl ?_
  exact tX11_tallyBench_L_L9 hw _ hf
set_option maxRecDepth 100000 in
theorem mX11_tallyBench_L {G : GT} {b : Nat} {q nh nt ne ns : Nat} {c0 : Hp} {n : Nat} (hw : e_wf (kW38 q) n) {v0_faultPlace : Int32} {v0_quashedRows : Int32} {v0_lastRefusal : Int32} {v1_meals : Int32} {Fu : Nat} {v1_beasts : Int32} {v1_seats : Int32} {v1_laws : Int32} {v1_inForce : Int32} {a2 : Nat → Int32} {a3 : Nat → Int32} {a4 : Nat → Int32} {a5 : Nat → Option Nat} {v37_height : Int32} {v37_answer : Int64} {a38 : Nat → Int32} {a39 : Nat → Int64} {v40_voters : Int32} {a41 : Nat → Int64} {aL1 : Nat → Int32} {aL2 : Nat → Int32} {aL3 : Nat → Int32} {aL4 : Nat → Int32} {x1 : Int32} {x2 : Int32} {R : Int32 × Int64 × (Nat → Int32) × (Nat → Int64) × Int32 × (Nat → Int64)} (hf : fX11_tallyBench_L Fu nh nt ne ns b q v1_beasts v1_seats v1_laws v1_inForce a2 a3 a4 a5 v37_height v37_answer a38 a39 v40_voters a41 aL1 aL2 aL3 aL4 x1 x2 = some R) : e_C G b yX11_tallyBench cX11_tallyBench 4 none 5 0 0 [.ref (b + 0), .int x1, .int x2] (e_ov (kW38 q) (wW38 G b q nh nt ne ns v0_faultPlace v0_quashedRows v0_lastRefusal v1_beasts v1_meals v1_seats v1_laws v1_inForce a2 a3 a4 a5 v37_height v37_answer a38 a39 v40_voters a41 aL1 aL2 aL3 aL4) c0) n (pD none (e_ov (kW38 q) (wW38 G b q nh nt ne ns v0_faultPlace v0_quashedRows v0_lastRefusal v1_beasts v1_meals v1_seats v1_laws v1_inForce a2 a3 a4 a5 R.1 R.2.1 R.2.2.1 R.2.2.2.1 R.2.2.2.2.1 R.2.2.2.2.2 aL1 aL2 aL3 aL4) c0) n) := e_C.of (by decide) (Nat.le_of_ble_eq_true rfl) (tX11_tallyBench_L hw hf)
def fX11_odds_L (Fu : Nat) (nh : Nat) (nt : Nat) (ne : Nat) (ns : Nat) (b q : Nat) (v1_beasts : Int32) (v1_seats : Int32) (v1_laws : Int32) (v1_inForce : Int32) (a2 : Nat → Int32) (a3 : Nat → Int32) (a4 : Nat → Int32) (a5 : Nat → Option Nat) (v37_height : Int32) (v37_answer : Int64) (a38 : Nat → Int32) (a39 : Nat → Int64) (v40_voters : Int32) (a41 : Nat → Int64) (aL1 : Nat → Int32) (aL2 : Nat → Int32) (aL3 : Nat → Int32) (aL4 : Nat → Int32) (x1 : Int32) : Option (Int64 × Int32 × Int64 × (Nat → Int32) × (Nat → Int64) × Int32 × (Nat → Int64)) := if (x1 : Int32) < ((-1 : Int32) : Int32) then (some ((-1 : Int64), v37_height, v37_answer, a38, a39, v40_voters, a41)) else (if (x1 : Int32) ≤ (8 : Int32) then (gd 1 6 ((fX11_tallyBench_L Fu nh nt ne ns b q v1_beasts v1_seats v1_laws v1_inForce a2 a3 a4 a5 v37_height v37_answer a38 a39 v40_voters a41 aL1 aL2 aL3 aL4 (a4 (1 : Int32).toNatClampNeg) (-1 : Int32)).bind fun r2 => (if (x1 : Int32) = ((-1 : Int32) : Int32) then (gd 0 6 ((fX8_atLeast Fu r2.2.2.2.2.1 r2.2.2.2.2.2 (a4 (0 : Int32).toNatClampNeg)).bind fun r5 => (some (r5, r2.1, r2.2.1, r2.2.2.1, r2.2.2.2.1, r2.2.2.2.2.1, r2.2.2.2.2.2)))) else ((fX8_just r2.2.2.2.2.1 r2.2.2.2.2.2 x1).bind fun r3 => (some (r3, r2.1, r2.2.1, r2.2.2.1, r2.2.2.2.1, r2.2.2.2.2.1, r2.2.2.2.2.2)))))) else (some ((-1 : Int64), v37_height, v37_answer, a38, a39, v40_voters, a41)))
set_option maxHeartbeats 4000000 in
set_option maxRecDepth 100000 in
theorem tX11_odds_L {G : GT} {b : Nat} {q nh nt ne ns : Nat} {c0 : Hp} {n : Nat} (hw : e_wf (kW38 q) n) {v0_faultPlace : Int32} {v0_quashedRows : Int32} {v0_lastRefusal : Int32} {v1_meals : Int32} {Fu : Nat} {v1_beasts : Int32} {v1_seats : Int32} {v1_laws : Int32} {v1_inForce : Int32} {a2 : Nat → Int32} {a3 : Nat → Int32} {a4 : Nat → Int32} {a5 : Nat → Option Nat} {v37_height : Int32} {v37_answer : Int64} {a38 : Nat → Int32} {a39 : Nat → Int64} {v40_voters : Int32} {a41 : Nat → Int64} {aL1 : Nat → Int32} {aL2 : Nat → Int32} {aL3 : Nat → Int32} {aL4 : Nat → Int32} {x1 : Int32} {R : Int64 × Int32 × Int64 × (Nat → Int32) × (Nat → Int64) × Int32 × (Nat → Int64)} (hf : fX11_odds_L Fu nh nt ne ns b q v1_beasts v1_seats v1_laws v1_inForce a2 a3 a4 a5 v37_height v37_answer a38 a39 v40_voters a41 aL1 aL2 aL3 aL4 x1 = some R) : E G b yX11_odds cX11_odds 2 (some .long) (e_rm 6 0 0) e_X0 (e_Z G b (pD (some (.long R.1)) (e_ov (kW38 q) (wW38 G b q nh nt ne ns v0_faultPlace v0_quashedRows v0_lastRefusal v1_beasts v1_meals v1_seats v1_laws v1_inForce a2 a3 a4 a5 R.2.1 R.2.2.1 R.2.2.2.1 R.2.2.2.2.1 R.2.2.2.2.2.1 R.2.2.2.2.2.2 aL1 aL2 aL3 aL4) c0) n) 0 0) 0 [(0, .ref (b + 0)), (1, .int x1)] [] (e_ov (kW38 q) (wW38 G b q nh nt ne ns v0_faultPlace v0_quashedRows v0_lastRefusal v1_beasts v1_meals v1_seats v1_laws v1_inForce a2 a3 a4 a5 v37_height v37_answer a38 a39 v40_voters a41 aL1 aL2 aL3 aL4) c0) n 0 0 := by
  unfold fX11_odds_L at hf
  refine E.iload_n 1 dX11_odds_0 rfl ?_
  refine E.iconst (v := -1) dX11_odds_1 (by decide) ?_
  refine E.icmp_lt dX11_odds_2 (fun h => ?_) (fun h => ?_)
  · have hf := e_ift hf h
    refine E.ldc2 dX11_odds_11 kX11_210 ?_
    cases hf
    exact E.lret dX11_odds_14 (Nat.le_refl _) (Nat.le_refl _) (pD_rf _ _ _)
  · have hf := e_iff hf h
    refine E.iload_n 1 dX11_odds_5 rfl ?_
    refine E.bipush (v := 8) dX11_odds_6 (by decide) ?_
    refine E.icmp_le dX11_odds_8 (fun h => ?_) (fun h => ?_)
    · have hf := e_ift hf h
      refine E.aload_n 0 dX11_odds_15 rfl ?_
      refine E.aload_n 0 dX11_odds_16 rfl ?_
      refine E.get hw 0 0 dX11_odds_17 flX11_10 rfl rfl rfl rfl ?_
      refine E.getN hw 1 1 dX11_odds_20 fnX11_149 rfl rfl rfl rfl ?_
      refine E.iconst (v := 1) dX11_odds_23 (by decide) ?_
      obtain ⟨g1, hf⟩ := gd_some hf
      refine E.iald hw 4 4 dX11_odds_24 rfl rfl g1 ?_
      refine E.iconst (v := -1) dX11_odds_25 (by decide) ?_
      obtain ⟨r2, hc2, hf⟩ := e_bind hf
      refine E.callVD [] dX11_odds_26 mlX11_212 ⟨hw.sub (p := 0) rfl, e_ov_get hw.1 (p := 0) rfl rfl⟩ rfl rfl (mX11_tallyBench_L hw hc2) ⟨Nat.le_of_ble_eq_true rfl, Nat.le_of_ble_eq_true rfl⟩ rfl rfl (Nat.le_of_ble_eq_true rfl) ⟨Nat.le_refl _, Nat.le_refl _⟩ rfl ?_
      refine E.iload_n 1 dX11_odds_29 rfl ?_
      refine E.iconst (v := -1) dX11_odds_30 (by decide) ?_
      refine E.icmp_ne dX11_odds_31 (fun h => ?_) (fun h => ?_)
      · have hf := e_iff hf h
        refine E.aload_n 0 dX11_odds_53 rfl ?_
        refine E.get hw 0 0 dX11_odds_54 flX11_50 rfl rfl rfl rfl ?_
        refine E.iload_n 1 dX11_odds_57 rfl ?_
        obtain ⟨r3, hc3, hf⟩ := e_bind hf
        refine E.callVDs (es' := (wW38 G b q nh nt ne ns v0_faultPlace v0_quashedRows v0_lastRefusal v1_beasts v1_meals v1_seats v1_laws v1_inForce a2 a3 a4 a5 r2.1 r2.2.1 r2.2.2.1 r2.2.2.2.1 r2.2.2.2.2.1 r2.2.2.2.2.2 aL1 aL2 aL3 aL4)) [] [9, 10] 9 40 dX11_odds_58 mlX11_220 hw rfl rfl rfl rfl (mX8_just (hw.pick2 [9, 10] rfl (by decide)) hc3) rfl rfl rfl rfl ⟨Nat.le_of_ble_eq_true rfl, Nat.le_of_ble_eq_true rfl⟩ rfl rfl (Nat.le_of_ble_eq_true rfl) ⟨Nat.le_refl _, Nat.le_refl _⟩ rfl ?_
        cases hf
        exact E.lret dX11_odds_61 (Nat.le_refl _) (Nat.le_refl _) (pD_rf _ _ _)
      · have hf := e_ift hf h
        refine E.aload_n 0 dX11_odds_34 rfl ?_
        refine E.get hw 0 0 dX11_odds_35 flX11_50 rfl rfl rfl rfl ?_
        refine E.aload_n 0 dX11_odds_38 rfl ?_
        refine E.get hw 0 0 dX11_odds_39 flX11_10 rfl rfl rfl rfl ?_
        refine E.getN hw 1 1 dX11_odds_42 fnX11_149 rfl rfl rfl rfl ?_
        refine E.iconst (v := 0) dX11_odds_45 (by decide) ?_
        obtain ⟨g4, hf⟩ := gd_some hf
        refine E.iald hw 4 4 dX11_odds_46 rfl rfl g4 ?_
        obtain ⟨r5, hc5, hf⟩ := e_bind hf
        refine E.callVDs (es' := (wW38 G b q nh nt ne ns v0_faultPlace v0_quashedRows v0_lastRefusal v1_beasts v1_meals v1_seats v1_laws v1_inForce a2 a3 a4 a5 r2.1 r2.2.1 r2.2.2.1 r2.2.2.2.1 r2.2.2.2.2.1 r2.2.2.2.2.2 aL1 aL2 aL3 aL4)) [] [9, 10] 9 40 dX11_odds_47 mlX11_216 hw rfl rfl rfl rfl (mX8_atLeast (hw.pick2 [9, 10] rfl (by decide)) hc5) rfl rfl rfl rfl ⟨Nat.le_of_ble_eq_true rfl, Nat.le_of_ble_eq_true rfl⟩ rfl rfl (Nat.le_of_ble_eq_true rfl) ⟨Nat.le_refl _, Nat.le_refl _⟩ rfl ?_
        refine E.goto dX11_odds_50 ?_
        cases hf
        exact E.lret dX11_odds_61 (Nat.le_refl _) (Nat.le_refl _) (pD_rf _ _ _)
    · have hf := e_iff hf h
      refine E.ldc2 dX11_odds_11 kX11_210 ?_
      cases hf
      exact E.lret dX11_odds_14 (Nat.le_refl _) (Nat.le_refl _) (pD_rf _ _ _)
set_option maxRecDepth 100000 in
theorem mX11_odds_L {G : GT} {b : Nat} {q nh nt ne ns : Nat} {c0 : Hp} {n : Nat} (hw : e_wf (kW38 q) n) {v0_faultPlace : Int32} {v0_quashedRows : Int32} {v0_lastRefusal : Int32} {v1_meals : Int32} {Fu : Nat} {v1_beasts : Int32} {v1_seats : Int32} {v1_laws : Int32} {v1_inForce : Int32} {a2 : Nat → Int32} {a3 : Nat → Int32} {a4 : Nat → Int32} {a5 : Nat → Option Nat} {v37_height : Int32} {v37_answer : Int64} {a38 : Nat → Int32} {a39 : Nat → Int64} {v40_voters : Int32} {a41 : Nat → Int64} {aL1 : Nat → Int32} {aL2 : Nat → Int32} {aL3 : Nat → Int32} {aL4 : Nat → Int32} {x1 : Int32} {R : Int64 × Int32 × Int64 × (Nat → Int32) × (Nat → Int64) × Int32 × (Nat → Int64)} (hf : fX11_odds_L Fu nh nt ne ns b q v1_beasts v1_seats v1_laws v1_inForce a2 a3 a4 a5 v37_height v37_answer a38 a39 v40_voters a41 aL1 aL2 aL3 aL4 x1 = some R) : e_C G b yX11_odds cX11_odds 2 (some .long) 6 0 0 [.ref (b + 0), .int x1] (e_ov (kW38 q) (wW38 G b q nh nt ne ns v0_faultPlace v0_quashedRows v0_lastRefusal v1_beasts v1_meals v1_seats v1_laws v1_inForce a2 a3 a4 a5 v37_height v37_answer a38 a39 v40_voters a41 aL1 aL2 aL3 aL4) c0) n (pD (some (.long R.1)) (e_ov (kW38 q) (wW38 G b q nh nt ne ns v0_faultPlace v0_quashedRows v0_lastRefusal v1_beasts v1_meals v1_seats v1_laws v1_inForce a2 a3 a4 a5 R.2.1 R.2.2.1 R.2.2.2.1 R.2.2.2.2.1 R.2.2.2.2.2.1 R.2.2.2.2.2.2 aL1 aL2 aL3 aL4) c0) n) := e_C.of (by decide) (Nat.le_of_ble_eq_true rfl) (tX11_odds_L hw hf)
def fX11_tips_N (Fu : Nat) (v1_beasts : Int32) (v1_seats : Int32) (v1_laws : Int32) (v1_inForce : Int32) (a2 : Nat → Int32) (a3 : Nat → Int32) (a4 : Nat → Int32) (a5 : Nat → Option Nat) (a38 : Nat → Int32) (v40_voters : Int32) (a41 : Nat → Int64) (x1 : Int32) : Option (Int64 × (Nat → Int32) × Int32 × (Nat → Int64)) := (fX10_isSeated v1_beasts v1_seats x1).bind fun r1 => (if (r1 : Int32) = (0 : Int32) then (some ((-1 : Int64), a38, v40_voters, a41)) else (gd 1 6 ((fX11_tallyBench_N Fu v1_beasts v1_seats v1_laws v1_inForce a2 a3 a4 a5 a38 v40_voters a41 (a4 (1 : Int32).toNatClampNeg) x1).bind fun r3 => (gd 0 6 ((fX8_just r3.2.1 r3.2.2 ((a4 (0 : Int32).toNatClampNeg) - 1)).bind fun r5 => (some (r5, r3.1, r3.2.1, r3.2.2)))))))
set_option maxHeartbeats 4000000 in
set_option maxRecDepth 100000 in
theorem tX11_tips_N {G : GT} {b : Nat} {c0 : Hp} {n : Nat} (hw : e_wf (kW37) n) {v0_faultPlace : Int32} {v0_quashedRows : Int32} {v0_lastRefusal : Int32} {v1_meals : Int32} {v37_height : Int32} {v37_answer : Int64} {Fu : Nat} {v1_beasts : Int32} {v1_seats : Int32} {v1_laws : Int32} {v1_inForce : Int32} {a2 : Nat → Int32} {a3 : Nat → Int32} {a4 : Nat → Int32} {a5 : Nat → Option Nat} {a38 : Nat → Int32} {v40_voters : Int32} {a41 : Nat → Int64} {x1 : Int32} {R : Int64 × (Nat → Int32) × Int32 × (Nat → Int64)} (hf : fX11_tips_N Fu v1_beasts v1_seats v1_laws v1_inForce a2 a3 a4 a5 a38 v40_voters a41 x1 = some R) : E G b yX11_tips cX11_tips 2 (some .long) (e_rm 5 0 0) e_X0 (e_Z G b (pD (some (.long R.1)) (e_ov (kW37) (wW37 G b v0_faultPlace v0_quashedRows v0_lastRefusal v1_beasts v1_meals v1_seats v1_laws v1_inForce a2 a3 a4 a5 v37_height v37_answer R.2.1 R.2.2.1 R.2.2.2) c0) n) 0 0) 0 [(0, .ref (b + 0)), (1, .int x1)] [] (e_ov (kW37) (wW37 G b v0_faultPlace v0_quashedRows v0_lastRefusal v1_beasts v1_meals v1_seats v1_laws v1_inForce a2 a3 a4 a5 v37_height v37_answer a38 v40_voters a41) c0) n 0 0 := by
  unfold fX11_tips_N at hf
  refine E.aload_n 0 dX11_tips_0 rfl ?_
  refine E.get hw 0 0 dX11_tips_1 flX11_10 rfl rfl rfl rfl ?_
  refine E.iload_n 1 dX11_tips_4 rfl ?_
  obtain ⟨r1, hc1, hf⟩ := e_bind hf
  refine E.callVDs (es' := (wW37 G b v0_faultPlace v0_quashedRows v0_lastRefusal v1_beasts v1_meals v1_seats v1_laws v1_inForce a2 a3 a4 a5 v37_height v37_answer a38 v40_voters a41)) [] [1] 1 1 dX11_tips_5 mlX11_223 hw rfl rfl rfl rfl (mX10_isSeated (hw.pick2 [1] rfl (by decide)) hc1) rfl rfl rfl rfl ⟨Nat.le_of_ble_eq_true rfl, Nat.le_of_ble_eq_true rfl⟩ rfl rfl (Nat.le_of_ble_eq_true rfl) ⟨Nat.le_refl _, Nat.le_refl _⟩ rfl ?_
  refine E.if_ne dX11_tips_8 (fun h => ?_) (fun h => ?_)
  · have hf := e_iff hf h
    refine E.aload_n 0 dX11_tips_15 rfl ?_
    refine E.aload_n 0 dX11_tips_16 rfl ?_
    refine E.get hw 0 0 dX11_tips_17 flX11_10 rfl rfl rfl rfl ?_
    refine E.getN hw 1 1 dX11_tips_20 fnX11_149 rfl rfl rfl rfl ?_
    refine E.iconst (v := 1) dX11_tips_23 (by decide) ?_
    obtain ⟨g2, hf⟩ := gd_some hf
    refine E.iald hw 4 4 dX11_tips_24 rfl rfl g2 ?_
    refine E.iload_n 1 dX11_tips_25 rfl ?_
    obtain ⟨r3, hc3, hf⟩ := e_bind hf
    refine E.callVD [] dX11_tips_26 mlX11_212 ⟨hw.sub (p := 0) rfl, e_ov_get hw.1 (p := 0) rfl rfl⟩ rfl rfl (mX11_tallyBench_N hw hc3) ⟨Nat.le_of_ble_eq_true rfl, Nat.le_of_ble_eq_true rfl⟩ rfl rfl (Nat.le_of_ble_eq_true rfl) ⟨Nat.le_refl _, Nat.le_refl _⟩ rfl ?_
    refine E.aload_n 0 dX11_tips_29 rfl ?_
    refine E.get hw 0 0 dX11_tips_30 flX11_50 rfl rfl rfl rfl ?_
    refine E.aload_n 0 dX11_tips_33 rfl ?_
    refine E.get hw 0 0 dX11_tips_34 flX11_10 rfl rfl rfl rfl ?_
    refine E.getN hw 1 1 dX11_tips_37 fnX11_149 rfl rfl rfl rfl ?_
    refine E.iconst (v := 0) dX11_tips_40 (by decide) ?_
    obtain ⟨g4, hf⟩ := gd_some hf
    refine E.iald hw 4 4 dX11_tips_41 rfl rfl g4 ?_
    refine E.iconst (v := 1) dX11_tips_42 (by decide) ?_
    refine E.isub dX11_tips_43 ?_
    obtain ⟨r5, hc5, hf⟩ := e_bind hf
    refine E.callVDs (es' := (wW37 G b v0_faultPlace v0_quashedRows v0_lastRefusal v1_beasts v1_meals v1_seats v1_laws v1_inForce a2 a3 a4 a5 v37_height v37_answer r3.1 r3.2.1 r3.2.2)) [] [8, 9] 8 40 dX11_tips_44 mlX11_220 hw rfl rfl rfl rfl (mX8_just (hw.pick2 [8, 9] rfl (by decide)) hc5) rfl rfl rfl rfl ⟨Nat.le_of_ble_eq_true rfl, Nat.le_of_ble_eq_true rfl⟩ rfl rfl (Nat.le_of_ble_eq_true rfl) ⟨Nat.le_refl _, Nat.le_refl _⟩ rfl ?_
    cases hf
    exact E.lret dX11_tips_47 (Nat.le_refl _) (Nat.le_refl _) (pD_rf _ _ _)
  · have hf := e_ift hf h
    refine E.ldc2 dX11_tips_11 kX11_210 ?_
    cases hf
    exact E.lret dX11_tips_14 (Nat.le_refl _) (Nat.le_refl _) (pD_rf _ _ _)
set_option maxRecDepth 100000 in
theorem mX11_tips_N {G : GT} {b : Nat} {c0 : Hp} {n : Nat} (hw : e_wf (kW37) n) {v0_faultPlace : Int32} {v0_quashedRows : Int32} {v0_lastRefusal : Int32} {v1_meals : Int32} {v37_height : Int32} {v37_answer : Int64} {Fu : Nat} {v1_beasts : Int32} {v1_seats : Int32} {v1_laws : Int32} {v1_inForce : Int32} {a2 : Nat → Int32} {a3 : Nat → Int32} {a4 : Nat → Int32} {a5 : Nat → Option Nat} {a38 : Nat → Int32} {v40_voters : Int32} {a41 : Nat → Int64} {x1 : Int32} {R : Int64 × (Nat → Int32) × Int32 × (Nat → Int64)} (hf : fX11_tips_N Fu v1_beasts v1_seats v1_laws v1_inForce a2 a3 a4 a5 a38 v40_voters a41 x1 = some R) : e_C G b yX11_tips cX11_tips 2 (some .long) 5 0 0 [.ref (b + 0), .int x1] (e_ov (kW37) (wW37 G b v0_faultPlace v0_quashedRows v0_lastRefusal v1_beasts v1_meals v1_seats v1_laws v1_inForce a2 a3 a4 a5 v37_height v37_answer a38 v40_voters a41) c0) n (pD (some (.long R.1)) (e_ov (kW37) (wW37 G b v0_faultPlace v0_quashedRows v0_lastRefusal v1_beasts v1_meals v1_seats v1_laws v1_inForce a2 a3 a4 a5 v37_height v37_answer R.2.1 R.2.2.1 R.2.2.2) c0) n) := e_C.of (by decide) (Nat.le_of_ble_eq_true rfl) (tX11_tips_N hw hf)
def fX11_tips_L (Fu : Nat) (nh : Nat) (nt : Nat) (ne : Nat) (ns : Nat) (b q : Nat) (v1_beasts : Int32) (v1_seats : Int32) (v1_laws : Int32) (v1_inForce : Int32) (a2 : Nat → Int32) (a3 : Nat → Int32) (a4 : Nat → Int32) (a5 : Nat → Option Nat) (v37_height : Int32) (v37_answer : Int64) (a38 : Nat → Int32) (a39 : Nat → Int64) (v40_voters : Int32) (a41 : Nat → Int64) (aL1 : Nat → Int32) (aL2 : Nat → Int32) (aL3 : Nat → Int32) (aL4 : Nat → Int32) (x1 : Int32) : Option (Int64 × Int32 × Int64 × (Nat → Int32) × (Nat → Int64) × Int32 × (Nat → Int64)) := (fX10_isSeated v1_beasts v1_seats x1).bind fun r1 => (if (r1 : Int32) = (0 : Int32) then (some ((-1 : Int64), v37_height, v37_answer, a38, a39, v40_voters, a41)) else (gd 1 6 ((fX11_tallyBench_L Fu nh nt ne ns b q v1_beasts v1_seats v1_laws v1_inForce a2 a3 a4 a5 v37_height v37_answer a38 a39 v40_voters a41 aL1 aL2 aL3 aL4 (a4 (1 : Int32).toNatClampNeg) x1).bind fun r3 => (gd 0 6 ((fX8_just r3.2.2.2.2.1 r3.2.2.2.2.2 ((a4 (0 : Int32).toNatClampNeg) - 1)).bind fun r5 => (some (r5, r3.1, r3.2.1, r3.2.2.1, r3.2.2.2.1, r3.2.2.2.2.1, r3.2.2.2.2.2)))))))
set_option maxHeartbeats 4000000 in
set_option maxRecDepth 100000 in
theorem tX11_tips_L {G : GT} {b : Nat} {q nh nt ne ns : Nat} {c0 : Hp} {n : Nat} (hw : e_wf (kW38 q) n) {v0_faultPlace : Int32} {v0_quashedRows : Int32} {v0_lastRefusal : Int32} {v1_meals : Int32} {Fu : Nat} {v1_beasts : Int32} {v1_seats : Int32} {v1_laws : Int32} {v1_inForce : Int32} {a2 : Nat → Int32} {a3 : Nat → Int32} {a4 : Nat → Int32} {a5 : Nat → Option Nat} {v37_height : Int32} {v37_answer : Int64} {a38 : Nat → Int32} {a39 : Nat → Int64} {v40_voters : Int32} {a41 : Nat → Int64} {aL1 : Nat → Int32} {aL2 : Nat → Int32} {aL3 : Nat → Int32} {aL4 : Nat → Int32} {x1 : Int32} {R : Int64 × Int32 × Int64 × (Nat → Int32) × (Nat → Int64) × Int32 × (Nat → Int64)} (hf : fX11_tips_L Fu nh nt ne ns b q v1_beasts v1_seats v1_laws v1_inForce a2 a3 a4 a5 v37_height v37_answer a38 a39 v40_voters a41 aL1 aL2 aL3 aL4 x1 = some R) : E G b yX11_tips cX11_tips 2 (some .long) (e_rm 6 0 0) e_X0 (e_Z G b (pD (some (.long R.1)) (e_ov (kW38 q) (wW38 G b q nh nt ne ns v0_faultPlace v0_quashedRows v0_lastRefusal v1_beasts v1_meals v1_seats v1_laws v1_inForce a2 a3 a4 a5 R.2.1 R.2.2.1 R.2.2.2.1 R.2.2.2.2.1 R.2.2.2.2.2.1 R.2.2.2.2.2.2 aL1 aL2 aL3 aL4) c0) n) 0 0) 0 [(0, .ref (b + 0)), (1, .int x1)] [] (e_ov (kW38 q) (wW38 G b q nh nt ne ns v0_faultPlace v0_quashedRows v0_lastRefusal v1_beasts v1_meals v1_seats v1_laws v1_inForce a2 a3 a4 a5 v37_height v37_answer a38 a39 v40_voters a41 aL1 aL2 aL3 aL4) c0) n 0 0 := by
  unfold fX11_tips_L at hf
  refine E.aload_n 0 dX11_tips_0 rfl ?_
  refine E.get hw 0 0 dX11_tips_1 flX11_10 rfl rfl rfl rfl ?_
  refine E.iload_n 1 dX11_tips_4 rfl ?_
  obtain ⟨r1, hc1, hf⟩ := e_bind hf
  refine E.callVDs (es' := (wW38 G b q nh nt ne ns v0_faultPlace v0_quashedRows v0_lastRefusal v1_beasts v1_meals v1_seats v1_laws v1_inForce a2 a3 a4 a5 v37_height v37_answer a38 a39 v40_voters a41 aL1 aL2 aL3 aL4)) [] [1] 1 1 dX11_tips_5 mlX11_223 hw rfl rfl rfl rfl (mX10_isSeated (hw.pick2 [1] rfl (by decide)) hc1) rfl rfl rfl rfl ⟨Nat.le_of_ble_eq_true rfl, Nat.le_of_ble_eq_true rfl⟩ rfl rfl (Nat.le_of_ble_eq_true rfl) ⟨Nat.le_refl _, Nat.le_refl _⟩ rfl ?_
  refine E.if_ne dX11_tips_8 (fun h => ?_) (fun h => ?_)
  · have hf := e_iff hf h
    refine E.aload_n 0 dX11_tips_15 rfl ?_
    refine E.aload_n 0 dX11_tips_16 rfl ?_
    refine E.get hw 0 0 dX11_tips_17 flX11_10 rfl rfl rfl rfl ?_
    refine E.getN hw 1 1 dX11_tips_20 fnX11_149 rfl rfl rfl rfl ?_
    refine E.iconst (v := 1) dX11_tips_23 (by decide) ?_
    obtain ⟨g2, hf⟩ := gd_some hf
    refine E.iald hw 4 4 dX11_tips_24 rfl rfl g2 ?_
    refine E.iload_n 1 dX11_tips_25 rfl ?_
    obtain ⟨r3, hc3, hf⟩ := e_bind hf
    refine E.callVD [] dX11_tips_26 mlX11_212 ⟨hw.sub (p := 0) rfl, e_ov_get hw.1 (p := 0) rfl rfl⟩ rfl rfl (mX11_tallyBench_L hw hc3) ⟨Nat.le_of_ble_eq_true rfl, Nat.le_of_ble_eq_true rfl⟩ rfl rfl (Nat.le_of_ble_eq_true rfl) ⟨Nat.le_refl _, Nat.le_refl _⟩ rfl ?_
    refine E.aload_n 0 dX11_tips_29 rfl ?_
    refine E.get hw 0 0 dX11_tips_30 flX11_50 rfl rfl rfl rfl ?_
    refine E.aload_n 0 dX11_tips_33 rfl ?_
    refine E.get hw 0 0 dX11_tips_34 flX11_10 rfl rfl rfl rfl ?_
    refine E.getN hw 1 1 dX11_tips_37 fnX11_149 rfl rfl rfl rfl ?_
    refine E.iconst (v := 0) dX11_tips_40 (by decide) ?_
    obtain ⟨g4, hf⟩ := gd_some hf
    refine E.iald hw 4 4 dX11_tips_41 rfl rfl g4 ?_
    refine E.iconst (v := 1) dX11_tips_42 (by decide) ?_
    refine E.isub dX11_tips_43 ?_
    obtain ⟨r5, hc5, hf⟩ := e_bind hf
    refine E.callVDs (es' := (wW38 G b q nh nt ne ns v0_faultPlace v0_quashedRows v0_lastRefusal v1_beasts v1_meals v1_seats v1_laws v1_inForce a2 a3 a4 a5 r3.1 r3.2.1 r3.2.2.1 r3.2.2.2.1 r3.2.2.2.2.1 r3.2.2.2.2.2 aL1 aL2 aL3 aL4)) [] [9, 10] 9 40 dX11_tips_44 mlX11_220 hw rfl rfl rfl rfl (mX8_just (hw.pick2 [9, 10] rfl (by decide)) hc5) rfl rfl rfl rfl ⟨Nat.le_of_ble_eq_true rfl, Nat.le_of_ble_eq_true rfl⟩ rfl rfl (Nat.le_of_ble_eq_true rfl) ⟨Nat.le_refl _, Nat.le_refl _⟩ rfl ?_
    cases hf
    exact E.lret dX11_tips_47 (Nat.le_refl _) (Nat.le_refl _) (pD_rf _ _ _)
  · have hf := e_ift hf h
    refine E.ldc2 dX11_tips_11 kX11_210 ?_
    cases hf
    exact E.lret dX11_tips_14 (Nat.le_refl _) (Nat.le_refl _) (pD_rf _ _ _)
set_option maxRecDepth 100000 in
theorem mX11_tips_L {G : GT} {b : Nat} {q nh nt ne ns : Nat} {c0 : Hp} {n : Nat} (hw : e_wf (kW38 q) n) {v0_faultPlace : Int32} {v0_quashedRows : Int32} {v0_lastRefusal : Int32} {v1_meals : Int32} {Fu : Nat} {v1_beasts : Int32} {v1_seats : Int32} {v1_laws : Int32} {v1_inForce : Int32} {a2 : Nat → Int32} {a3 : Nat → Int32} {a4 : Nat → Int32} {a5 : Nat → Option Nat} {v37_height : Int32} {v37_answer : Int64} {a38 : Nat → Int32} {a39 : Nat → Int64} {v40_voters : Int32} {a41 : Nat → Int64} {aL1 : Nat → Int32} {aL2 : Nat → Int32} {aL3 : Nat → Int32} {aL4 : Nat → Int32} {x1 : Int32} {R : Int64 × Int32 × Int64 × (Nat → Int32) × (Nat → Int64) × Int32 × (Nat → Int64)} (hf : fX11_tips_L Fu nh nt ne ns b q v1_beasts v1_seats v1_laws v1_inForce a2 a3 a4 a5 v37_height v37_answer a38 a39 v40_voters a41 aL1 aL2 aL3 aL4 x1 = some R) : e_C G b yX11_tips cX11_tips 2 (some .long) 6 0 0 [.ref (b + 0), .int x1] (e_ov (kW38 q) (wW38 G b q nh nt ne ns v0_faultPlace v0_quashedRows v0_lastRefusal v1_beasts v1_meals v1_seats v1_laws v1_inForce a2 a3 a4 a5 v37_height v37_answer a38 a39 v40_voters a41 aL1 aL2 aL3 aL4) c0) n (pD (some (.long R.1)) (e_ov (kW38 q) (wW38 G b q nh nt ne ns v0_faultPlace v0_quashedRows v0_lastRefusal v1_beasts v1_meals v1_seats v1_laws v1_inForce a2 a3 a4 a5 R.2.1 R.2.2.1 R.2.2.2.1 R.2.2.2.2.1 R.2.2.2.2.2.1 R.2.2.2.2.2.2 aL1 aL2 aL3 aL4) c0) n) := e_C.of (by decide) (Nat.le_of_ble_eq_true rfl) (tX11_tips_L hw hf)
def fJ6_bitCount_0f7a4 (x0 : Int32) : Option (Int32) := some (((((((((x0 - ((((x0 : Int32).toUInt32 >>> ((1 : Int32).toUInt32 &&& Int32.toUInt32 31)).toInt32) &&& 1431655765)) &&& 858993459) + (((((x0 - ((((x0 : Int32).toUInt32 >>> ((1 : Int32).toUInt32 &&& Int32.toUInt32 31)).toInt32) &&& 1431655765)) : Int32).toUInt32 >>> ((2 : Int32).toUInt32 &&& Int32.toUInt32 31)).toInt32) &&& 858993459)) + ((((((x0 - ((((x0 : Int32).toUInt32 >>> ((1 : Int32).toUInt32 &&& Int32.toUInt32 31)).toInt32) &&& 1431655765)) &&& 858993459) + (((((x0 - ((((x0 : Int32).toUInt32 >>> ((1 : Int32).toUInt32 &&& Int32.toUInt32 31)).toInt32) &&& 1431655765)) : Int32).toUInt32 >>> ((2 : Int32).toUInt32 &&& Int32.toUInt32 31)).toInt32) &&& 858993459)) : Int32).toUInt32 >>> ((4 : Int32).toUInt32 &&& Int32.toUInt32 31)).toInt32)) &&& 252645135) + ((((((((x0 - ((((x0 : Int32).toUInt32 >>> ((1 : Int32).toUInt32 &&& Int32.toUInt32 31)).toInt32) &&& 1431655765)) &&& 858993459) + (((((x0 - ((((x0 : Int32).toUInt32 >>> ((1 : Int32).toUInt32 &&& Int32.toUInt32 31)).toInt32) &&& 1431655765)) : Int32).toUInt32 >>> ((2 : Int32).toUInt32 &&& Int32.toUInt32 31)).toInt32) &&& 858993459)) + ((((((x0 - ((((x0 : Int32).toUInt32 >>> ((1 : Int32).toUInt32 &&& Int32.toUInt32 31)).toInt32) &&& 1431655765)) &&& 858993459) + (((((x0 - ((((x0 : Int32).toUInt32 >>> ((1 : Int32).toUInt32 &&& Int32.toUInt32 31)).toInt32) &&& 1431655765)) : Int32).toUInt32 >>> ((2 : Int32).toUInt32 &&& Int32.toUInt32 31)).toInt32) &&& 858993459)) : Int32).toUInt32 >>> ((4 : Int32).toUInt32 &&& Int32.toUInt32 31)).toInt32)) &&& 252645135) : Int32).toUInt32 >>> ((8 : Int32).toUInt32 &&& Int32.toUInt32 31)).toInt32)) + (((((((((x0 - ((((x0 : Int32).toUInt32 >>> ((1 : Int32).toUInt32 &&& Int32.toUInt32 31)).toInt32) &&& 1431655765)) &&& 858993459) + (((((x0 - ((((x0 : Int32).toUInt32 >>> ((1 : Int32).toUInt32 &&& Int32.toUInt32 31)).toInt32) &&& 1431655765)) : Int32).toUInt32 >>> ((2 : Int32).toUInt32 &&& Int32.toUInt32 31)).toInt32) &&& 858993459)) + ((((((x0 - ((((x0 : Int32).toUInt32 >>> ((1 : Int32).toUInt32 &&& Int32.toUInt32 31)).toInt32) &&& 1431655765)) &&& 858993459) + (((((x0 - ((((x0 : Int32).toUInt32 >>> ((1 : Int32).toUInt32 &&& Int32.toUInt32 31)).toInt32) &&& 1431655765)) : Int32).toUInt32 >>> ((2 : Int32).toUInt32 &&& Int32.toUInt32 31)).toInt32) &&& 858993459)) : Int32).toUInt32 >>> ((4 : Int32).toUInt32 &&& Int32.toUInt32 31)).toInt32)) &&& 252645135) + ((((((((x0 - ((((x0 : Int32).toUInt32 >>> ((1 : Int32).toUInt32 &&& Int32.toUInt32 31)).toInt32) &&& 1431655765)) &&& 858993459) + (((((x0 - ((((x0 : Int32).toUInt32 >>> ((1 : Int32).toUInt32 &&& Int32.toUInt32 31)).toInt32) &&& 1431655765)) : Int32).toUInt32 >>> ((2 : Int32).toUInt32 &&& Int32.toUInt32 31)).toInt32) &&& 858993459)) + ((((((x0 - ((((x0 : Int32).toUInt32 >>> ((1 : Int32).toUInt32 &&& Int32.toUInt32 31)).toInt32) &&& 1431655765)) &&& 858993459) + (((((x0 - ((((x0 : Int32).toUInt32 >>> ((1 : Int32).toUInt32 &&& Int32.toUInt32 31)).toInt32) &&& 1431655765)) : Int32).toUInt32 >>> ((2 : Int32).toUInt32 &&& Int32.toUInt32 31)).toInt32) &&& 858993459)) : Int32).toUInt32 >>> ((4 : Int32).toUInt32 &&& Int32.toUInt32 31)).toInt32)) &&& 252645135) : Int32).toUInt32 >>> ((8 : Int32).toUInt32 &&& Int32.toUInt32 31)).toInt32)) : Int32).toUInt32 >>> ((16 : Int32).toUInt32 &&& Int32.toUInt32 31)).toInt32)) &&& 63))
set_option maxHeartbeats 4000000 in
set_option maxRecDepth 100000 in
theorem tJ6_bitCount_0f7a4 {G : GT} {b : Nat} {c : Hp} {n : Nat} {x0 : Int32} {R : Int32} (hf : fJ6_bitCount_0f7a4 x0 = some R) : E G b yJ6_bitCount_0f7a4 cJ6_bitCount_0f7a4 1 (some .int) (e_rm 0 0 0) e_X0 (e_Z G b (pD (some (.int R)) c n) 0 0) 0 [(0, .int x0)] [] c n 0 0 := by
  unfold fJ6_bitCount_0f7a4 at hf
  refine E.iload_n 0 dJ6_bitCount_0f7a4_0 rfl ?_
  refine E.iload_n 0 dJ6_bitCount_0f7a4_1 rfl ?_
  refine E.iconst (v := 1) dJ6_bitCount_0f7a4_2 (by decide) ?_
  refine E.iushr dJ6_bitCount_0f7a4_3 ?_
  refine E.ldcw dJ6_bitCount_0f7a4_4 kJ6_265 ?_
  refine E.iand dJ6_bitCount_0f7a4_7 ?_
  refine E.isub dJ6_bitCount_0f7a4_8 ?_
  refine E.istore_n (lv' := [(0, .int (x0 - ((((x0 : Int32).toUInt32 >>> ((1 : Int32).toUInt32 &&& Int32.toUInt32 31)).toInt32) &&& 1431655765)))]) dJ6_bitCount_0f7a4_9 (by decide) rfl ?_
  refine E.iload_n 0 dJ6_bitCount_0f7a4_10 rfl ?_
  refine E.ldcw dJ6_bitCount_0f7a4_11 kJ6_266 ?_
  refine E.iand dJ6_bitCount_0f7a4_14 ?_
  refine E.iload_n 0 dJ6_bitCount_0f7a4_15 rfl ?_
  refine E.iconst (v := 2) dJ6_bitCount_0f7a4_16 (by decide) ?_
  refine E.iushr dJ6_bitCount_0f7a4_17 ?_
  refine E.ldcw dJ6_bitCount_0f7a4_18 kJ6_266 ?_
  refine E.iand dJ6_bitCount_0f7a4_21 ?_
  refine E.iadd dJ6_bitCount_0f7a4_22 ?_
  refine E.istore_n (lv' := [(0, .int (((x0 - ((((x0 : Int32).toUInt32 >>> ((1 : Int32).toUInt32 &&& Int32.toUInt32 31)).toInt32) &&& 1431655765)) &&& 858993459) + (((((x0 - ((((x0 : Int32).toUInt32 >>> ((1 : Int32).toUInt32 &&& Int32.toUInt32 31)).toInt32) &&& 1431655765)) : Int32).toUInt32 >>> ((2 : Int32).toUInt32 &&& Int32.toUInt32 31)).toInt32) &&& 858993459)))]) dJ6_bitCount_0f7a4_23 (by decide) rfl ?_
  refine E.iload_n 0 dJ6_bitCount_0f7a4_24 rfl ?_
  refine E.iload_n 0 dJ6_bitCount_0f7a4_25 rfl ?_
  refine E.iconst (v := 4) dJ6_bitCount_0f7a4_26 (by decide) ?_
  refine E.iushr dJ6_bitCount_0f7a4_27 ?_
  refine E.iadd dJ6_bitCount_0f7a4_28 ?_
  refine E.ldcw dJ6_bitCount_0f7a4_29 kJ6_267 ?_
  refine E.iand dJ6_bitCount_0f7a4_32 ?_
  refine E.istore_n (lv' := [(0, .int (((((x0 - ((((x0 : Int32).toUInt32 >>> ((1 : Int32).toUInt32 &&& Int32.toUInt32 31)).toInt32) &&& 1431655765)) &&& 858993459) + (((((x0 - ((((x0 : Int32).toUInt32 >>> ((1 : Int32).toUInt32 &&& Int32.toUInt32 31)).toInt32) &&& 1431655765)) : Int32).toUInt32 >>> ((2 : Int32).toUInt32 &&& Int32.toUInt32 31)).toInt32) &&& 858993459)) + ((((((x0 - ((((x0 : Int32).toUInt32 >>> ((1 : Int32).toUInt32 &&& Int32.toUInt32 31)).toInt32) &&& 1431655765)) &&& 858993459) + (((((x0 - ((((x0 : Int32).toUInt32 >>> ((1 : Int32).toUInt32 &&& Int32.toUInt32 31)).toInt32) &&& 1431655765)) : Int32).toUInt32 >>> ((2 : Int32).toUInt32 &&& Int32.toUInt32 31)).toInt32) &&& 858993459)) : Int32).toUInt32 >>> ((4 : Int32).toUInt32 &&& Int32.toUInt32 31)).toInt32)) &&& 252645135))]) dJ6_bitCount_0f7a4_33 (by decide) rfl ?_
  refine E.iload_n 0 dJ6_bitCount_0f7a4_34 rfl ?_
  refine E.iload_n 0 dJ6_bitCount_0f7a4_35 rfl ?_
  refine E.bipush (v := 8) dJ6_bitCount_0f7a4_36 (by decide) ?_
  refine E.iushr dJ6_bitCount_0f7a4_38 ?_
  refine E.iadd dJ6_bitCount_0f7a4_39 ?_
  refine E.istore_n (lv' := [(0, .int ((((((x0 - ((((x0 : Int32).toUInt32 >>> ((1 : Int32).toUInt32 &&& Int32.toUInt32 31)).toInt32) &&& 1431655765)) &&& 858993459) + (((((x0 - ((((x0 : Int32).toUInt32 >>> ((1 : Int32).toUInt32 &&& Int32.toUInt32 31)).toInt32) &&& 1431655765)) : Int32).toUInt32 >>> ((2 : Int32).toUInt32 &&& Int32.toUInt32 31)).toInt32) &&& 858993459)) + ((((((x0 - ((((x0 : Int32).toUInt32 >>> ((1 : Int32).toUInt32 &&& Int32.toUInt32 31)).toInt32) &&& 1431655765)) &&& 858993459) + (((((x0 - ((((x0 : Int32).toUInt32 >>> ((1 : Int32).toUInt32 &&& Int32.toUInt32 31)).toInt32) &&& 1431655765)) : Int32).toUInt32 >>> ((2 : Int32).toUInt32 &&& Int32.toUInt32 31)).toInt32) &&& 858993459)) : Int32).toUInt32 >>> ((4 : Int32).toUInt32 &&& Int32.toUInt32 31)).toInt32)) &&& 252645135) + ((((((((x0 - ((((x0 : Int32).toUInt32 >>> ((1 : Int32).toUInt32 &&& Int32.toUInt32 31)).toInt32) &&& 1431655765)) &&& 858993459) + (((((x0 - ((((x0 : Int32).toUInt32 >>> ((1 : Int32).toUInt32 &&& Int32.toUInt32 31)).toInt32) &&& 1431655765)) : Int32).toUInt32 >>> ((2 : Int32).toUInt32 &&& Int32.toUInt32 31)).toInt32) &&& 858993459)) + ((((((x0 - ((((x0 : Int32).toUInt32 >>> ((1 : Int32).toUInt32 &&& Int32.toUInt32 31)).toInt32) &&& 1431655765)) &&& 858993459) + (((((x0 - ((((x0 : Int32).toUInt32 >>> ((1 : Int32).toUInt32 &&& Int32.toUInt32 31)).toInt32) &&& 1431655765)) : Int32).toUInt32 >>> ((2 : Int32).toUInt32 &&& Int32.toUInt32 31)).toInt32) &&& 858993459)) : Int32).toUInt32 >>> ((4 : Int32).toUInt32 &&& Int32.toUInt32 31)).toInt32)) &&& 252645135) : Int32).toUInt32 >>> ((8 : Int32).toUInt32 &&& Int32.toUInt32 31)).toInt32)))]) dJ6_bitCount_0f7a4_40 (by decide) rfl ?_
  refine E.iload_n 0 dJ6_bitCount_0f7a4_41 rfl ?_
  refine E.iload_n 0 dJ6_bitCount_0f7a4_42 rfl ?_
  refine E.bipush (v := 16) dJ6_bitCount_0f7a4_43 (by decide) ?_
  refine E.iushr dJ6_bitCount_0f7a4_45 ?_
  refine E.iadd dJ6_bitCount_0f7a4_46 ?_
  refine E.istore_n (lv' := [(0, .int (((((((x0 - ((((x0 : Int32).toUInt32 >>> ((1 : Int32).toUInt32 &&& Int32.toUInt32 31)).toInt32) &&& 1431655765)) &&& 858993459) + (((((x0 - ((((x0 : Int32).toUInt32 >>> ((1 : Int32).toUInt32 &&& Int32.toUInt32 31)).toInt32) &&& 1431655765)) : Int32).toUInt32 >>> ((2 : Int32).toUInt32 &&& Int32.toUInt32 31)).toInt32) &&& 858993459)) + ((((((x0 - ((((x0 : Int32).toUInt32 >>> ((1 : Int32).toUInt32 &&& Int32.toUInt32 31)).toInt32) &&& 1431655765)) &&& 858993459) + (((((x0 - ((((x0 : Int32).toUInt32 >>> ((1 : Int32).toUInt32 &&& Int32.toUInt32 31)).toInt32) &&& 1431655765)) : Int32).toUInt32 >>> ((2 : Int32).toUInt32 &&& Int32.toUInt32 31)).toInt32) &&& 858993459)) : Int32).toUInt32 >>> ((4 : Int32).toUInt32 &&& Int32.toUInt32 31)).toInt32)) &&& 252645135) + ((((((((x0 - ((((x0 : Int32).toUInt32 >>> ((1 : Int32).toUInt32 &&& Int32.toUInt32 31)).toInt32) &&& 1431655765)) &&& 858993459) + (((((x0 - ((((x0 : Int32).toUInt32 >>> ((1 : Int32).toUInt32 &&& Int32.toUInt32 31)).toInt32) &&& 1431655765)) : Int32).toUInt32 >>> ((2 : Int32).toUInt32 &&& Int32.toUInt32 31)).toInt32) &&& 858993459)) + ((((((x0 - ((((x0 : Int32).toUInt32 >>> ((1 : Int32).toUInt32 &&& Int32.toUInt32 31)).toInt32) &&& 1431655765)) &&& 858993459) + (((((x0 - ((((x0 : Int32).toUInt32 >>> ((1 : Int32).toUInt32 &&& Int32.toUInt32 31)).toInt32) &&& 1431655765)) : Int32).toUInt32 >>> ((2 : Int32).toUInt32 &&& Int32.toUInt32 31)).toInt32) &&& 858993459)) : Int32).toUInt32 >>> ((4 : Int32).toUInt32 &&& Int32.toUInt32 31)).toInt32)) &&& 252645135) : Int32).toUInt32 >>> ((8 : Int32).toUInt32 &&& Int32.toUInt32 31)).toInt32)) + (((((((((x0 - ((((x0 : Int32).toUInt32 >>> ((1 : Int32).toUInt32 &&& Int32.toUInt32 31)).toInt32) &&& 1431655765)) &&& 858993459) + (((((x0 - ((((x0 : Int32).toUInt32 >>> ((1 : Int32).toUInt32 &&& Int32.toUInt32 31)).toInt32) &&& 1431655765)) : Int32).toUInt32 >>> ((2 : Int32).toUInt32 &&& Int32.toUInt32 31)).toInt32) &&& 858993459)) + ((((((x0 - ((((x0 : Int32).toUInt32 >>> ((1 : Int32).toUInt32 &&& Int32.toUInt32 31)).toInt32) &&& 1431655765)) &&& 858993459) + (((((x0 - ((((x0 : Int32).toUInt32 >>> ((1 : Int32).toUInt32 &&& Int32.toUInt32 31)).toInt32) &&& 1431655765)) : Int32).toUInt32 >>> ((2 : Int32).toUInt32 &&& Int32.toUInt32 31)).toInt32) &&& 858993459)) : Int32).toUInt32 >>> ((4 : Int32).toUInt32 &&& Int32.toUInt32 31)).toInt32)) &&& 252645135) + ((((((((x0 - ((((x0 : Int32).toUInt32 >>> ((1 : Int32).toUInt32 &&& Int32.toUInt32 31)).toInt32) &&& 1431655765)) &&& 858993459) + (((((x0 - ((((x0 : Int32).toUInt32 >>> ((1 : Int32).toUInt32 &&& Int32.toUInt32 31)).toInt32) &&& 1431655765)) : Int32).toUInt32 >>> ((2 : Int32).toUInt32 &&& Int32.toUInt32 31)).toInt32) &&& 858993459)) + ((((((x0 - ((((x0 : Int32).toUInt32 >>> ((1 : Int32).toUInt32 &&& Int32.toUInt32 31)).toInt32) &&& 1431655765)) &&& 858993459) + (((((x0 - ((((x0 : Int32).toUInt32 >>> ((1 : Int32).toUInt32 &&& Int32.toUInt32 31)).toInt32) &&& 1431655765)) : Int32).toUInt32 >>> ((2 : Int32).toUInt32 &&& Int32.toUInt32 31)).toInt32) &&& 858993459)) : Int32).toUInt32 >>> ((4 : Int32).toUInt32 &&& Int32.toUInt32 31)).toInt32)) &&& 252645135) : Int32).toUInt32 >>> ((8 : Int32).toUInt32 &&& Int32.toUInt32 31)).toInt32)) : Int32).toUInt32 >>> ((16 : Int32).toUInt32 &&& Int32.toUInt32 31)).toInt32)))]) dJ6_bitCount_0f7a4_47 (by decide) rfl ?_
  refine E.iload_n 0 dJ6_bitCount_0f7a4_48 rfl ?_
  refine E.bipush (v := 63) dJ6_bitCount_0f7a4_49 (by decide) ?_
  refine E.iand dJ6_bitCount_0f7a4_51 ?_
  cases hf
  exact E.iret dJ6_bitCount_0f7a4_52 (Nat.le_refl _) (Nat.le_refl _) (pD_rf _ _ _)
set_option maxRecDepth 100000 in
theorem mJ6_bitCount_0f7a4 {G : GT} {b : Nat} {c : Hp} {n : Nat} {x0 : Int32} {R : Int32} (hf : fJ6_bitCount_0f7a4 x0 = some R) : e_C G b yJ6_bitCount_0f7a4 cJ6_bitCount_0f7a4 1 (some .int) 0 0 0 [.int x0] c n (pD (some (.int R)) c n) := e_C.of (by decide) (Nat.le_of_ble_eq_true rfl) (tJ6_bitCount_0f7a4 hf)
def fX11_power_L4 (Fu : Nat) : Nat → Int32 → Int64 → Int32 → Option (Int64)
  | 0, _, _, _ => none
  | k + 1, x0, x1, x3 => if (x0 : Int32) ≤ (x3 : Int32) then (some (x1)) else (if (8 : Int32) ≤ (x3 : Int32) then (some (x1)) else ((fX11_power_L4 Fu k) x0 (x1 * 100) (x3 + 1)))
set_option maxHeartbeats 4000000 in
set_option maxRecDepth 100000 in
theorem tX11_power_L4 {G : GT} {b : Nat} {c : Hp} {n : Nat} {Fu : Nat} : ∀ (k : Nat) {x0 : Int32} {x1 : Int64} {x3 : Int32} {R : Int64}, fX11_power_L4 Fu k x0 x1 x3 = some R → E G b yX11_power cX11_power 4 (some .long) (e_rm 0 0 0) e_X0 (e_Z G b (pD (some (.long R)) c n) 0 0) 4 [(0, .int x0), (1, .long x1), (3, .int x3)] [] c n 0 0 := by
  intro k
  induction k with
  | zero =>
    intro _ _ _ _ hf
    have hf : (none : Option (Int64)) = some _ := hf
    cases hf
  | succ k ih =>
    intro x0 x1 x3 R hf
    rw [fX11_power_L4] at hf
    refine E.iload_n 2 dX11_power_4 rfl ?_
    refine E.iload_n 0 dX11_power_5 rfl ?_
    refine E.icmp_ge dX11_power_6 (fun h => ?_) (fun h => ?_)
    · have hf := e_ift hf h
      refine E.lload_n 1 dX11_power_27 rfl ?_
      cases hf
      exact E.lret dX11_power_28 (Nat.le_refl _) (Nat.le_refl _) (pD_rf _ _ _)
    · have hf := e_iff hf h
      refine E.iload_n 2 dX11_power_9 rfl ?_
      refine E.bipush (v := 8) dX11_power_10 (by decide) ?_
      refine E.icmp_ge dX11_power_12 (fun h => ?_) (fun h => ?_)
      · have hf := e_ift hf h
        refine E.lload_n 1 dX11_power_27 rfl ?_
        cases hf
        exact E.lret dX11_power_28 (Nat.le_refl _) (Nat.le_refl _) (pD_rf _ _ _)
      · have hf := e_iff hf h
        refine E.lload_n 1 dX11_power_15 rfl ?_
        refine E.ldc2 dX11_power_16 kX11_381 ?_
        refine E.lmul dX11_power_19 ?_
        refine E.lstore_n (lv' := [(1, .long (x1 * 100)), (0, .int x0), (3, .int x3)]) dX11_power_20 (by decide) rfl ?_
        refine E.iinc (q := 2) (v := (x3 + 1)) (lv' := [(3, .int (x3 + 1)), (1, .long (x1 * 100)), (0, .int x0)]) dX11_power_21 rfl rfl (by decide) rfl ?_
        refine E.goto dX11_power_24 ?_
        refine E.locals [2, 1, 0] rfl ?_
        exact ih hf
def fX11_power (Fu : Nat) (x0 : Int32) : Option (Int64) := fX11_power_L4 Fu Fu x0 1 0
set_option maxHeartbeats 4000000 in
set_option maxRecDepth 100000 in
theorem tX11_power {G : GT} {b : Nat} {c : Hp} {n : Nat} {Fu : Nat} {x0 : Int32} {R : Int64} (hf : fX11_power Fu x0 = some R) : E G b yX11_power cX11_power 4 (some .long) (e_rm 0 0 0) e_X0 (e_Z G b (pD (some (.long R)) c n) 0 0) 0 [(0, .int x0)] [] c n 0 0 := by
  unfold fX11_power at hf
  refine E.lconst (v := 1) dX11_power_0 (by decide) ?_
  refine E.lstore_n (lv' := [(1, .long 1), (0, .int x0)]) dX11_power_1 (by decide) rfl ?_
  refine E.iconst (v := 0) dX11_power_2 (by decide) ?_
  refine E.istore_n (lv' := [(3, .int 0), (1, .long 1), (0, .int x0)]) dX11_power_3 (by decide) rfl ?_
  refine E.locals [2, 1, 0] rfl ?_
  exact tX11_power_L4 _ hf
set_option maxRecDepth 100000 in
theorem mX11_power {G : GT} {b : Nat} {c : Hp} {n : Nat} {Fu : Nat} {x0 : Int32} {R : Int64} (hf : fX11_power Fu x0 = some R) : e_C G b yX11_power cX11_power 4 (some .long) 0 0 0 [.int x0] c n (pD (some (.long R)) c n) := e_C.of (by decide) (Nat.le_of_ble_eq_true rfl) (tX11_power hf)
def fX11_fairest_N_L24 (Fu : Nat) : Nat → Int32 → Int32 → Int32 → Int32 → (Nat → Int32) → (Nat → Int32) → (Nat → Int32) → (Nat → Option Nat) → (Nat → Int32) → Int32 → (Nat → Int64) → Int64 → Int32 → Int64 → Int32 → Option (Int32 × (Nat → Int32) × Int32 × (Nat → Int64))
  | 0, _, _, _, _, _, _, _, _, _, _, _, _, _, _, _ => none
  | k + 1, v1_beasts, v1_seats, v1_laws, v1_inForce, a2, a3, a4, a5, a38, v40_voters, a41, x1, x3, x4, x6 => if (24 : Int32) ≤ (x6 : Int32) then (some (x3, a38, v40_voters, a41)) else ((fX11_tallyBench_N Fu v1_beasts v1_seats v1_laws v1_inForce a2 a3 a4 a5 a38 v40_voters a41 x6 (-1 : Int32)).bind fun r3 => (gd 0 6 ((fX8_atLeast Fu r3.2.1 r3.2.2 (a4 (0 : Int32).toNatClampNeg)).bind fun r5 => (if (x4 : Int64) ≤ ((if (0 : Int64) < ((2 * r5) - x1) then ((2 * r5) - x1) else -((2 * r5) - x1)) : Int64) then ((fX11_fairest_N_L24 Fu k) v1_beasts v1_seats v1_laws v1_inForce a2 a3 a4 a5 r3.1 r3.2.1 r3.2.2 x1 x3 x4 (x6 + 1)) else ((fX11_fairest_N_L24 Fu k) v1_beasts v1_seats v1_laws v1_inForce a2 a3 a4 a5 r3.1 r3.2.1 r3.2.2 x1 x6 (if (0 : Int64) < ((2 * r5) - x1) then ((2 * r5) - x1) else -((2 * r5) - x1)) (x6 + 1))))))
set_option maxHeartbeats 4000000 in
set_option maxRecDepth 100000 in
theorem tX11_fairest_N_L24 {G : GT} {b : Nat} {c0 : Hp} {n : Nat} (hw : e_wf (kW37) n) {v0_faultPlace : Int32} {v0_quashedRows : Int32} {v0_lastRefusal : Int32} {v1_meals : Int32} {v37_height : Int32} {v37_answer : Int64} {Fu : Nat} : ∀ (k : Nat) {v1_beasts : Int32} {v1_seats : Int32} {v1_laws : Int32} {v1_inForce : Int32} {a2 : Nat → Int32} {a3 : Nat → Int32} {a4 : Nat → Int32} {a5 : Nat → Option Nat} {a38 : Nat → Int32} {v40_voters : Int32} {a41 : Nat → Int64} {x1 : Int64} {x3 : Int32} {x4 : Int64} {x6 : Int32} {R : Int32 × (Nat → Int32) × Int32 × (Nat → Int64)}, fX11_fairest_N_L24 Fu k v1_beasts v1_seats v1_laws v1_inForce a2 a3 a4 a5 a38 v40_voters a41 x1 x3 x4 x6 = some R → E G b yX11_fairest cX11_fairest 9 (some .int) (e_rm 5 0 0) e_X0 (e_Z G b (pD (some (.int R.1)) (e_ov (kW37) (wW37 G b v0_faultPlace v0_quashedRows v0_lastRefusal v1_beasts v1_meals v1_seats v1_laws v1_inForce a2 a3 a4 a5 v37_height v37_answer R.2.1 R.2.2.1 R.2.2.2) c0) n) 0 0) 24 [(0, .ref (b + 0)), (1, .long x1), (3, .int x3), (4, .long x4), (6, .int x6)] [] (e_ov (kW37) (wW37 G b v0_faultPlace v0_quashedRows v0_lastRefusal v1_beasts v1_meals v1_seats v1_laws v1_inForce a2 a3 a4 a5 v37_height v37_answer a38 v40_voters a41) c0) n 0 0 := by
  intro k
  induction k with
  | zero =>
    intro _ _ _ _ _ _ _ _ _ _ _ _ _ _ _ _ hf
    have hf : (none : Option (Int32 × (Nat → Int32) × Int32 × (Nat → Int64))) = some _ := hf
    cases hf
  | succ k ih =>
    intro v1_beasts v1_seats v1_laws v1_inForce a2 a3 a4 a5 a38 v40_voters a41 x1 x3 x4 x6 R hf
    rw [fX11_fairest_N_L24] at hf
    refine E.iload 4 dX11_fairest_24 rfl ?_
    refine E.bipush (v := 24) dX11_fairest_26 (by decide) ?_
    refine E.icmp_ge dX11_fairest_28 (fun h => ?_) (fun h => ?_)
    · have hf := e_ift hf h
      refine E.iload_n 2 dX11_fairest_86 rfl ?_
      cases hf
      exact E.iret dX11_fairest_87 (Nat.le_refl _) (Nat.le_refl _) (pD_rf _ _ _)
    · have hf := e_iff hf h
      refine E.aload_n 0 dX11_fairest_31 rfl ?_
      refine E.iload 4 dX11_fairest_32 rfl ?_
      refine E.iconst (v := -1) dX11_fairest_34 (by decide) ?_
      obtain ⟨r3, hc3, hf⟩ := e_bind hf
      refine E.callVD [] dX11_fairest_35 mlX11_212 ⟨hw.sub (p := 0) rfl, e_ov_get hw.1 (p := 0) rfl rfl⟩ rfl rfl (mX11_tallyBench_N hw hc3) ⟨Nat.le_of_ble_eq_true rfl, Nat.le_of_ble_eq_true rfl⟩ rfl rfl (Nat.le_of_ble_eq_true rfl) ⟨Nat.le_refl _, Nat.le_refl _⟩ rfl ?_
      refine E.ldc2 dX11_fairest_38 kX11_238 ?_
      refine E.aload_n 0 dX11_fairest_41 rfl ?_
      refine E.get hw 0 0 dX11_fairest_42 flX11_50 rfl rfl rfl rfl ?_
      refine E.aload_n 0 dX11_fairest_45 rfl ?_
      refine E.get hw 0 0 dX11_fairest_46 flX11_10 rfl rfl rfl rfl ?_
      refine E.getN hw 1 1 dX11_fairest_49 fnX11_149 rfl rfl rfl rfl ?_
      refine E.iconst (v := 0) dX11_fairest_52 (by decide) ?_
      obtain ⟨g4, hf⟩ := gd_some hf
      refine E.iald hw 4 4 dX11_fairest_53 rfl rfl g4 ?_
      obtain ⟨r5, hc5, hf⟩ := e_bind hf
      refine E.callVDs (es' := (wW37 G b v0_faultPlace v0_quashedRows v0_lastRefusal v1_beasts v1_meals v1_seats v1_laws v1_inForce a2 a3 a4 a5 v37_height v37_answer r3.1 r3.2.1 r3.2.2)) [.long 2] [8, 9] 8 40 dX11_fairest_54 mlX11_216 hw rfl rfl rfl rfl (mX8_atLeast (hw.pick2 [8, 9] rfl (by decide)) hc5) rfl rfl rfl rfl ⟨Nat.le_of_ble_eq_true rfl, Nat.le_of_ble_eq_true rfl⟩ rfl rfl (Nat.le_of_ble_eq_true rfl) ⟨Nat.le_refl _, Nat.le_refl _⟩ rfl ?_
      refine E.lmul dX11_fairest_57 ?_
      refine E.lload_n 1 dX11_fairest_58 rfl ?_
      refine E.lsub dX11_fairest_59 ?_
      refine E.mabs_long dX11_fairest_60 mmX11_240 ⟨Nat.le_of_ble_eq_true rfl, Nat.le_of_ble_eq_true rfl⟩ ⟨Nat.le_refl _, Nat.le_refl _⟩ ?_
      refine E.lstore (lv' := [(7, .long (if (0 : Int64) < ((2 * r5) - x1) then ((2 * r5) - x1) else -((2 * r5) - x1))), (0, .ref (b + 0)), (1, .long x1), (3, .int x3), (4, .long x4), (6, .int x6)]) dX11_fairest_63 (by decide) rfl ?_
      refine E.lload 0 dX11_fairest_65 rfl ?_
      refine E.lload 4 dX11_fairest_67 rfl ?_
      refine E.lc_ge dX11_fairest_69 dX11_fairest_70 (fun h => ?_) (fun h => ?_)
      · have hf := e_ift hf h
        refine E.iinc (q := 5) (v := (x6 + 1)) (lv' := [(6, .int (x6 + 1)), (7, .long (if (0 : Int64) < ((2 * r5) - x1) then ((2 * r5) - x1) else -((2 * r5) - x1))), (0, .ref (b + 0)), (1, .long x1), (3, .int x3), (4, .long x4)]) dX11_fairest_80 rfl rfl (by decide) rfl ?_
        refine E.goto dX11_fairest_83 ?_
        refine E.locals [2, 3, 4, 5, 0] rfl ?_
        exact ih hf
      · have hf := e_iff hf h
        refine E.lload 0 dX11_fairest_73 rfl ?_
        refine E.lstore (lv' := [(4, .long (if (0 : Int64) < ((2 * r5) - x1) then ((2 * r5) - x1) else -((2 * r5) - x1))), (7, .long (if (0 : Int64) < ((2 * r5) - x1) then ((2 * r5) - x1) else -((2 * r5) - x1))), (0, .ref (b + 0)), (1, .long x1), (3, .int x3), (6, .int x6)]) dX11_fairest_75 (by decide) rfl ?_
        refine E.iload 5 dX11_fairest_77 rfl ?_
        refine E.istore_n (lv' := [(3, .int x6), (4, .long (if (0 : Int64) < ((2 * r5) - x1) then ((2 * r5) - x1) else -((2 * r5) - x1))), (7, .long (if (0 : Int64) < ((2 * r5) - x1) then ((2 * r5) - x1) else -((2 * r5) - x1))), (0, .ref (b + 0)), (1, .long x1), (6, .int x6)]) dX11_fairest_79 (by decide) rfl ?_
        refine E.iinc (q := 5) (v := (x6 + 1)) (lv' := [(6, .int (x6 + 1)), (3, .int x6), (4, .long (if (0 : Int64) < ((2 * r5) - x1) then ((2 * r5) - x1) else -((2 * r5) - x1))), (7, .long (if (0 : Int64) < ((2 * r5) - x1) then ((2 * r5) - x1) else -((2 * r5) - x1))), (0, .ref (b + 0)), (1, .long x1)]) dX11_fairest_80 rfl rfl (by decide) rfl ?_
        refine E.goto dX11_fairest_83 ?_
        refine E.locals [4, 5, 1, 2, 0] rfl ?_
        exact ih hf
def fX11_fairest_N (Fu : Nat) (v1_beasts : Int32) (v1_seats : Int32) (v1_laws : Int32) (v1_inForce : Int32) (a2 : Nat → Int32) (a3 : Nat → Int32) (a4 : Nat → Int32) (a5 : Nat → Option Nat) (a38 : Nat → Int32) (v40_voters : Int32) (a41 : Nat → Int64) : Option (Int32 × (Nat → Int32) × Int32 × (Nat → Int64)) := (fJ6_bitCount_0f7a4 v1_seats).bind fun r1 => ((fX11_power Fu r1).bind fun r2 => (fX11_fairest_N_L24 Fu Fu v1_beasts v1_seats v1_laws v1_inForce a2 a3 a4 a5 a38 v40_voters a41 r2 0 9223372036854775807 0))
set_option maxHeartbeats 4000000 in
set_option maxRecDepth 100000 in
theorem tX11_fairest_N {G : GT} {b : Nat} {c0 : Hp} {n : Nat} (hw : e_wf (kW37) n) {v0_faultPlace : Int32} {v0_quashedRows : Int32} {v0_lastRefusal : Int32} {v1_meals : Int32} {v37_height : Int32} {v37_answer : Int64} {Fu : Nat} {v1_beasts : Int32} {v1_seats : Int32} {v1_laws : Int32} {v1_inForce : Int32} {a2 : Nat → Int32} {a3 : Nat → Int32} {a4 : Nat → Int32} {a5 : Nat → Option Nat} {a38 : Nat → Int32} {v40_voters : Int32} {a41 : Nat → Int64} {R : Int32 × (Nat → Int32) × Int32 × (Nat → Int64)} (hf : fX11_fairest_N Fu v1_beasts v1_seats v1_laws v1_inForce a2 a3 a4 a5 a38 v40_voters a41 = some R) : E G b yX11_fairest cX11_fairest 9 (some .int) (e_rm 5 0 0) e_X0 (e_Z G b (pD (some (.int R.1)) (e_ov (kW37) (wW37 G b v0_faultPlace v0_quashedRows v0_lastRefusal v1_beasts v1_meals v1_seats v1_laws v1_inForce a2 a3 a4 a5 v37_height v37_answer R.2.1 R.2.2.1 R.2.2.2) c0) n) 0 0) 0 [(0, .ref (b + 0))] [] (e_ov (kW37) (wW37 G b v0_faultPlace v0_quashedRows v0_lastRefusal v1_beasts v1_meals v1_seats v1_laws v1_inForce a2 a3 a4 a5 v37_height v37_answer a38 v40_voters a41) c0) n 0 0 := by
  unfold fX11_fairest_N at hf
  refine E.aload_n 0 dX11_fairest_0 rfl ?_
  refine E.get hw 0 0 dX11_fairest_1 flX11_10 rfl rfl rfl rfl ?_
  refine E.getN hw 1 1 dX11_fairest_4 fnX11_140 rfl rfl rfl rfl ?_
  obtain ⟨r1, hc1, hf⟩ := e_bind hf
  refine E.callSD [] dX11_fairest_7 mlX11_226 (mJ6_bitCount_0f7a4 hc1) ⟨Nat.le_of_ble_eq_true rfl, Nat.le_of_ble_eq_true rfl⟩ rfl rfl (Nat.le_of_ble_eq_true rfl) ⟨Nat.le_refl _, Nat.le_refl _⟩ rfl ?_
  obtain ⟨r2, hc2, hf⟩ := e_bind hf
  refine E.callSD [] dX11_fairest_10 mlX11_231 (mX11_power hc2) ⟨Nat.le_of_ble_eq_true rfl, Nat.le_of_ble_eq_true rfl⟩ rfl rfl (Nat.le_of_ble_eq_true rfl) ⟨Nat.le_refl _, Nat.le_refl _⟩ rfl ?_
  refine E.lstore_n (lv' := [(1, .long r2), (0, .ref (b + 0))]) dX11_fairest_13 (by decide) rfl ?_
  refine E.iconst (v := 0) dX11_fairest_14 (by decide) ?_
  refine E.istore_n (lv' := [(3, .int 0), (1, .long r2), (0, .ref (b + 0))]) dX11_fairest_15 (by decide) rfl ?_
  refine E.ldc2 dX11_fairest_16 kX11_236 ?_
  refine E.lstore (lv' := [(4, .long 9223372036854775807), (3, .int 0), (1, .long r2), (0, .ref (b + 0))]) dX11_fairest_19 (by decide) rfl ?_
  refine E.iconst (v := 0) dX11_fairest_21 (by decide) ?_
  refine E.istore (lv' := [(6, .int 0), (4, .long 9223372036854775807), (3, .int 0), (1, .long r2), (0, .ref (b + 0))]) dX11_fairest_22 (by decide) rfl ?_
  refine E.locals [4, 3, 2, 1, 0] rfl ?_
  exact tX11_fairest_N_L24 hw _ hf
set_option maxRecDepth 100000 in
theorem mX11_fairest_N {G : GT} {b : Nat} {c0 : Hp} {n : Nat} (hw : e_wf (kW37) n) {v0_faultPlace : Int32} {v0_quashedRows : Int32} {v0_lastRefusal : Int32} {v1_meals : Int32} {v37_height : Int32} {v37_answer : Int64} {Fu : Nat} {v1_beasts : Int32} {v1_seats : Int32} {v1_laws : Int32} {v1_inForce : Int32} {a2 : Nat → Int32} {a3 : Nat → Int32} {a4 : Nat → Int32} {a5 : Nat → Option Nat} {a38 : Nat → Int32} {v40_voters : Int32} {a41 : Nat → Int64} {R : Int32 × (Nat → Int32) × Int32 × (Nat → Int64)} (hf : fX11_fairest_N Fu v1_beasts v1_seats v1_laws v1_inForce a2 a3 a4 a5 a38 v40_voters a41 = some R) : e_C G b yX11_fairest cX11_fairest 9 (some .int) 5 0 0 [.ref (b + 0)] (e_ov (kW37) (wW37 G b v0_faultPlace v0_quashedRows v0_lastRefusal v1_beasts v1_meals v1_seats v1_laws v1_inForce a2 a3 a4 a5 v37_height v37_answer a38 v40_voters a41) c0) n (pD (some (.int R.1)) (e_ov (kW37) (wW37 G b v0_faultPlace v0_quashedRows v0_lastRefusal v1_beasts v1_meals v1_seats v1_laws v1_inForce a2 a3 a4 a5 v37_height v37_answer R.2.1 R.2.2.1 R.2.2.2) c0) n) := e_C.of (by decide) (Nat.le_of_ble_eq_true rfl) (tX11_fairest_N hw hf)
def fX11_fairest_L_L24 (Fu : Nat) (nh : Nat) (nt : Nat) (ne : Nat) (ns : Nat) (b q : Nat) : Nat → Int32 → Int32 → Int32 → Int32 → (Nat → Int32) → (Nat → Int32) → (Nat → Int32) → (Nat → Option Nat) → Int32 → Int64 → (Nat → Int32) → (Nat → Int64) → Int32 → (Nat → Int64) → (Nat → Int32) → (Nat → Int32) → (Nat → Int32) → (Nat → Int32) → Int64 → Int32 → Int64 → Int32 → Option (Int32 × Int32 × Int64 × (Nat → Int32) × (Nat → Int64) × Int32 × (Nat → Int64))
  | 0, _, _, _, _, _, _, _, _, _, _, _, _, _, _, _, _, _, _, _, _, _, _ => none
  | k + 1, v1_beasts, v1_seats, v1_laws, v1_inForce, a2, a3, a4, a5, v37_height, v37_answer, a38, a39, v40_voters, a41, aL1, aL2, aL3, aL4, x1, x3, x4, x6 => if (24 : Int32) ≤ (x6 : Int32) then (some (x3, v37_height, v37_answer, a38, a39, v40_voters, a41)) else ((fX11_tallyBench_L Fu nh nt ne ns b q v1_beasts v1_seats v1_laws v1_inForce a2 a3 a4 a5 v37_height v37_answer a38 a39 v40_voters a41 aL1 aL2 aL3 aL4 x6 (-1 : Int32)).bind fun r3 => (gd 0 6 ((fX8_atLeast Fu r3.2.2.2.2.1 r3.2.2.2.2.2 (a4 (0 : Int32).toNatClampNeg)).bind fun r5 => (if (x4 : Int64) ≤ ((if (0 : Int64) < ((2 * r5) - x1) then ((2 * r5) - x1) else -((2 * r5) - x1)) : Int64) then ((fX11_fairest_L_L24 Fu nh nt ne ns b q k) v1_beasts v1_seats v1_laws v1_inForce a2 a3 a4 a5 r3.1 r3.2.1 r3.2.2.1 r3.2.2.2.1 r3.2.2.2.2.1 r3.2.2.2.2.2 aL1 aL2 aL3 aL4 x1 x3 x4 (x6 + 1)) else ((fX11_fairest_L_L24 Fu nh nt ne ns b q k) v1_beasts v1_seats v1_laws v1_inForce a2 a3 a4 a5 r3.1 r3.2.1 r3.2.2.1 r3.2.2.2.1 r3.2.2.2.2.1 r3.2.2.2.2.2 aL1 aL2 aL3 aL4 x1 x6 (if (0 : Int64) < ((2 * r5) - x1) then ((2 * r5) - x1) else -((2 * r5) - x1)) (x6 + 1))))))
set_option maxHeartbeats 4000000 in
set_option maxRecDepth 100000 in
theorem tX11_fairest_L_L24 {G : GT} {b : Nat} {q nh nt ne ns : Nat} {c0 : Hp} {n : Nat} (hw : e_wf (kW38 q) n) {v0_faultPlace : Int32} {v0_quashedRows : Int32} {v0_lastRefusal : Int32} {v1_meals : Int32} {Fu : Nat} : ∀ (k : Nat) {v1_beasts : Int32} {v1_seats : Int32} {v1_laws : Int32} {v1_inForce : Int32} {a2 : Nat → Int32} {a3 : Nat → Int32} {a4 : Nat → Int32} {a5 : Nat → Option Nat} {v37_height : Int32} {v37_answer : Int64} {a38 : Nat → Int32} {a39 : Nat → Int64} {v40_voters : Int32} {a41 : Nat → Int64} {aL1 : Nat → Int32} {aL2 : Nat → Int32} {aL3 : Nat → Int32} {aL4 : Nat → Int32} {x1 : Int64} {x3 : Int32} {x4 : Int64} {x6 : Int32} {R : Int32 × Int32 × Int64 × (Nat → Int32) × (Nat → Int64) × Int32 × (Nat → Int64)}, fX11_fairest_L_L24 Fu nh nt ne ns b q k v1_beasts v1_seats v1_laws v1_inForce a2 a3 a4 a5 v37_height v37_answer a38 a39 v40_voters a41 aL1 aL2 aL3 aL4 x1 x3 x4 x6 = some R → E G b yX11_fairest cX11_fairest 9 (some .int) (e_rm 6 0 0) e_X0 (e_Z G b (pD (some (.int R.1)) (e_ov (kW38 q) (wW38 G b q nh nt ne ns v0_faultPlace v0_quashedRows v0_lastRefusal v1_beasts v1_meals v1_seats v1_laws v1_inForce a2 a3 a4 a5 R.2.1 R.2.2.1 R.2.2.2.1 R.2.2.2.2.1 R.2.2.2.2.2.1 R.2.2.2.2.2.2 aL1 aL2 aL3 aL4) c0) n) 0 0) 24 [(0, .ref (b + 0)), (1, .long x1), (3, .int x3), (4, .long x4), (6, .int x6)] [] (e_ov (kW38 q) (wW38 G b q nh nt ne ns v0_faultPlace v0_quashedRows v0_lastRefusal v1_beasts v1_meals v1_seats v1_laws v1_inForce a2 a3 a4 a5 v37_height v37_answer a38 a39 v40_voters a41 aL1 aL2 aL3 aL4) c0) n 0 0 := by
  intro k
  induction k with
  | zero =>
    intro _ _ _ _ _ _ _ _ _ _ _ _ _ _ _ _ _ _ _ _ _ _ _ hf
    have hf : (none : Option (Int32 × Int32 × Int64 × (Nat → Int32) × (Nat → Int64) × Int32 × (Nat → Int64))) = some _ := hf
    cases hf
  | succ k ih =>
    intro v1_beasts v1_seats v1_laws v1_inForce a2 a3 a4 a5 v37_height v37_answer a38 a39 v40_voters a41 aL1 aL2 aL3 aL4 x1 x3 x4 x6 R hf
    rw [fX11_fairest_L_L24] at hf
    refine E.iload 4 dX11_fairest_24 rfl ?_
    refine E.bipush (v := 24) dX11_fairest_26 (by decide) ?_
    refine E.icmp_ge dX11_fairest_28 (fun h => ?_) (fun h => ?_)
    · have hf := e_ift hf h
      refine E.iload_n 2 dX11_fairest_86 rfl ?_
      cases hf
      exact E.iret dX11_fairest_87 (Nat.le_refl _) (Nat.le_refl _) (pD_rf _ _ _)
    · have hf := e_iff hf h
      refine E.aload_n 0 dX11_fairest_31 rfl ?_
      refine E.iload 4 dX11_fairest_32 rfl ?_
      refine E.iconst (v := -1) dX11_fairest_34 (by decide) ?_
      obtain ⟨r3, hc3, hf⟩ := e_bind hf
      refine E.callVD [] dX11_fairest_35 mlX11_212 ⟨hw.sub (p := 0) rfl, e_ov_get hw.1 (p := 0) rfl rfl⟩ rfl rfl (mX11_tallyBench_L hw hc3) ⟨Nat.le_of_ble_eq_true rfl, Nat.le_of_ble_eq_true rfl⟩ rfl rfl (Nat.le_of_ble_eq_true rfl) ⟨Nat.le_refl _, Nat.le_refl _⟩ rfl ?_
      refine E.ldc2 dX11_fairest_38 kX11_238 ?_
      refine E.aload_n 0 dX11_fairest_41 rfl ?_
      refine E.get hw 0 0 dX11_fairest_42 flX11_50 rfl rfl rfl rfl ?_
      refine E.aload_n 0 dX11_fairest_45 rfl ?_
      refine E.get hw 0 0 dX11_fairest_46 flX11_10 rfl rfl rfl rfl ?_
      refine E.getN hw 1 1 dX11_fairest_49 fnX11_149 rfl rfl rfl rfl ?_
      refine E.iconst (v := 0) dX11_fairest_52 (by decide) ?_
      obtain ⟨g4, hf⟩ := gd_some hf
      refine E.iald hw 4 4 dX11_fairest_53 rfl rfl g4 ?_
      obtain ⟨r5, hc5, hf⟩ := e_bind hf
      refine E.callVDs (es' := (wW38 G b q nh nt ne ns v0_faultPlace v0_quashedRows v0_lastRefusal v1_beasts v1_meals v1_seats v1_laws v1_inForce a2 a3 a4 a5 r3.1 r3.2.1 r3.2.2.1 r3.2.2.2.1 r3.2.2.2.2.1 r3.2.2.2.2.2 aL1 aL2 aL3 aL4)) [.long 2] [9, 10] 9 40 dX11_fairest_54 mlX11_216 hw rfl rfl rfl rfl (mX8_atLeast (hw.pick2 [9, 10] rfl (by decide)) hc5) rfl rfl rfl rfl ⟨Nat.le_of_ble_eq_true rfl, Nat.le_of_ble_eq_true rfl⟩ rfl rfl (Nat.le_of_ble_eq_true rfl) ⟨Nat.le_refl _, Nat.le_refl _⟩ rfl ?_
      refine E.lmul dX11_fairest_57 ?_
      refine E.lload_n 1 dX11_fairest_58 rfl ?_
      refine E.lsub dX11_fairest_59 ?_
      refine E.mabs_long dX11_fairest_60 mmX11_240 ⟨Nat.le_of_ble_eq_true rfl, Nat.le_of_ble_eq_true rfl⟩ ⟨Nat.le_refl _, Nat.le_refl _⟩ ?_
      refine E.lstore (lv' := [(7, .long (if (0 : Int64) < ((2 * r5) - x1) then ((2 * r5) - x1) else -((2 * r5) - x1))), (0, .ref (b + 0)), (1, .long x1), (3, .int x3), (4, .long x4), (6, .int x6)]) dX11_fairest_63 (by decide) rfl ?_
      refine E.lload 0 dX11_fairest_65 rfl ?_
      refine E.lload 4 dX11_fairest_67 rfl ?_
      refine E.lc_ge dX11_fairest_69 dX11_fairest_70 (fun h => ?_) (fun h => ?_)
      · have hf := e_ift hf h
        refine E.iinc (q := 5) (v := (x6 + 1)) (lv' := [(6, .int (x6 + 1)), (7, .long (if (0 : Int64) < ((2 * r5) - x1) then ((2 * r5) - x1) else -((2 * r5) - x1))), (0, .ref (b + 0)), (1, .long x1), (3, .int x3), (4, .long x4)]) dX11_fairest_80 rfl rfl (by decide) rfl ?_
        refine E.goto dX11_fairest_83 ?_
        refine E.locals [2, 3, 4, 5, 0] rfl ?_
        exact ih hf
      · have hf := e_iff hf h
        refine E.lload 0 dX11_fairest_73 rfl ?_
        refine E.lstore (lv' := [(4, .long (if (0 : Int64) < ((2 * r5) - x1) then ((2 * r5) - x1) else -((2 * r5) - x1))), (7, .long (if (0 : Int64) < ((2 * r5) - x1) then ((2 * r5) - x1) else -((2 * r5) - x1))), (0, .ref (b + 0)), (1, .long x1), (3, .int x3), (6, .int x6)]) dX11_fairest_75 (by decide) rfl ?_
        refine E.iload 5 dX11_fairest_77 rfl ?_
        refine E.istore_n (lv' := [(3, .int x6), (4, .long (if (0 : Int64) < ((2 * r5) - x1) then ((2 * r5) - x1) else -((2 * r5) - x1))), (7, .long (if (0 : Int64) < ((2 * r5) - x1) then ((2 * r5) - x1) else -((2 * r5) - x1))), (0, .ref (b + 0)), (1, .long x1), (6, .int x6)]) dX11_fairest_79 (by decide) rfl ?_
        refine E.iinc (q := 5) (v := (x6 + 1)) (lv' := [(6, .int (x6 + 1)), (3, .int x6), (4, .long (if (0 : Int64) < ((2 * r5) - x1) then ((2 * r5) - x1) else -((2 * r5) - x1))), (7, .long (if (0 : Int64) < ((2 * r5) - x1) then ((2 * r5) - x1) else -((2 * r5) - x1))), (0, .ref (b + 0)), (1, .long x1)]) dX11_fairest_80 rfl rfl (by decide) rfl ?_
        refine E.goto dX11_fairest_83 ?_
        refine E.locals [4, 5, 1, 2, 0] rfl ?_
        exact ih hf
def fX11_fairest_L (Fu : Nat) (nh : Nat) (nt : Nat) (ne : Nat) (ns : Nat) (b q : Nat) (v1_beasts : Int32) (v1_seats : Int32) (v1_laws : Int32) (v1_inForce : Int32) (a2 : Nat → Int32) (a3 : Nat → Int32) (a4 : Nat → Int32) (a5 : Nat → Option Nat) (v37_height : Int32) (v37_answer : Int64) (a38 : Nat → Int32) (a39 : Nat → Int64) (v40_voters : Int32) (a41 : Nat → Int64) (aL1 : Nat → Int32) (aL2 : Nat → Int32) (aL3 : Nat → Int32) (aL4 : Nat → Int32) : Option (Int32 × Int32 × Int64 × (Nat → Int32) × (Nat → Int64) × Int32 × (Nat → Int64)) := (fJ6_bitCount_0f7a4 v1_seats).bind fun r1 => ((fX11_power Fu r1).bind fun r2 => (fX11_fairest_L_L24 Fu nh nt ne ns b q Fu v1_beasts v1_seats v1_laws v1_inForce a2 a3 a4 a5 v37_height v37_answer a38 a39 v40_voters a41 aL1 aL2 aL3 aL4 r2 0 9223372036854775807 0))
set_option maxHeartbeats 4000000 in
set_option maxRecDepth 100000 in
theorem tX11_fairest_L {G : GT} {b : Nat} {q nh nt ne ns : Nat} {c0 : Hp} {n : Nat} (hw : e_wf (kW38 q) n) {v0_faultPlace : Int32} {v0_quashedRows : Int32} {v0_lastRefusal : Int32} {v1_meals : Int32} {Fu : Nat} {v1_beasts : Int32} {v1_seats : Int32} {v1_laws : Int32} {v1_inForce : Int32} {a2 : Nat → Int32} {a3 : Nat → Int32} {a4 : Nat → Int32} {a5 : Nat → Option Nat} {v37_height : Int32} {v37_answer : Int64} {a38 : Nat → Int32} {a39 : Nat → Int64} {v40_voters : Int32} {a41 : Nat → Int64} {aL1 : Nat → Int32} {aL2 : Nat → Int32} {aL3 : Nat → Int32} {aL4 : Nat → Int32} {R : Int32 × Int32 × Int64 × (Nat → Int32) × (Nat → Int64) × Int32 × (Nat → Int64)} (hf : fX11_fairest_L Fu nh nt ne ns b q v1_beasts v1_seats v1_laws v1_inForce a2 a3 a4 a5 v37_height v37_answer a38 a39 v40_voters a41 aL1 aL2 aL3 aL4 = some R) : E G b yX11_fairest cX11_fairest 9 (some .int) (e_rm 6 0 0) e_X0 (e_Z G b (pD (some (.int R.1)) (e_ov (kW38 q) (wW38 G b q nh nt ne ns v0_faultPlace v0_quashedRows v0_lastRefusal v1_beasts v1_meals v1_seats v1_laws v1_inForce a2 a3 a4 a5 R.2.1 R.2.2.1 R.2.2.2.1 R.2.2.2.2.1 R.2.2.2.2.2.1 R.2.2.2.2.2.2 aL1 aL2 aL3 aL4) c0) n) 0 0) 0 [(0, .ref (b + 0))] [] (e_ov (kW38 q) (wW38 G b q nh nt ne ns v0_faultPlace v0_quashedRows v0_lastRefusal v1_beasts v1_meals v1_seats v1_laws v1_inForce a2 a3 a4 a5 v37_height v37_answer a38 a39 v40_voters a41 aL1 aL2 aL3 aL4) c0) n 0 0 := by
  unfold fX11_fairest_L at hf
  refine E.aload_n 0 dX11_fairest_0 rfl ?_
  refine E.get hw 0 0 dX11_fairest_1 flX11_10 rfl rfl rfl rfl ?_
  refine E.getN hw 1 1 dX11_fairest_4 fnX11_140 rfl rfl rfl rfl ?_
  obtain ⟨r1, hc1, hf⟩ := e_bind hf
  refine E.callSD [] dX11_fairest_7 mlX11_226 (mJ6_bitCount_0f7a4 hc1) ⟨Nat.le_of_ble_eq_true rfl, Nat.le_of_ble_eq_true rfl⟩ rfl rfl (Nat.le_of_ble_eq_true rfl) ⟨Nat.le_refl _, Nat.le_refl _⟩ rfl ?_
  obtain ⟨r2, hc2, hf⟩ := e_bind hf
  refine E.callSD [] dX11_fairest_10 mlX11_231 (mX11_power hc2) ⟨Nat.le_of_ble_eq_true rfl, Nat.le_of_ble_eq_true rfl⟩ rfl rfl (Nat.le_of_ble_eq_true rfl) ⟨Nat.le_refl _, Nat.le_refl _⟩ rfl ?_
  refine E.lstore_n (lv' := [(1, .long r2), (0, .ref (b + 0))]) dX11_fairest_13 (by decide) rfl ?_
  refine E.iconst (v := 0) dX11_fairest_14 (by decide) ?_
  refine E.istore_n (lv' := [(3, .int 0), (1, .long r2), (0, .ref (b + 0))]) dX11_fairest_15 (by decide) rfl ?_
  refine E.ldc2 dX11_fairest_16 kX11_236 ?_
  refine E.lstore (lv' := [(4, .long 9223372036854775807), (3, .int 0), (1, .long r2), (0, .ref (b + 0))]) dX11_fairest_19 (by decide) rfl ?_
  refine E.iconst (v := 0) dX11_fairest_21 (by decide) ?_
  refine E.istore (lv' := [(6, .int 0), (4, .long 9223372036854775807), (3, .int 0), (1, .long r2), (0, .ref (b + 0))]) dX11_fairest_22 (by decide) rfl ?_
  refine E.locals [4, 3, 2, 1, 0] rfl ?_
  exact tX11_fairest_L_L24 hw _ hf
set_option maxRecDepth 100000 in
theorem mX11_fairest_L {G : GT} {b : Nat} {q nh nt ne ns : Nat} {c0 : Hp} {n : Nat} (hw : e_wf (kW38 q) n) {v0_faultPlace : Int32} {v0_quashedRows : Int32} {v0_lastRefusal : Int32} {v1_meals : Int32} {Fu : Nat} {v1_beasts : Int32} {v1_seats : Int32} {v1_laws : Int32} {v1_inForce : Int32} {a2 : Nat → Int32} {a3 : Nat → Int32} {a4 : Nat → Int32} {a5 : Nat → Option Nat} {v37_height : Int32} {v37_answer : Int64} {a38 : Nat → Int32} {a39 : Nat → Int64} {v40_voters : Int32} {a41 : Nat → Int64} {aL1 : Nat → Int32} {aL2 : Nat → Int32} {aL3 : Nat → Int32} {aL4 : Nat → Int32} {R : Int32 × Int32 × Int64 × (Nat → Int32) × (Nat → Int64) × Int32 × (Nat → Int64)} (hf : fX11_fairest_L Fu nh nt ne ns b q v1_beasts v1_seats v1_laws v1_inForce a2 a3 a4 a5 v37_height v37_answer a38 a39 v40_voters a41 aL1 aL2 aL3 aL4 = some R) : e_C G b yX11_fairest cX11_fairest 9 (some .int) 6 0 0 [.ref (b + 0)] (e_ov (kW38 q) (wW38 G b q nh nt ne ns v0_faultPlace v0_quashedRows v0_lastRefusal v1_beasts v1_meals v1_seats v1_laws v1_inForce a2 a3 a4 a5 v37_height v37_answer a38 a39 v40_voters a41 aL1 aL2 aL3 aL4) c0) n (pD (some (.int R.1)) (e_ov (kW38 q) (wW38 G b q nh nt ne ns v0_faultPlace v0_quashedRows v0_lastRefusal v1_beasts v1_meals v1_seats v1_laws v1_inForce a2 a3 a4 a5 R.2.1 R.2.2.1 R.2.2.2.1 R.2.2.2.2.1 R.2.2.2.2.2.1 R.2.2.2.2.2.2 aL1 aL2 aL3 aL4) c0) n) := e_C.of (by decide) (Nat.le_of_ble_eq_true rfl) (tX11_fairest_L hw hf)
abbrev kW40 (t : Nat) : List Nat := [t, (t + 1)]
abbrev wW40 (G : GT) (b t : Nat) (aT1 : Nat → Int64) : List va_E := [.inr (4, [.ref (b + (t + 1))]), aJ G 48 aT1]
def fX4_become_L5 (Fu : Nat) : Nat → (Nat → Int64) → Int64 → Int32 → Option ((Nat → Int64))
  | 0, _, _, _ => none
  | k + 1, aT1, x3, x5 => if (48 : Int32) ≤ (x5 : Int32) then (some (aT1)) else (gzl 100 (gd x5 48 (gzl 100 ((fX4_become_L5 Fu k) (va_up aT1 (x5 : Int32).toNatClampNeg (x3 - x3 / 100 * 100)) (x3 / 100) (x5 + 1)))))
set_option maxHeartbeats 4000000 in
set_option maxRecDepth 100000 in
theorem tX4_become_L5 {G : GT} {b : Nat} {t : Nat} {c0 : Hp} {n : Nat} (hw : e_wf (kW40 t) n)  {Fu : Nat} : ∀ (k : Nat) {aT1 : Nat → Int64} {x3 : Int64} {x5 : Int32} {R : (Nat → Int64)}, fX4_become_L5 Fu k aT1 x3 x5 = some R → E G b yX4_become cX4_become 6 none (e_rm 0 0 0) e_X0 (e_Z G b (pD none (e_ov (kW40 t) (wW40 G b t R) c0) n) 0 0) 5 [(0, .ref (b + t)), (3, .long x3), (5, .int x5)] [] (e_ov (kW40 t) (wW40 G b t aT1) c0) n 0 0 := by
  intro k
  induction k with
  | zero =>
    intro _ _ _ _ hf
    have hf : (none : Option ((Nat → Int64))) = some _ := hf
    cases hf
  | succ k ih =>
    intro aT1 x3 x5 R hf
    rw [fX4_become_L5] at hf
    refine E.iload 2 dX4_become_5 rfl ?_
    refine E.bipush (v := 48) dX4_become_7 (by decide) ?_
    refine E.icmp_ge dX4_become_9 (fun h => ?_) (fun h => ?_)
    · have hf := e_ift hf h
      cases hf
      exact E.vret dX4_become_36 (Nat.le_refl _) (Nat.le_refl _) (pD_rf _ _ _)
    · have hf := e_iff hf h
      refine E.aload_n 0 dX4_become_12 rfl ?_
      refine E.get hw 0 t dX4_become_13 flX4_9 rfl rfl rfl rfl ?_
      refine E.iload 2 dX4_become_16 rfl ?_
      refine E.lload_n 1 dX4_become_18 rfl ?_
      refine E.ldc2 dX4_become_19 kX4_13 ?_
      obtain ⟨g1, hf⟩ := gzl_some hf
      refine E.lrem dX4_become_22 g1 ?_
      obtain ⟨g2, hf⟩ := gd_some hf
      refine E.last (es' := (wW40 G b t (va_up aT1 (x5 : Int32).toNatClampNeg (x3 - x3 / 100 * 100)))) hw 1 (t + 1) dX4_become_23 rfl rfl g2 rfl ?_
      refine E.lload_n 1 dX4_become_24 rfl ?_
      refine E.ldc2 dX4_become_25 kX4_13 ?_
      obtain ⟨g3, hf⟩ := gzl_some hf
      refine E.ldiv dX4_become_28 g3 ?_
      refine E.lstore_n (lv' := [(3, .long (x3 / 100)), (0, .ref (b + t)), (5, .int x5)]) dX4_become_29 (by decide) rfl ?_
      refine E.iinc (q := 2) (v := (x5 + 1)) (lv' := [(5, .int (x5 + 1)), (3, .long (x3 / 100)), (0, .ref (b + t))]) dX4_become_30 rfl rfl (by decide) rfl ?_
      refine E.goto dX4_become_33 ?_
      refine E.locals [2, 1, 0] rfl ?_
      exact ih hf
def fX4_become (Fu : Nat) (aT1 : Nat → Int64) (x1 : Int64) : Option ((Nat → Int64)) := fX4_become_L5 Fu Fu aT1 x1 0
set_option maxHeartbeats 4000000 in
set_option maxRecDepth 100000 in
theorem tX4_become {G : GT} {b : Nat} {t : Nat} {c0 : Hp} {n : Nat} (hw : e_wf (kW40 t) n)  {Fu : Nat} {aT1 : Nat → Int64} {x1 : Int64} {R : (Nat → Int64)} (hf : fX4_become Fu aT1 x1 = some R) : E G b yX4_become cX4_become 6 none (e_rm 0 0 0) e_X0 (e_Z G b (pD none (e_ov (kW40 t) (wW40 G b t R) c0) n) 0 0) 0 [(0, .ref (b + t)), (1, .long x1)] [] (e_ov (kW40 t) (wW40 G b t aT1) c0) n 0 0 := by
  unfold fX4_become at hf
  refine E.lload_n 1 dX4_become_0 rfl ?_
  refine E.lstore_n (lv' := [(3, .long x1), (0, .ref (b + t)), (1, .long x1)]) dX4_become_1 (by decide) rfl ?_
  refine E.iconst (v := 0) dX4_become_2 (by decide) ?_
  refine E.istore (lv' := [(5, .int 0), (3, .long x1), (0, .ref (b + t)), (1, .long x1)]) dX4_become_3 (by decide) rfl ?_
  refine E.locals [2, 1, 0] rfl ?_
  exact tX4_become_L5 hw _ hf
set_option maxRecDepth 100000 in
theorem mX4_become {G : GT} {b : Nat} {t : Nat} {c0 : Hp} {n : Nat} (hw : e_wf (kW40 t) n)  {Fu : Nat} {aT1 : Nat → Int64} {x1 : Int64} {R : (Nat → Int64)} (hf : fX4_become Fu aT1 x1 = some R) : e_C G b yX4_become cX4_become 6 none 0 0 0 [.ref (b + t), .long x1] (e_ov (kW40 t) (wW40 G b t aT1) c0) n (pD none (e_ov (kW40 t) (wW40 G b t R) c0) n) := e_C.of (by decide) (Nat.le_of_ble_eq_true rfl) (tX4_become hw hf)
def fX4_millionths_L35 (Fu : Nat) (k4 : (Nat → Int64) → Int32 → Int32 → Int32 → Option (Int32)) (aT1 : Nat → Int64) (x1 : Int32) (x3 : Int32) (s0 : Int32) : Option (Int32) := k4 aT1 x1 (s0 + 0) (x3 + (-1 : Int32))
set_option maxHeartbeats 4000000 in
set_option maxRecDepth 100000 in
theorem tX4_millionths_L35 {G : GT} {b : Nat} {t : Nat} {c0 : Hp} {n : Nat} (hw : e_wf (kW40 t) n)  {Fu : Nat} {k4 : (Nat → Int64) → Int32 → Int32 → Int32 → Option (Int32)} (hk4 : ∀ {aT1 : Nat → Int64} {x1 : Int32} {x2 : Int32} {x3 : Int32} {R : Int32}, k4 aT1 x1 x2 x3 = some R → E G b yX4_millionths cX4_millionths 4 (some .int) (e_rm 0 0 0) e_X0 (e_Z G b (pD (some (.int R)) (e_ov (kW40 t) (wW40 G b t aT1) c0) n) 0 0) 4 [(0, .ref (b + t)), (1, .int x1), (2, .int x2), (3, .int x3)] [] (e_ov (kW40 t) (wW40 G b t aT1) c0) n 0 0) {aT1 : Nat → Int64} {x1 : Int32} {x3 : Int32} {s0 : Int32} {R : Int32} (hf : fX4_millionths_L35 Fu k4 aT1 x1 x3 s0 = some R) : E G b yX4_millionths cX4_millionths 4 (some .int) (e_rm 0 0 0) e_X0 (e_Z G b (pD (some (.int R)) (e_ov (kW40 t) (wW40 G b t aT1) c0) n) 0 0) 35 [(0, .ref (b + t)), (1, .int x1), (3, .int x3)] [.int s0] (e_ov (kW40 t) (wW40 G b t aT1) c0) n 0 0 := by
  unfold fX4_millionths_L35 at hf
  refine E.iconst (v := 0) dX4_millionths_35 (by decide) ?_
  refine E.iadd dX4_millionths_36 ?_
  refine E.istore_n (lv' := [(2, .int (s0 + 0)), (0, .ref (b + t)), (1, .int x1), (3, .int x3)]) dX4_millionths_37 (by decide) rfl ?_
  refine E.iinc (q := 3) (v := (x3 + (-1 : Int32))) (lv' := [(3, .int (x3 + (-1 : Int32))), (2, .int (s0 + 0)), (0, .ref (b + t)), (1, .int x1)]) dX4_millionths_38 rfl rfl (by decide) rfl ?_
  refine E.goto dX4_millionths_41 ?_
  refine E.locals [2, 3, 1, 0] rfl ?_
  exact hk4 hf
def fX4_millionths_L4 (Fu : Nat) : Nat → (Nat → Int64) → Int32 → Int32 → Int32 → Option (Int32)
  | 0, _, _, _, _ => none
  | k + 1, aT1, x1, x2, x3 => if (x3 : Int32) < ((x1 - 3) : Int32) then (some (x2)) else (if (x3 : Int32) < (0 : Int32) then (fX4_millionths_L35 Fu (fX4_millionths_L4 Fu k) aT1 x1 x3 (x2 * 100)) else (if (48 : Int32) ≤ (x3 : Int32) then (fX4_millionths_L35 Fu (fX4_millionths_L4 Fu k) aT1 x1 x3 (x2 * 100)) else (gd x3 48 ((fX4_millionths_L4 Fu k) aT1 x1 ((x2 * 100) + (((aT1 (x3 : Int32).toNatClampNeg) : Int64).toInt32)) (x3 + (-1 : Int32))))))
set_option maxHeartbeats 4000000 in
set_option maxRecDepth 100000 in
theorem tX4_millionths_L4 {G : GT} {b : Nat} {t : Nat} {c0 : Hp} {n : Nat} (hw : e_wf (kW40 t) n)  {Fu : Nat} : ∀ (k : Nat) {aT1 : Nat → Int64} {x1 : Int32} {x2 : Int32} {x3 : Int32} {R : Int32}, fX4_millionths_L4 Fu k aT1 x1 x2 x3 = some R → E G b yX4_millionths cX4_millionths 4 (some .int) (e_rm 0 0 0) e_X0 (e_Z G b (pD (some (.int R)) (e_ov (kW40 t) (wW40 G b t aT1) c0) n) 0 0) 4 [(0, .ref (b + t)), (1, .int x1), (2, .int x2), (3, .int x3)] [] (e_ov (kW40 t) (wW40 G b t aT1) c0) n 0 0 := by
  intro k
  induction k with
  | zero =>
    intro _ _ _ _ _ hf
    have hf : (none : Option (Int32)) = some _ := hf
    cases hf
  | succ k ih =>
    intro aT1 x1 x2 x3 R hf
    rw [fX4_millionths_L4] at hf
    refine E.iload_n 3 dX4_millionths_4 rfl ?_
    refine E.iload_n 1 dX4_millionths_5 rfl ?_
    refine E.iconst (v := 3) dX4_millionths_6 (by decide) ?_
    refine E.isub dX4_millionths_7 ?_
    refine E.icmp_lt dX4_millionths_8 (fun h => ?_) (fun h => ?_)
    · have hf := e_ift hf h
      refine E.iload_n 2 dX4_millionths_44 rfl ?_
      cases hf
      exact E.iret dX4_millionths_45 (Nat.le_refl _) (Nat.le_refl _) (pD_rf _ _ _)
    · have hf := e_iff hf h
      refine E.iload_n 2 dX4_millionths_11 rfl ?_
      refine E.bipush (v := 100) dX4_millionths_12 (by decide) ?_
      refine E.imul dX4_millionths_14 ?_
      refine E.iload_n 3 dX4_millionths_15 rfl ?_
      refine E.if_lt dX4_millionths_16 (fun h => ?_) (fun h => ?_)
      · have hf := e_ift hf h
        refine E.locals [0, 1, 3] rfl ?_
        exact tX4_millionths_L35 hw ih hf
      · have hf := e_iff hf h
        refine E.iload_n 3 dX4_millionths_19 rfl ?_
        refine E.bipush (v := 48) dX4_millionths_20 (by decide) ?_
        refine E.icmp_ge dX4_millionths_22 (fun h => ?_) (fun h => ?_)
        · have hf := e_ift hf h
          refine E.locals [0, 1, 3] rfl ?_
          exact tX4_millionths_L35 hw ih hf
        · have hf := e_iff hf h
          refine E.aload_n 0 dX4_millionths_25 rfl ?_
          refine E.get hw 0 t dX4_millionths_26 flX4_9 rfl rfl rfl rfl ?_
          refine E.iload_n 3 dX4_millionths_29 rfl ?_
          obtain ⟨g1, hf⟩ := gd_some hf
          refine E.lald hw 1 (t + 1) dX4_millionths_30 rfl rfl g1 ?_
          refine E.l2i dX4_millionths_31 ?_
          refine E.goto dX4_millionths_32 ?_
          refine E.iadd dX4_millionths_36 ?_
          refine E.istore_n (lv' := [(2, .int ((x2 * 100) + (((aT1 (x3 : Int32).toNatClampNeg) : Int64).toInt32))), (0, .ref (b + t)), (1, .int x1), (3, .int x3)]) dX4_millionths_37 (by decide) rfl ?_
          refine E.iinc (q := 3) (v := (x3 + (-1 : Int32))) (lv' := [(3, .int (x3 + (-1 : Int32))), (2, .int ((x2 * 100) + (((aT1 (x3 : Int32).toNatClampNeg) : Int64).toInt32))), (0, .ref (b + t)), (1, .int x1)]) dX4_millionths_38 rfl rfl (by decide) rfl ?_
          refine E.goto dX4_millionths_41 ?_
          refine E.locals [2, 3, 1, 0] rfl ?_
          exact ih hf
def fX4_millionths (Fu : Nat) (aT1 : Nat → Int64) (x1 : Int32) : Option (Int32) := fX4_millionths_L4 Fu Fu aT1 x1 0 x1
set_option maxHeartbeats 4000000 in
set_option maxRecDepth 100000 in
theorem tX4_millionths {G : GT} {b : Nat} {t : Nat} {c0 : Hp} {n : Nat} (hw : e_wf (kW40 t) n)  {Fu : Nat} {aT1 : Nat → Int64} {x1 : Int32} {R : Int32} (hf : fX4_millionths Fu aT1 x1 = some R) : E G b yX4_millionths cX4_millionths 4 (some .int) (e_rm 0 0 0) e_X0 (e_Z G b (pD (some (.int R)) (e_ov (kW40 t) (wW40 G b t aT1) c0) n) 0 0) 0 [(0, .ref (b + t)), (1, .int x1)] [] (e_ov (kW40 t) (wW40 G b t aT1) c0) n 0 0 := by
  unfold fX4_millionths at hf
  refine E.iconst (v := 0) dX4_millionths_0 (by decide) ?_
  refine E.istore_n (lv' := [(2, .int 0), (0, .ref (b + t)), (1, .int x1)]) dX4_millionths_1 (by decide) rfl ?_
  refine E.iload_n 2 dX4_millionths_2 rfl ?_
  refine E.istore_n (lv' := [(3, .int x1), (2, .int 0), (0, .ref (b + t)), (1, .int x1)]) dX4_millionths_3 (by decide) rfl ?_
  refine E.locals [2, 3, 1, 0] rfl ?_
  exact tX4_millionths_L4 hw _ hf
set_option maxRecDepth 100000 in
theorem mX4_millionths {G : GT} {b : Nat} {t : Nat} {c0 : Hp} {n : Nat} (hw : e_wf (kW40 t) n)  {Fu : Nat} {aT1 : Nat → Int64} {x1 : Int32} {R : Int32} (hf : fX4_millionths Fu aT1 x1 = some R) : e_C G b yX4_millionths cX4_millionths 4 (some .int) 0 0 0 [.ref (b + t), .int x1] (e_ov (kW40 t) (wW40 G b t aT1) c0) n (pD (some (.int R)) (e_ov (kW40 t) (wW40 G b t aT1) c0) n) := e_C.of (by decide) (Nat.le_of_ble_eq_true rfl) (tX4_millionths hw hf)
def fX11_ways_L4 (Fu : Nat) : Nat → Int32 → Int32 → Int32 → Int32 → Option (Int32)
  | 0, _, _, _, _ => none
  | k + 1, x0, x1, x2, x3 => if (x1 : Int32) < (x3 : Int32) then (some (x2)) else (gz x3 ((fX11_ways_L4 Fu k) x0 x1 ((x2 * ((x0 - x3) + 1)) / x3) (x3 + 1)))
set_option maxHeartbeats 4000000 in
set_option maxRecDepth 100000 in
theorem tX11_ways_L4 {G : GT} {b : Nat} {c : Hp} {n : Nat} {Fu : Nat} : ∀ (k : Nat) {x0 : Int32} {x1 : Int32} {x2 : Int32} {x3 : Int32} {R : Int32}, fX11_ways_L4 Fu k x0 x1 x2 x3 = some R → E G b yX11_ways cX11_ways 4 (some .int) (e_rm 0 0 0) e_X0 (e_Z G b (pD (some (.int R)) c n) 0 0) 4 [(0, .int x0), (1, .int x1), (2, .int x2), (3, .int x3)] [] c n 0 0 := by
  intro k
  induction k with
  | zero =>
    intro _ _ _ _ _ hf
    have hf : (none : Option (Int32)) = some _ := hf
    cases hf
  | succ k ih =>
    intro x0 x1 x2 x3 R hf
    rw [fX11_ways_L4] at hf
    refine E.iload_n 3 dX11_ways_4 rfl ?_
    refine E.iload_n 1 dX11_ways_5 rfl ?_
    refine E.icmp_gt dX11_ways_6 (fun h => ?_) (fun h => ?_)
    · have hf := e_ift hf h
      refine E.iload_n 2 dX11_ways_25 rfl ?_
      cases hf
      exact E.iret dX11_ways_26 (Nat.le_refl _) (Nat.le_refl _) (pD_rf _ _ _)
    · have hf := e_iff hf h
      refine E.iload_n 2 dX11_ways_9 rfl ?_
      refine E.iload_n 0 dX11_ways_10 rfl ?_
      refine E.iload_n 3 dX11_ways_11 rfl ?_
      refine E.isub dX11_ways_12 ?_
      refine E.iconst (v := 1) dX11_ways_13 (by decide) ?_
      refine E.iadd dX11_ways_14 ?_
      refine E.imul dX11_ways_15 ?_
      refine E.iload_n 3 dX11_ways_16 rfl ?_
      obtain ⟨g1, hf⟩ := gz_some hf
      refine E.idiv dX11_ways_17 g1 ?_
      refine E.istore_n (lv' := [(2, .int ((x2 * ((x0 - x3) + 1)) / x3)), (0, .int x0), (1, .int x1), (3, .int x3)]) dX11_ways_18 (by decide) rfl ?_
      refine E.iinc (q := 3) (v := (x3 + 1)) (lv' := [(3, .int (x3 + 1)), (2, .int ((x2 * ((x0 - x3) + 1)) / x3)), (0, .int x0), (1, .int x1)]) dX11_ways_19 rfl rfl (by decide) rfl ?_
      refine E.goto dX11_ways_22 ?_
      refine E.locals [2, 3, 1, 0] rfl ?_
      exact ih hf
def fX11_ways (Fu : Nat) (x0 : Int32) (x1 : Int32) : Option (Int32) := fX11_ways_L4 Fu Fu x0 x1 1 1
set_option maxHeartbeats 4000000 in
set_option maxRecDepth 100000 in
theorem tX11_ways {G : GT} {b : Nat} {c : Hp} {n : Nat} {Fu : Nat} {x0 : Int32} {x1 : Int32} {R : Int32} (hf : fX11_ways Fu x0 x1 = some R) : E G b yX11_ways cX11_ways 4 (some .int) (e_rm 0 0 0) e_X0 (e_Z G b (pD (some (.int R)) c n) 0 0) 0 [(0, .int x0), (1, .int x1)] [] c n 0 0 := by
  unfold fX11_ways at hf
  refine E.iconst (v := 1) dX11_ways_0 (by decide) ?_
  refine E.istore_n (lv' := [(2, .int 1), (0, .int x0), (1, .int x1)]) dX11_ways_1 (by decide) rfl ?_
  refine E.iconst (v := 1) dX11_ways_2 (by decide) ?_
  refine E.istore_n (lv' := [(3, .int 1), (2, .int 1), (0, .int x0), (1, .int x1)]) dX11_ways_3 (by decide) rfl ?_
  refine E.locals [2, 3, 1, 0] rfl ?_
  exact tX11_ways_L4 _ hf
set_option maxRecDepth 100000 in
theorem mX11_ways {G : GT} {b : Nat} {c : Hp} {n : Nat} {Fu : Nat} {x0 : Int32} {x1 : Int32} {R : Int32} (hf : fX11_ways Fu x0 x1 = some R) : e_C G b yX11_ways cX11_ways 4 (some .int) 0 0 0 [.int x0, .int x1] c n (pD (some (.int R)) c n) := e_C.of (by decide) (Nat.le_of_ble_eq_true rfl) (tX11_ways hf)
abbrev kW39 (t u : Nat) : List Nat := [t, (t + 1), u, (u + 1)]
abbrev wW39 (G : GT) (b t u : Nat) (aT1 : Nat → Int64) (aU1 : Nat → Int64) : List va_E := [.inr (4, [.ref (b + (t + 1))]), aJ G 48 aT1, .inr (4, [.ref (b + (u + 1))]), aJ G 48 aU1]
def fX4_increase_L5 (Fu : Nat) : Nat → (Nat → Int64) → (Nat → Int64) → Int64 → Int32 → Option ((Nat → Int64))
  | 0, _, _, _, _ => none
  | k + 1, aT1, aU1, x2, x4 => if (48 : Int32) ≤ (x4 : Int32) then (some (aT1)) else (gd x4 48 (gd x4 48 (gzl 100 (gd x4 48 (gzl 100 ((fX4_increase_L5 Fu k) (va_up aT1 (x4 : Int32).toNatClampNeg ((((aT1 (x4 : Int32).toNatClampNeg) + (aU1 (x4 : Int32).toNatClampNeg)) + x2) - (((aT1 (x4 : Int32).toNatClampNeg) + (aU1 (x4 : Int32).toNatClampNeg)) + x2) / 100 * 100)) aU1 ((((aT1 (x4 : Int32).toNatClampNeg) + (aU1 (x4 : Int32).toNatClampNeg)) + x2) / 100) (x4 + 1)))))))
set_option maxHeartbeats 4000000 in
set_option maxRecDepth 100000 in
theorem tX4_increase_L5 {G : GT} {b : Nat} {t u : Nat} {c0 : Hp} {n : Nat} (hw : e_wf (kW39 t u) n)  {Fu : Nat} : ∀ (k : Nat) {aT1 : Nat → Int64} {aU1 : Nat → Int64} {x2 : Int64} {x4 : Int32} {R : (Nat → Int64)}, fX4_increase_L5 Fu k aT1 aU1 x2 x4 = some R → E G b yX4_increase cX4_increase 7 none (e_rm 0 0 0) e_X0 (e_Z G b (pD none (e_ov (kW39 t u) (wW39 G b t u R aU1) c0) n) 0 0) 5 [(0, .ref (b + t)), (1, .ref (b + u)), (2, .long x2), (4, .int x4)] [] (e_ov (kW39 t u) (wW39 G b t u aT1 aU1) c0) n 0 0 := by
  intro k
  induction k with
  | zero =>
    intro _ _ _ _ _ hf
    have hf : (none : Option ((Nat → Int64))) = some _ := hf
    cases hf
  | succ k ih =>
    intro aT1 aU1 x2 x4 R hf
    rw [fX4_increase_L5] at hf
    refine E.iload 3 dX4_increase_5 rfl ?_
    refine E.bipush (v := 48) dX4_increase_7 (by decide) ?_
    refine E.icmp_ge dX4_increase_9 (fun h => ?_) (fun h => ?_)
    · have hf := e_ift hf h
      cases hf
      exact E.vret dX4_increase_57 (Nat.le_refl _) (Nat.le_refl _) (pD_rf _ _ _)
    · have hf := e_iff hf h
      refine E.aload_n 0 dX4_increase_12 rfl ?_
      refine E.get hw 0 t dX4_increase_13 flX4_9 rfl rfl rfl rfl ?_
      refine E.iload 3 dX4_increase_16 rfl ?_
      obtain ⟨g1, hf⟩ := gd_some hf
      refine E.lald hw 1 (t + 1) dX4_increase_18 rfl rfl g1 ?_
      refine E.aload_n 1 dX4_increase_19 rfl ?_
      refine E.get hw 2 u dX4_increase_20 flX4_9 rfl rfl rfl rfl ?_
      refine E.iload 3 dX4_increase_23 rfl ?_
      obtain ⟨g2, hf⟩ := gd_some hf
      refine E.lald hw 3 (u + 1) dX4_increase_25 rfl rfl g2 ?_
      refine E.ladd dX4_increase_26 ?_
      refine E.lload_n 2 dX4_increase_27 rfl ?_
      refine E.ladd dX4_increase_28 ?_
      refine E.lstore (lv' := [(5, .long (((aT1 (x4 : Int32).toNatClampNeg) + (aU1 (x4 : Int32).toNatClampNeg)) + x2)), (0, .ref (b + t)), (1, .ref (b + u)), (2, .long x2), (4, .int x4)]) dX4_increase_29 (by decide) rfl ?_
      refine E.aload_n 1 dX4_increase_31 rfl ?_
      refine E.get hw 0 t dX4_increase_32 flX4_9 rfl rfl rfl rfl ?_
      refine E.iload 4 dX4_increase_35 rfl ?_
      refine E.lload 0 dX4_increase_37 rfl ?_
      refine E.ldc2 dX4_increase_39 kX4_13 ?_
      obtain ⟨g3, hf⟩ := gzl_some hf
      refine E.lrem dX4_increase_42 g3 ?_
      obtain ⟨g4, hf⟩ := gd_some hf
      refine E.last (es' := (wW39 G b t u (va_up aT1 (x4 : Int32).toNatClampNeg ((((aT1 (x4 : Int32).toNatClampNeg) + (aU1 (x4 : Int32).toNatClampNeg)) + x2) - (((aT1 (x4 : Int32).toNatClampNeg) + (aU1 (x4 : Int32).toNatClampNeg)) + x2) / 100 * 100)) aU1)) hw 1 (t + 1) dX4_increase_43 rfl rfl g4 rfl ?_
      refine E.lload 0 dX4_increase_44 rfl ?_
      refine E.ldc2 dX4_increase_46 kX4_13 ?_
      obtain ⟨g5, hf⟩ := gzl_some hf
      refine E.ldiv dX4_increase_49 g5 ?_
      refine E.lstore_n (lv' := [(2, .long ((((aT1 (x4 : Int32).toNatClampNeg) + (aU1 (x4 : Int32).toNatClampNeg)) + x2) / 100)), (5, .long (((aT1 (x4 : Int32).toNatClampNeg) + (aU1 (x4 : Int32).toNatClampNeg)) + x2)), (0, .ref (b + t)), (1, .ref (b + u)), (4, .int x4)]) dX4_increase_50 (by decide) rfl ?_
      refine E.iinc (q := 4) (v := (x4 + 1)) (lv' := [(4, .int (x4 + 1)), (2, .long ((((aT1 (x4 : Int32).toNatClampNeg) + (aU1 (x4 : Int32).toNatClampNeg)) + x2) / 100)), (5, .long (((aT1 (x4 : Int32).toNatClampNeg) + (aU1 (x4 : Int32).toNatClampNeg)) + x2)), (0, .ref (b + t)), (1, .ref (b + u))]) dX4_increase_51 rfl rfl (by decide) rfl ?_
      refine E.goto dX4_increase_54 ?_
      refine E.locals [3, 4, 1, 0] rfl ?_
      exact ih hf
def fX4_increase (Fu : Nat) (aT1 : Nat → Int64) (aU1 : Nat → Int64) : Option ((Nat → Int64)) := fX4_increase_L5 Fu Fu aT1 aU1 0 0
set_option maxHeartbeats 4000000 in
set_option maxRecDepth 100000 in
theorem tX4_increase {G : GT} {b : Nat} {t u : Nat} {c0 : Hp} {n : Nat} (hw : e_wf (kW39 t u) n)  {Fu : Nat} {aT1 : Nat → Int64} {aU1 : Nat → Int64} {R : (Nat → Int64)} (hf : fX4_increase Fu aT1 aU1 = some R) : E G b yX4_increase cX4_increase 7 none (e_rm 0 0 0) e_X0 (e_Z G b (pD none (e_ov (kW39 t u) (wW39 G b t u R aU1) c0) n) 0 0) 0 [(0, .ref (b + t)), (1, .ref (b + u))] [] (e_ov (kW39 t u) (wW39 G b t u aT1 aU1) c0) n 0 0 := by
  unfold fX4_increase at hf
  refine E.lconst (v := 0) dX4_increase_0 (by decide) ?_
  refine E.lstore_n (lv' := [(2, .long 0), (0, .ref (b + t)), (1, .ref (b + u))]) dX4_increase_1 (by decide) rfl ?_
  refine E.iconst (v := 0) dX4_increase_2 (by decide) ?_
  refine E.istore (lv' := [(4, .int 0), (2, .long 0), (0, .ref (b + t)), (1, .ref (b + u))]) dX4_increase_3 (by decide) rfl ?_
  refine E.locals [2, 3, 1, 0] rfl ?_
  exact tX4_increase_L5 hw _ hf
set_option maxRecDepth 100000 in
theorem mX4_increase {G : GT} {b : Nat} {t u : Nat} {c0 : Hp} {n : Nat} (hw : e_wf (kW39 t u) n)  {Fu : Nat} {aT1 : Nat → Int64} {aU1 : Nat → Int64} {R : (Nat → Int64)} (hf : fX4_increase Fu aT1 aU1 = some R) : e_C G b yX4_increase cX4_increase 7 none 0 0 0 [.ref (b + t), .ref (b + u)] (e_ov (kW39 t u) (wW39 G b t u aT1 aU1) c0) n (pD none (e_ov (kW39 t u) (wW39 G b t u R aU1) c0) n) := e_C.of (by decide) (Nat.le_of_ble_eq_true rfl) (tX4_increase hw hf)
