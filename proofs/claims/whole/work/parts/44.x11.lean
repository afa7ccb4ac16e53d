def fX11_trusted_L18 (Fu : Nat) (k2 : Int32 → Int32 → (Nat → Int32) → (Nat → Int32) → (Nat → Int32) → Int32 → Int32 → Option (Int32)) : Nat → Int32 → Int32 → (Nat → Int32) → (Nat → Int32) → (Nat → Int32) → Int32 → Int32 → Int32 → Int32 → Option (Int32)
  | 0, _, _, _, _, _, _, _, _, _ => none
  | k + 1, v1_beasts, v6_cases, a7, a8, a9, x1, x2, x3, x4 => if (v1_beasts : Int32) ≤ (x4 : Int32) then (if (x3 : Int32) = (x1 : Int32) then (some (x2)) else (k2 v1_beasts v6_cases a7 a8 a9 x1 (x2 + 1))) else ((fX2_isAhead Fu v6_cases a7 a8 a9 x4 x2).bind fun r1 => (if (r1 : Int32) = (0 : Int32) then ((fX11_trusted_L18 Fu k2 k) v1_beasts v6_cases a7 a8 a9 x1 x2 x3 (x4 + 1)) else ((fX11_trusted_L18 Fu k2 k) v1_beasts v6_cases a7 a8 a9 x1 x2 (x3 + 1) (x4 + 1))))
set_option maxHeartbeats 4000000 in
set_option maxRecDepth 100000 in
theorem tX11_trusted_L18 {G : GT} {b : Nat} {c0 : Hp} {n : Nat} (hw : e_wf (kW67) n) {v0_faultPlace : Int32} {v0_quashedRows : Int32} {v0_lastRefusal : Int32} {v1_meals : Int32} {v1_seats : Int32} {v1_laws : Int32} {v1_inForce : Int32} {Fu : Nat} {k2 : Int32 → Int32 → (Nat → Int32) → (Nat → Int32) → (Nat → Int32) → Int32 → Int32 → Option (Int32)} (hk2 : ∀ {v1_beasts : Int32} {v6_cases : Int32} {a7 : Nat → Int32} {a8 : Nat → Int32} {a9 : Nat → Int32} {x1 : Int32} {x2 : Int32} {R : Int32}, k2 v1_beasts v6_cases a7 a8 a9 x1 x2 = some R → E G b yX11_trusted cX11_trusted 5 (some .int) (e_rm 3 0 0) e_X0 (e_Z G b (pD (some (.int R)) (e_ov (kW67) (wW67 G b v0_faultPlace v0_quashedRows v0_lastRefusal v1_beasts v1_meals v1_seats v1_laws v1_inForce v6_cases a7 a8 a9) c0) n) 0 0) 2 [(0, .ref (b + 0)), (1, .int x1), (2, .int x2)] [] (e_ov (kW67) (wW67 G b v0_faultPlace v0_quashedRows v0_lastRefusal v1_beasts v1_meals v1_seats v1_laws v1_inForce v6_cases a7 a8 a9) c0) n 0 0) : ∀ (k : Nat) {v1_beasts : Int32} {v6_cases : Int32} {a7 : Nat → Int32} {a8 : Nat → Int32} {a9 : Nat → Int32} {x1 : Int32} {x2 : Int32} {x3 : Int32} {x4 : Int32} {R : Int32}, fX11_trusted_L18 Fu k2 k v1_beasts v6_cases a7 a8 a9 x1 x2 x3 x4 = some R → E G b yX11_trusted cX11_trusted 5 (some .int) (e_rm 3 0 0) e_X0 (e_Z G b (pD (some (.int R)) (e_ov (kW67) (wW67 G b v0_faultPlace v0_quashedRows v0_lastRefusal v1_beasts v1_meals v1_seats v1_laws v1_inForce v6_cases a7 a8 a9) c0) n) 0 0) 18 [(0, .ref (b + 0)), (1, .int x1), (2, .int x2), (3, .int x3), (4, .int x4)] [] (e_ov (kW67) (wW67 G b v0_faultPlace v0_quashedRows v0_lastRefusal v1_beasts v1_meals v1_seats v1_laws v1_inForce v6_cases a7 a8 a9) c0) n 0 0 := by
  intro k
  induction k with
  | zero =>
    intro _ _ _ _ _ _ _ _ _ _ hf
    have hf : (none : Option (Int32)) = some _ := hf
    cases hf
  | succ k ih =>
    intro v1_beasts v6_cases a7 a8 a9 x1 x2 x3 x4 R hf
    rw [fX11_trusted_L18] at hf
    refine E.iload 4 dX11_trusted_18 rfl ?_
    refine E.aload_n 0 dX11_trusted_20 rfl ?_
    refine E.get hw 0 0 dX11_trusted_21 flX11_10 rfl rfl rfl rfl ?_
    refine E.getN hw 1 1 dX11_trusted_24 fnX11_101 rfl rfl rfl rfl ?_
    refine E.icmp_ge dX11_trusted_27 (fun h => ?_) (fun h => ?_)
    · have hf := e_ift hf h
      refine E.iload_n 3 dX11_trusted_55 rfl ?_
      refine E.iload_n 1 dX11_trusted_56 rfl ?_
      refine E.icmp_ne dX11_trusted_57 (fun h => ?_) (fun h => ?_)
      · have hf := e_iff hf h
        refine E.iinc (q := 2) (v := (x2 + 1)) (lv' := [(2, .int (x2 + 1)), (0, .ref (b + 0)), (1, .int x1), (3, .int x3), (4, .int x4)]) dX11_trusted_62 rfl rfl (by decide) rfl ?_
        refine E.goto dX11_trusted_65 ?_
        refine E.locals [1, 2, 0] rfl ?_
        exact hk2 hf
      · have hf := e_ift hf h
        refine E.iload_n 2 dX11_trusted_60 rfl ?_
        cases hf
        exact E.iret dX11_trusted_61 (Nat.le_refl _) (Nat.le_refl _) (pD_rf _ _ _)
    · have hf := e_iff hf h
      refine E.aload_n 0 dX11_trusted_30 rfl ?_
      refine E.get hw 0 0 dX11_trusted_31 flX11_10 rfl rfl rfl rfl ?_
      refine E.getN hw 1 1 dX11_trusted_34 fnX11_169 rfl rfl rfl rfl ?_
      refine E.iload 4 dX11_trusted_37 rfl ?_
      refine E.iload_n 2 dX11_trusted_39 rfl ?_
      obtain ⟨r1, hc1, hf⟩ := e_bind hf
      refine E.callVDs (es' := (wW67 G b v0_faultPlace v0_quashedRows v0_lastRefusal v1_beasts v1_meals v1_seats v1_laws v1_inForce v6_cases a7 a8 a9)) [] [2, 3, 4, 5] 2 6 dX11_trusted_40 mlX11_343 hw rfl rfl rfl rfl (mX2_isAhead (hw.pick2 [2, 3, 4, 5] rfl (by decide)) hc1) rfl rfl rfl rfl ⟨Nat.le_of_ble_eq_true rfl, Nat.le_of_ble_eq_true rfl⟩ rfl rfl (Nat.le_of_ble_eq_true rfl) ⟨Nat.le_refl _, Nat.le_refl _⟩ rfl ?_
      refine E.if_eq dX11_trusted_43 (fun h => ?_) (fun h => ?_)
      · have hf := e_ift hf h
        refine E.iinc (q := 4) (v := (x4 + 1)) (lv' := [(4, .int (x4 + 1)), (0, .ref (b + 0)), (1, .int x1), (2, .int x2), (3, .int x3)]) dX11_trusted_49 rfl rfl (by decide) rfl ?_
        refine E.goto dX11_trusted_52 ?_
        refine E.locals [1, 2, 3, 4, 0] rfl ?_
        exact ih hf
      · have hf := e_iff hf h
        refine E.iinc (q := 3) (v := (x3 + 1)) (lv' := [(3, .int (x3 + 1)), (0, .ref (b + 0)), (1, .int x1), (2, .int x2), (4, .int x4)]) dX11_trusted_46 rfl rfl (by decide) rfl ?_
        refine E.iinc (q := 4) (v := (x4 + 1)) (lv' := [(4, .int (x4 + 1)), (3, .int (x3 + 1)), (0, .ref (b + 0)), (1, .int x1), (2, .int x2)]) dX11_trusted_49 rfl rfl (by decide) rfl ?_
        refine E.goto dX11_trusted_52 ?_
        refine E.locals [2, 3, 4, 1, 0] rfl ?_
        exact ih hf
def fX11_trusted_L2 (Fu : Nat) : Nat → Int32 → Int32 → (Nat → Int32) → (Nat → Int32) → (Nat → Int32) → Int32 → Int32 → Option (Int32)
  | 0, _, _, _, _, _, _, _ => none
  | k + 1, v1_beasts, v6_cases, a7, a8, a9, x1, x2 => if (v1_beasts : Int32) ≤ (x2 : Int32) then (some ((-1 : Int32))) else (fX11_trusted_L18 Fu (fX11_trusted_L2 Fu k) Fu v1_beasts v6_cases a7 a8 a9 x1 x2 0 0)
set_option maxHeartbeats 4000000 in
set_option maxRecDepth 100000 in
theorem tX11_trusted_L2 {G : GT} {b : Nat} {c0 : Hp} {n : Nat} (hw : e_wf (kW67) n) {v0_faultPlace : Int32} {v0_quashedRows : Int32} {v0_lastRefusal : Int32} {v1_meals : Int32} {v1_seats : Int32} {v1_laws : Int32} {v1_inForce : Int32} {Fu : Nat} : ∀ (k : Nat) {v1_beasts : Int32} {v6_cases : Int32} {a7 : Nat → Int32} {a8 : Nat → Int32} {a9 : Nat → Int32} {x1 : Int32} {x2 : Int32} {R : Int32}, fX11_trusted_L2 Fu k v1_beasts v6_cases a7 a8 a9 x1 x2 = some R → E G b yX11_trusted cX11_trusted 5 (some .int) (e_rm 3 0 0) e_X0 (e_Z G b (pD (some (.int R)) (e_ov (kW67) (wW67 G b v0_faultPlace v0_quashedRows v0_lastRefusal v1_beasts v1_meals v1_seats v1_laws v1_inForce v6_cases a7 a8 a9) c0) n) 0 0) 2 [(0, .ref (b + 0)), (1, .int x1), (2, .int x2)] [] (e_ov (kW67) (wW67 G b v0_faultPlace v0_quashedRows v0_lastRefusal v1_beasts v1_meals v1_seats v1_laws v1_inForce v6_cases a7 a8 a9) c0) n 0 0 := by
  intro k
  induction k with
  | zero =>
    intro _ _ _ _ _ _ _ _ hf
    have hf : (none : Option (Int32)) = some _ := hf
    cases hf
  | succ k ih =>
    intro v1_beasts v6_cases a7 a8 a9 x1 x2 R hf
    rw [fX11_trusted_L2] at hf
    refine E.iload_n 2 dX11_trusted_2 rfl ?_
    refine E.aload_n 0 dX11_trusted_3 rfl ?_
    refine E.get hw 0 0 dX11_trusted_4 flX11_10 rfl rfl rfl rfl ?_
    refine E.getN hw 1 1 dX11_trusted_7 fnX11_101 rfl rfl rfl rfl ?_
    refine E.icmp_ge dX11_trusted_10 (fun h => ?_) (fun h => ?_)
    · have hf := e_ift hf h
      refine E.iconst (v := -1) dX11_trusted_68 (by decide) ?_
      cases hf
      exact E.iret dX11_trusted_69 (Nat.le_refl _) (Nat.le_refl _) (pD_rf _ _ _)
    · have hf := e_iff hf h
      refine E.iconst (v := 0) dX11_trusted_13 (by decide) ?_
      refine E.istore_n (lv' := [(3, .int 0), (0, .ref (b + 0)), (1, .int x1), (2, .int x2)]) dX11_trusted_14 (by decide) rfl ?_
      refine E.iconst (v := 0) dX11_trusted_15 (by decide) ?_
      refine E.istore (lv' := [(4, .int 0), (3, .int 0), (0, .ref (b + 0)), (1, .int x1), (2, .int x2)]) dX11_trusted_16 (by decide) rfl ?_
      refine E.locals [2, 3, 4, 1, 0] rfl ?_
      exact tX11_trusted_L18 hw ih _ hf
def fX11_trusted (Fu : Nat) (v1_beasts : Int32) (v6_cases : Int32) (a7 : Nat → Int32) (a8 : Nat → Int32) (a9 : Nat → Int32) (x1 : Int32) : Option (Int32) := fX11_trusted_L2 Fu Fu v1_beasts v6_cases a7 a8 a9 x1 0
set_option maxHeartbeats 4000000 in
set_option maxRecDepth 100000 in
theorem tX11_trusted {G : GT} {b : Nat} {c0 : Hp} {n : Nat} (hw : e_wf (kW67) n) {v0_faultPlace : Int32} {v0_quashedRows : Int32} {v0_lastRefusal : Int32} {v1_meals : Int32} {v1_seats : Int32} {v1_laws : Int32} {v1_inForce : Int32} {Fu : Nat} {v1_beasts : Int32} {v6_cases : Int32} {a7 : Nat → Int32} {a8 : Nat → Int32} {a9 : Nat → Int32} {x1 : Int32} {R : Int32} (hf : fX11_trusted Fu v1_beasts v6_cases a7 a8 a9 x1 = some R) : E G b yX11_trusted cX11_trusted 5 (some .int) (e_rm 3 0 0) e_X0 (e_Z G b (pD (some (.int R)) (e_ov (kW67) (wW67 G b v0_faultPlace v0_quashedRows v0_lastRefusal v1_beasts v1_meals v1_seats v1_laws v1_inForce v6_cases a7 a8 a9) c0) n) 0 0) 0 [(0, .ref (b + 0)), (1, .int x1)] [] (e_ov (kW67) (wW67 G b v0_faultPlace v0_quashedRows v0_lastRefusal v1_beasts v1_meals v1_seats v1_laws v1_inForce v6_cases a7 a8 a9) c0) n 0 0 := by
  unfold fX11_trusted at hf
  refine E.iconst (v := 0) dX11_trusted_0 (by decide) ?_
  refine E.istore_n (lv' := [(2, .int 0), (0, .ref (b + 0)), (1, .int x1)]) dX11_trusted_1 (by decide) rfl ?_
  refine E.locals [1, 2, 0] rfl ?_
  exact tX11_trusted_L2 hw _ hf
set_option maxRecDepth 100000 in
theorem mX11_trusted {G : GT} {b : Nat} {c0 : Hp} {n : Nat} (hw : e_wf (kW67) n) {v0_faultPlace : Int32} {v0_quashedRows : Int32} {v0_lastRefusal : Int32} {v1_meals : Int32} {v1_seats : Int32} {v1_laws : Int32} {v1_inForce : Int32} {Fu : Nat} {v1_beasts : Int32} {v6_cases : Int32} {a7 : Nat → Int32} {a8 : Nat → Int32} {a9 : Nat → Int32} {x1 : Int32} {R : Int32} (hf : fX11_trusted Fu v1_beasts v6_cases a7 a8 a9 x1 = some R) : e_C G b yX11_trusted cX11_trusted 5 (some .int) 3 0 0 [.ref (b + 0), .int x1] (e_ov (kW67) (wW67 G b v0_faultPlace v0_quashedRows v0_lastRefusal v1_beasts v1_meals v1_seats v1_laws v1_inForce v6_cases a7 a8 a9) c0) n (pD (some (.int R)) (e_ov (kW67) (wW67 G b v0_faultPlace v0_quashedRows v0_lastRefusal v1_beasts v1_meals v1_seats v1_laws v1_inForce v6_cases a7 a8 a9) c0) n) := e_C.of (by decide) (Nat.le_of_ble_eq_true rfl) (tX11_trusted hw hf)
def fX11_proof (Fu : Nat) (a4 : Nat → Int32) (v6_cases : Int32) (a7 : Nat → Int32) (a8 : Nat → Int32) (a9 : Nat → Int32) (v73_upper : Int64) (v73_lower : Int64) (x1 : Int32) (x2 : Int32) (x3 : Int32) : Option (Int64 × Int64 × Int64) := (fX11_canJudge 0 x1 x2).bind fun r1 => (if (r1 : Int32) = (0 : Int32) then (some ((-1 : Int64), v73_upper, v73_lower)) else ((fX11_isEither x3).bind fun r2 => (if (r2 : Int32) = (0 : Int32) then (some ((-1 : Int64), v73_upper, v73_lower)) else ((fX3_weigh Fu a4 v6_cases a7 a8 a9 v73_upper v73_lower x1 x2 (-1 : Int32)).bind fun r3 => (if (x3 : Int32) = (0 : Int32) then (some (r3.1, r3.1, r3.2)) else (some (r3.2, r3.1, r3.2)))))))
set_option maxHeartbeats 4000000 in
set_option maxRecDepth 100000 in
theorem tX11_proof {G : GT} {b : Nat} {c0 : Hp} {n : Nat} (hw : e_wf (kW71) n) {v0_faultPlace : Int32} {v0_quashedRows : Int32} {v0_lastRefusal : Int32} {v1_beasts : Int32} {v1_meals : Int32} {v1_seats : Int32} {v1_laws : Int32} {v1_inForce : Int32} {Fu : Nat} {a4 : Nat → Int32} {v6_cases : Int32} {a7 : Nat → Int32} {a8 : Nat → Int32} {a9 : Nat → Int32} {v73_upper : Int64} {v73_lower : Int64} {x1 : Int32} {x2 : Int32} {x3 : Int32} {R : Int64 × Int64 × Int64} (hf : fX11_proof Fu a4 v6_cases a7 a8 a9 v73_upper v73_lower x1 x2 x3 = some R) : E G b yX11_proof cX11_proof 4 (some .long) (e_rm 3 0 0) e_X0 (e_Z G b (pD (some (.long R.1)) (e_ov (kW71) (wW71 G b v0_faultPlace v0_quashedRows v0_lastRefusal v1_beasts v1_meals v1_seats v1_laws v1_inForce a4 v6_cases a7 a8 a9 R.2.1 R.2.2) c0) n) 0 0) 0 [(0, .ref (b + 0)), (1, .int x1), (2, .int x2), (3, .int x3)] [] (e_ov (kW71) (wW71 G b v0_faultPlace v0_quashedRows v0_lastRefusal v1_beasts v1_meals v1_seats v1_laws v1_inForce a4 v6_cases a7 a8 a9 v73_upper v73_lower) c0) n 0 0 := by
  unfold fX11_proof at hf
  refine E.iconst (v := 0) dX11_proof_0 (by decide) ?_
  refine E.iload_n 1 dX11_proof_1 rfl ?_
  refine E.iload_n 2 dX11_proof_2 rfl ?_
  obtain ⟨r1, hc1, hf⟩ := e_bind hf
  refine E.callSD [] dX11_proof_3 mlX11_165 (mX11_canJudge hc1) ⟨Nat.le_of_ble_eq_true rfl, Nat.le_of_ble_eq_true rfl⟩ rfl rfl (Nat.le_of_ble_eq_true rfl) ⟨Nat.le_refl _, Nat.le_refl _⟩ rfl ?_
  refine E.if_eq dX11_proof_6 (fun h => ?_) (fun h => ?_)
  · have hf := e_ift hf h
    refine E.ldc2 dX11_proof_16 kX11_210 ?_
    cases hf
    exact E.lret dX11_proof_19 (Nat.le_refl _) (Nat.le_refl _) (pD_rf _ _ _)
  · have hf := e_iff hf h
    refine E.iload_n 3 dX11_proof_9 rfl ?_
    obtain ⟨r2, hc2, hf⟩ := e_bind hf
    refine E.callSD [] dX11_proof_10 mlX11_274 (mX11_isEither hc2) ⟨Nat.le_of_ble_eq_true rfl, Nat.le_of_ble_eq_true rfl⟩ rfl rfl (Nat.le_of_ble_eq_true rfl) ⟨Nat.le_refl _, Nat.le_refl _⟩ rfl ?_
    refine E.if_ne dX11_proof_13 (fun h => ?_) (fun h => ?_)
    · have hf := e_iff hf h
      refine E.aload_n 0 dX11_proof_20 rfl ?_
      refine E.get hw 0 0 dX11_proof_21 flX11_71 rfl rfl rfl rfl ?_
      refine E.aload_n 0 dX11_proof_24 rfl ?_
      refine E.get hw 0 0 dX11_proof_25 flX11_10 rfl rfl rfl rfl ?_
      refine E.iload_n 1 dX11_proof_28 rfl ?_
      refine E.iload_n 2 dX11_proof_29 rfl ?_
      refine E.iconst (v := -1) dX11_proof_30 (by decide) ?_
      obtain ⟨r3, hc3, hf⟩ := e_bind hf
      refine E.callVDs (es' := (wW71 G b v0_faultPlace v0_quashedRows v0_lastRefusal v1_beasts v1_meals v1_seats v1_laws v1_inForce a4 v6_cases a7 a8 a9 r3.1 r3.2)) [] [1, 2, 3, 4, 5, 6, 7] 7 73 dX11_proof_31 mlX11_333 hw rfl rfl rfl rfl (mX3_weigh (hw.pick2 [1, 2, 3, 4, 5, 6, 7] rfl (by decide)) hc3) rfl rfl rfl rfl ⟨Nat.le_of_ble_eq_true rfl, Nat.le_of_ble_eq_true rfl⟩ rfl rfl (Nat.le_of_ble_eq_true rfl) ⟨Nat.le_refl _, Nat.le_refl _⟩ rfl ?_
      refine E.iload_n 3 dX11_proof_34 rfl ?_
      refine E.if_ne dX11_proof_35 (fun h => ?_) (fun h => ?_)
      · have hf := e_iff hf h
        refine E.aload_n 0 dX11_proof_48 rfl ?_
        refine E.get hw 0 0 dX11_proof_49 flX11_71 rfl rfl rfl rfl ?_
        refine E.getN hw 7 73 dX11_proof_52 fnX11_340 rfl rfl rfl rfl ?_
        cases hf
        exact E.lret dX11_proof_55 (Nat.le_refl _) (Nat.le_refl _) (pD_rf _ _ _)
      · have hf := e_ift hf h
        refine E.aload_n 0 dX11_proof_38 rfl ?_
        refine E.get hw 0 0 dX11_proof_39 flX11_71 rfl rfl rfl rfl ?_
        refine E.getN hw 7 73 dX11_proof_42 fnX11_337 rfl rfl rfl rfl ?_
        refine E.goto dX11_proof_45 ?_
        cases hf
        exact E.lret dX11_proof_55 (Nat.le_refl _) (Nat.le_refl _) (pD_rf _ _ _)
    · have hf := e_ift hf h
      refine E.ldc2 dX11_proof_16 kX11_210 ?_
      cases hf
      exact E.lret dX11_proof_19 (Nat.le_refl _) (Nat.le_refl _) (pD_rf _ _ _)
set_option maxRecDepth 100000 in
theorem mX11_proof {G : GT} {b : Nat} {c0 : Hp} {n : Nat} (hw : e_wf (kW71) n) {v0_faultPlace : Int32} {v0_quashedRows : Int32} {v0_lastRefusal : Int32} {v1_beasts : Int32} {v1_meals : Int32} {v1_seats : Int32} {v1_laws : Int32} {v1_inForce : Int32} {Fu : Nat} {a4 : Nat → Int32} {v6_cases : Int32} {a7 : Nat → Int32} {a8 : Nat → Int32} {a9 : Nat → Int32} {v73_upper : Int64} {v73_lower : Int64} {x1 : Int32} {x2 : Int32} {x3 : Int32} {R : Int64 × Int64 × Int64} (hf : fX11_proof Fu a4 v6_cases a7 a8 a9 v73_upper v73_lower x1 x2 x3 = some R) : e_C G b yX11_proof cX11_proof 4 (some .long) 3 0 0 [.ref (b + 0), .int x1, .int x2, .int x3] (e_ov (kW71) (wW71 G b v0_faultPlace v0_quashedRows v0_lastRefusal v1_beasts v1_meals v1_seats v1_laws v1_inForce a4 v6_cases a7 a8 a9 v73_upper v73_lower) c0) n (pD (some (.long R.1)) (e_ov (kW71) (wW71 G b v0_faultPlace v0_quashedRows v0_lastRefusal v1_beasts v1_meals v1_seats v1_laws v1_inForce a4 v6_cases a7 a8 a9 R.2.1 R.2.2) c0) n) := e_C.of (by decide) (Nat.le_of_ble_eq_true rfl) (tX11_proof hw hf)
abbrev kW72 : List Nat := [69]
abbrev wW72 (G : GT) (b  : Nat) (v69_held : Int32) (v69_lastMinute : Int32) (v69_drawn : Int32) : List va_E := [.inr (7, [.ref (b + 70), .ref (b + 71), .ref (b + 72), .int v69_held, .int v69_lastMinute, .int v69_drawn])]
def fX7_draw (v69_drawn : Int32) : Option (Int32 × Int32) := gz 1000003 (gz 100 (some (((((v69_drawn * 1103) + 12345) - ((v69_drawn * 1103) + 12345) / 1000003 * 1000003) - (((v69_drawn * 1103) + 12345) - ((v69_drawn * 1103) + 12345) / 1000003 * 1000003) / 100 * 100), (((v69_drawn * 1103) + 12345) - ((v69_drawn * 1103) + 12345) / 1000003 * 1000003))))
set_option maxHeartbeats 4000000 in
set_option maxRecDepth 100000 in
theorem tX7_draw {G : GT} {b : Nat} {c0 : Hp} {n : Nat} (hw : e_wf (kW72) n) {v69_held : Int32} {v69_lastMinute : Int32} {v69_drawn : Int32} {R : Int32 × Int32} (hf : fX7_draw v69_drawn = some R) : E G b yX7_draw cX7_draw 1 (some .int) (e_rm 0 0 0) e_X0 (e_Z G b (pD (some (.int R.1)) (e_ov (kW72) (wW72 G b v69_held v69_lastMinute R.2) c0) n) 0 0) 0 [(0, .ref (b + 69))] [] (e_ov (kW72) (wW72 G b v69_held v69_lastMinute v69_drawn) c0) n 0 0 := by
  unfold fX7_draw at hf
  refine E.aload_n 0 dX7_draw_0 rfl ?_
  refine E.aload_n 0 dX7_draw_1 rfl ?_
  refine E.get hw 0 69 dX7_draw_2 flX7_25 rfl rfl rfl rfl ?_
  refine E.sipush (v := 1103) dX7_draw_5 (by decide) ?_
  refine E.imul dX7_draw_8 ?_
  refine E.sipush (v := 12345) dX7_draw_9 (by decide) ?_
  refine E.iadd dX7_draw_12 ?_
  refine E.ldc dX7_draw_13 kX7_81 ?_
  obtain ⟨g1, hf⟩ := gz_some hf
  refine E.irem dX7_draw_15 g1 ?_
  refine E.put (es' := (wW72 G b v69_held v69_lastMinute (((v69_drawn * 1103) + 12345) - ((v69_drawn * 1103) + 12345) / 1000003 * 1000003))) hw 0 69 dX7_draw_16 flX7_25 ftX7 rfl rfl rfl rfl rfl rfl (Nat.le_of_ble_eq_true rfl) rfl ?_
  refine E.aload_n 0 dX7_draw_19 rfl ?_
  refine E.get hw 0 69 dX7_draw_20 flX7_25 rfl rfl rfl rfl ?_
  refine E.bipush (v := 100) dX7_draw_23 (by decide) ?_
  obtain ⟨g2, hf⟩ := gz_some hf
  refine E.irem dX7_draw_25 g2 ?_
  cases hf
  exact E.iret dX7_draw_26 (Nat.le_refl _) (Nat.le_refl _) (pD_rf _ _ _)
set_option maxRecDepth 100000 in
theorem mX7_draw {G : GT} {b : Nat} {c0 : Hp} {n : Nat} (hw : e_wf (kW72) n) {v69_held : Int32} {v69_lastMinute : Int32} {v69_drawn : Int32} {R : Int32 × Int32} (hf : fX7_draw v69_drawn = some R) : e_C G b yX7_draw cX7_draw 1 (some .int) 0 0 0 [.ref (b + 69)] (e_ov (kW72) (wW72 G b v69_held v69_lastMinute v69_drawn) c0) n (pD (some (.int R.1)) (e_ov (kW72) (wW72 G b v69_held v69_lastMinute R.2) c0) n) := e_C.of (by decide) (Nat.le_of_ble_eq_true rfl) (tX7_draw hw hf)
def fX0_liesOf_N (Fu : Nat) (v1_laws : Int32) (v1_inForce : Int32) (a2 : Nat → Int32) (a3 : Nat → Int32) (a4 : Nat → Int32) (a5 : Nat → Option Nat) (a38 : Nat → Int32) (x2 : Int32) (x3 : Int32) : Option (Int32 × (Nat → Int32)) := gd 1 6 ((fX10_trait a2 x2 5).bind fun r2 => ((fX0_learn a2 a3 a4 a38 x2 (a4 (1 : Int32).toNatClampNeg) r2).bind fun r3 => (gd 9 10 ((fX10_ruling_N v1_laws v1_inForce a5).bind fun r5 => (gq r5 none ((fX0_told_N Fu 1 10 100).bind fun r7 => (some (r7, (va_up r3 (9 : Int32).toNatClampNeg x3)))))))))
set_option maxHeartbeats 4000000 in
set_option maxRecDepth 100000 in
theorem tX0_liesOf_N {G : GT} {b : Nat} {c0 : Hp} {n : Nat} (hw : e_wf (kW26) n) {v1_beasts : Int32} {v1_meals : Int32} {v1_seats : Int32} {v37_height : Int32} {v37_answer : Int64} {Fu : Nat} {v1_laws : Int32} {v1_inForce : Int32} {a2 : Nat → Int32} {a3 : Nat → Int32} {a4 : Nat → Int32} {a5 : Nat → Option Nat} {a38 : Nat → Int32} {x2 : Int32} {x3 : Int32} {R : Int32 × (Nat → Int32)} (hf : fX0_liesOf_N Fu v1_laws v1_inForce a2 a3 a4 a5 a38 x2 x3 = some R) : E G b yX0_liesOf cX0_liesOf 4 (some .int) (e_rm 3 0 0) e_X0 (e_Z G b (pD (some (.int R.1)) (e_ov (kW26) (wW26 G b v1_beasts v1_meals v1_seats v1_laws v1_inForce a2 a3 a4 a5 v37_height v37_answer R.2) c0) n) 0 0) 0 [(0, .ref (b + 37)), (1, .ref (b + 1)), (2, .int x2), (3, .int x3)] [] (e_ov (kW26) (wW26 G b v1_beasts v1_meals v1_seats v1_laws v1_inForce a2 a3 a4 a5 v37_height v37_answer a38) c0) n 0 0 := by
  unfold fX0_liesOf_N at hf
  refine E.aload_n 0 dX0_liesOf_0 rfl ?_
  refine E.aload_n 1 dX0_liesOf_1 rfl ?_
  refine E.iload_n 2 dX0_liesOf_2 rfl ?_
  refine E.aload_n 1 dX0_liesOf_3 rfl ?_
  refine E.getN hw 0 1 dX0_liesOf_4 fnX0_35 rfl rfl rfl rfl ?_
  refine E.iconst (v := 1) dX0_liesOf_7 (by decide) ?_
  obtain ⟨g1, hf⟩ := gd_some hf
  refine E.iald hw 3 4 dX0_liesOf_8 rfl rfl g1 ?_
  refine E.aload_n 1 dX0_liesOf_9 rfl ?_
  refine E.iload_n 2 dX0_liesOf_10 rfl ?_
  refine E.iconst (v := 5) dX0_liesOf_11 (by decide) ?_
  obtain ⟨r2, hc2, hf⟩ := e_bind hf
  refine E.callVDs (es' := (wW26 G b v1_beasts v1_meals v1_seats v1_laws v1_inForce a2 a3 a4 a5 v37_height v37_answer a38)) [.int (a4 (1 : Int32).toNatClampNeg), .int x2, .ref (b + 1), .ref (b + 37)] [0, 1] 0 1 dX0_liesOf_12 mlX0_38 hw rfl rfl rfl rfl (mX10_trait (hw.pick2 [0, 1] rfl (by decide)) hc2) rfl rfl rfl rfl ⟨Nat.le_of_ble_eq_true rfl, Nat.le_of_ble_eq_true rfl⟩ rfl rfl (Nat.le_of_ble_eq_true rfl) ⟨Nat.le_refl _, Nat.le_refl _⟩ rfl ?_
  obtain ⟨r3, hc3, hf⟩ := e_bind hf
  refine E.callVDs (es' := (wW26 G b v1_beasts v1_meals v1_seats v1_laws v1_inForce a2 a3 a4 a5 v37_height v37_answer r3)) [] [0, 1, 2, 3, 5, 6] 5 37 dX0_liesOf_15 mlX0_21 hw rfl rfl rfl rfl (mX0_learn (hw.pick2 [0, 1, 2, 3, 5, 6] rfl (by decide)) hc3) rfl rfl rfl rfl ⟨Nat.le_of_ble_eq_true rfl, Nat.le_of_ble_eq_true rfl⟩ rfl rfl (Nat.le_of_ble_eq_true rfl) ⟨Nat.le_refl _, Nat.le_refl _⟩ rfl ?_
  refine E.aload_n 0 dX0_liesOf_18 rfl ?_
  refine E.get hw 5 37 dX0_liesOf_19 flX0_11 rfl rfl rfl rfl ?_
  refine E.bipush (v := 9) dX0_liesOf_22 (by decide) ?_
  refine E.iload_n 3 dX0_liesOf_24 rfl ?_
  obtain ⟨g4, hf⟩ := gd_some hf
  refine E.iast (es' := (wW26 G b v1_beasts v1_meals v1_seats v1_laws v1_inForce a2 a3 a4 a5 v37_height v37_answer (va_up r3 (9 : Int32).toNatClampNeg x3))) hw 6 38 dX0_liesOf_25 rfl rfl g4 rfl ?_
  refine E.aload_n 0 dX0_liesOf_26 rfl ?_
  refine E.aload_n 1 dX0_liesOf_27 rfl ?_
  obtain ⟨r5, hc5, hf⟩ := e_bind hf
  obtain ⟨g6, hf⟩ := gq_some hf
  refine E.callVDs (es' := (wW26 G b v1_beasts v1_meals v1_seats v1_laws v1_inForce a2 a3 a4 a5 v37_height v37_answer (va_up r3 (9 : Int32).toNatClampNeg x3))) [.ref (b + 37)] [0, 4] 0 1 dX0_liesOf_28 mlX0_25 hw rfl rfl rfl rfl (mX10_ruling_N (hw.pick2 [0, 4] rfl (by decide)) hc5) rfl rfl rfl rfl ⟨Nat.le_of_ble_eq_true rfl, Nat.le_of_ble_eq_true rfl⟩ rfl rfl (Nat.le_of_ble_eq_true rfl) ⟨Nat.le_refl _, Nat.le_refl _⟩ (by rw [g6] <;> rfl) ?_
  refine E.iconst (v := 1) dX0_liesOf_31 (by decide) ?_
  refine E.bipush (v := 10) dX0_liesOf_32 (by decide) ?_
  refine E.bipush (v := 100) dX0_liesOf_34 (by decide) ?_
  obtain ⟨r7, hc7, hf⟩ := e_bind hf
  refine E.callVDs (es' := (wW26 G b v1_beasts v1_meals v1_seats v1_laws v1_inForce a2 a3 a4 a5 v37_height v37_answer (va_up r3 (9 : Int32).toNatClampNeg x3))) [] [5] 5 37 dX0_liesOf_36 mlX0_31 hw rfl rfl rfl rfl (mX0_told_N (hw.pick2 [5] rfl (by decide)) hc7) rfl rfl rfl rfl ⟨Nat.le_of_ble_eq_true rfl, Nat.le_of_ble_eq_true rfl⟩ rfl rfl (Nat.le_of_ble_eq_true rfl) ⟨Nat.le_refl _, Nat.le_refl _⟩ rfl ?_
  cases hf
  exact E.iret dX0_liesOf_39 (Nat.le_refl _) (Nat.le_refl _) (pD_rf _ _ _)
set_option maxRecDepth 100000 in
theorem mX0_liesOf_N {G : GT} {b : Nat} {c0 : Hp} {n : Nat} (hw : e_wf (kW26) n) {v1_beasts : Int32} {v1_meals : Int32} {v1_seats : Int32} {v37_height : Int32} {v37_answer : Int64} {Fu : Nat} {v1_laws : Int32} {v1_inForce : Int32} {a2 : Nat → Int32} {a3 : Nat → Int32} {a4 : Nat → Int32} {a5 : Nat → Option Nat} {a38 : Nat → Int32} {x2 : Int32} {x3 : Int32} {R : Int32 × (Nat → Int32)} (hf : fX0_liesOf_N Fu v1_laws v1_inForce a2 a3 a4 a5 a38 x2 x3 = some R) : e_C G b yX0_liesOf cX0_liesOf 4 (some .int) 3 0 0 [.ref (b + 37), .ref (b + 1), .int x2, .int x3] (e_ov (kW26) (wW26 G b v1_beasts v1_meals v1_seats v1_laws v1_inForce a2 a3 a4 a5 v37_height v37_answer a38) c0) n (pD (some (.int R.1)) (e_ov (kW26) (wW26 G b v1_beasts v1_meals v1_seats v1_laws v1_inForce a2 a3 a4 a5 v37_height v37_answer R.2) c0) n) := e_C.of (by decide) (Nat.le_of_ble_eq_true rfl) (tX0_liesOf_N hw hf)
abbrev kW73 : List Nat := [1, 2, 3, 4, 5, 37, 38, 69, 70, 71, 72]
abbrev wW73 (G : GT) (b  : Nat) (v1_beasts : Int32) (v1_meals : Int32) (v1_seats : Int32) (v1_laws : Int32) (v1_inForce : Int32) (a2 : Nat → Int32) (a3 : Nat → Int32) (a4 : Nat → Int32) (a5 : Nat → Option Nat) (v37_height : Int32) (v37_answer : Int64) (a38 : Nat → Int32) (v69_held : Int32) (v69_lastMinute : Int32) (v69_drawn : Int32) (a70 : Nat → Int32) (a71 : Nat → Int32) (a72 : Nat → Int32) : List va_E := [.inr (10, [.ref (b + 2), .ref (b + 3), .ref (b + 4), .ref (b + 5), .ref (b + 6), .int v1_beasts, .int v1_meals, .int v1_seats, .int v1_laws, .int v1_inForce]), aI G 48 a2, aI G 8 a3, aI G 6 a4, aQ G 4 6 a5, .inr (0, [.ref (b + 38), .ref (b + 39), .int v37_height, .long v37_answer]), aI G 10 a38, .inr (7, [.ref (b + 70), .ref (b + 71), .ref (b + 72), .int v69_held, .int v69_lastMinute, .int v69_drawn]), aI G 8 a70, aI G 8 a71, aI G 2 a72]
def fX7_pass_N_L90 (Fu : Nat) (k3 : Int32 → Int32 → Int32 → Int32 → (Nat → Int32) → (Nat → Int32) → (Nat → Int32) → (Nat → Option Nat) → (Nat → Int32) → Int32 → (Nat → Int32) → (Nat → Int32) → (Nat → Int32) → Int32 → Int32 → Option ((Nat → Int32) × Int32 × (Nat → Int32) × (Nat → Int32) × (Nat → Int32))) (v1_beasts : Int32) (v1_seats : Int32) (v1_laws : Int32) (v1_inForce : Int32) (a2 : Nat → Int32) (a3 : Nat → Int32) (a4 : Nat → Int32) (a5 : Nat → Option Nat) (a38 : Nat → Int32) (v69_drawn : Int32) (a70 : Nat → Int32) (a71 : Nat → Int32) (a72 : Nat → Int32) (x3 : Int32) (x4 : Int32) (s0 : Int32) (s1 : Int32) : Option ((Nat → Int32) × Int32 × (Nat → Int32) × (Nat → Int32) × (Nat → Int32)) := gd s1 8 (gd x4 8 (gd x4 8 (gd ((va_up a70 (s1 : Int32).toNatClampNeg s0) (x4 : Int32).toNatClampNeg) 2 (gd ((va_up a70 (s1 : Int32).toNatClampNeg s0) (x4 : Int32).toNatClampNeg) 2 (k3 v1_beasts v1_seats v1_laws v1_inForce a2 a3 a4 a5 a38 v69_drawn (va_up a70 (s1 : Int32).toNatClampNeg s0) (va_up a71 (x4 : Int32).toNatClampNeg x3) (va_up a72 (((va_up a70 (s1 : Int32).toNatClampNeg s0) (x4 : Int32).toNatClampNeg) : Int32).toNatClampNeg ((a72 (((va_up a70 (s1 : Int32).toNatClampNeg s0) (x4 : Int32).toNatClampNeg) : Int32).toNatClampNeg) + 1)) x3 (x4 + 1))))))
set_option maxHeartbeats 4000000 in
set_option maxRecDepth 100000 in
theorem tX7_pass_N_L90 {G : GT} {b : Nat} {c0 : Hp} {n : Nat} (hw : e_wf (kW73) n) {v1_meals : Int32} {v37_height : Int32} {v37_answer : Int64} {v69_held : Int32} {v69_lastMinute : Int32} {Fu : Nat} {k3 : Int32 → Int32 → Int32 → Int32 → (Nat → Int32) → (Nat → Int32) → (Nat → Int32) → (Nat → Option Nat) → (Nat → Int32) → Int32 → (Nat → Int32) → (Nat → Int32) → (Nat → Int32) → Int32 → Int32 → Option ((Nat → Int32) × Int32 × (Nat → Int32) × (Nat → Int32) × (Nat → Int32))} (hk3 : ∀ {v1_beasts : Int32} {v1_seats : Int32} {v1_laws : Int32} {v1_inForce : Int32} {a2 : Nat → Int32} {a3 : Nat → Int32} {a4 : Nat → Int32} {a5 : Nat → Option Nat} {a38 : Nat → Int32} {v69_drawn : Int32} {a70 : Nat → Int32} {a71 : Nat → Int32} {a72 : Nat → Int32} {x3 : Int32} {x4 : Int32} {R : (Nat → Int32) × Int32 × (Nat → Int32) × (Nat → Int32) × (Nat → Int32)}, k3 v1_beasts v1_seats v1_laws v1_inForce a2 a3 a4 a5 a38 v69_drawn a70 a71 a72 x3 x4 = some R → E G b yX7_pass cX7_pass 6 none (e_rm 4 0 0) e_X0 (e_Z G b (pD none (e_ov (kW73) (wW73 G b v1_beasts v1_meals v1_seats v1_laws v1_inForce a2 a3 a4 a5 v37_height v37_answer R.1 v69_held v69_lastMinute R.2.1 R.2.2.1 R.2.2.2.1 R.2.2.2.2) c0) n) 0 0) 3 [(0, .ref (b + 69)), (1, .ref (b + 1)), (2, .ref (b + 37)), (3, .int x3), (4, .int x4)] [] (e_ov (kW73) (wW73 G b v1_beasts v1_meals v1_seats v1_laws v1_inForce a2 a3 a4 a5 v37_height v37_answer a38 v69_held v69_lastMinute v69_drawn a70 a71 a72) c0) n 0 0) {v1_beasts : Int32} {v1_seats : Int32} {v1_laws : Int32} {v1_inForce : Int32} {a2 : Nat → Int32} {a3 : Nat → Int32} {a4 : Nat → Int32} {a5 : Nat → Option Nat} {a38 : Nat → Int32} {v69_drawn : Int32} {a70 : Nat → Int32} {a71 : Nat → Int32} {a72 : Nat → Int32} {x3 : Int32} {x4 : Int32} {s0 : Int32} {s1 : Int32} {R : (Nat → Int32) × Int32 × (Nat → Int32) × (Nat → Int32) × (Nat → Int32)} (hf : fX7_pass_N_L90 Fu k3 v1_beasts v1_seats v1_laws v1_inForce a2 a3 a4 a5 a38 v69_drawn a70 a71 a72 x3 x4 s0 s1 = some R) : E G b yX7_pass cX7_pass 6 none (e_rm 4 0 0) e_X0 (e_Z G b (pD none (e_ov (kW73) (wW73 G b v1_beasts v1_meals v1_seats v1_laws v1_inForce a2 a3 a4 a5 v37_height v37_answer R.1 v69_held v69_lastMinute R.2.1 R.2.2.1 R.2.2.2.1 R.2.2.2.2) c0) n) 0 0) 90 [(0, .ref (b + 69)), (1, .ref (b + 1)), (2, .ref (b + 37)), (3, .int x3), (4, .int x4)] [.int s0, .int s1, .ref (b + 70)] (e_ov (kW73) (wW73 G b v1_beasts v1_meals v1_seats v1_laws v1_inForce a2 a3 a4 a5 v37_height v37_answer a38 v69_held v69_lastMinute v69_drawn a70 a71 a72) c0) n 0 0 := by
  unfold fX7_pass_N_L90 at hf
  obtain ⟨g9, hf⟩ := gd_some hf
  refine E.iast (es' := (wW73 G b v1_beasts v1_meals v1_seats v1_laws v1_inForce a2 a3 a4 a5 v37_height v37_answer a38 v69_held v69_lastMinute v69_drawn (va_up a70 (s1 : Int32).toNatClampNeg s0) a71 a72)) hw 8 70 dX7_pass_90 rfl rfl g9 rfl ?_
  refine E.aload_n 0 dX7_pass_91 rfl ?_
  refine E.get hw 7 69 dX7_pass_92 flX7_15 rfl rfl rfl rfl ?_
  refine E.iload 4 dX7_pass_95 rfl ?_
  refine E.iload_n 3 dX7_pass_97 rfl ?_
  obtain ⟨g10, hf⟩ := gd_some hf
  refine E.iast (es' := (wW73 G b v1_beasts v1_meals v1_seats v1_laws v1_inForce a2 a3 a4 a5 v37_height v37_answer a38 v69_held v69_lastMinute v69_drawn (va_up a70 (s1 : Int32).toNatClampNeg s0) (va_up a71 (x4 : Int32).toNatClampNeg x3) a72)) hw 9 71 dX7_pass_98 rfl rfl g10 rfl ?_
  refine E.aload_n 0 dX7_pass_99 rfl ?_
  refine E.get hw 7 69 dX7_pass_100 flX7_18 rfl rfl rfl rfl ?_
  refine E.aload_n 0 dX7_pass_103 rfl ?_
  refine E.get hw 7 69 dX7_pass_104 flX7_9 rfl rfl rfl rfl ?_
  refine E.iload 4 dX7_pass_107 rfl ?_
  obtain ⟨g11, hf⟩ := gd_some hf
  refine E.iald hw 8 70 dX7_pass_109 rfl rfl g11 ?_
  refine E.dup2_11 dX7_pass_110 rfl rfl ?_
  obtain ⟨g12, hf⟩ := gd_some hf
  refine E.iald hw 10 72 dX7_pass_111 rfl rfl g12 ?_
  refine E.iconst (v := 1) dX7_pass_112 (by decide) ?_
  refine E.iadd dX7_pass_113 ?_
  obtain ⟨g13, hf⟩ := gd_some hf
  refine E.iast (es' := (wW73 G b v1_beasts v1_meals v1_seats v1_laws v1_inForce a2 a3 a4 a5 v37_height v37_answer a38 v69_held v69_lastMinute v69_drawn (va_up a70 (s1 : Int32).toNatClampNeg s0) (va_up a71 (x4 : Int32).toNatClampNeg x3) (va_up a72 (((va_up a70 (s1 : Int32).toNatClampNeg s0) (x4 : Int32).toNatClampNeg) : Int32).toNatClampNeg ((a72 (((va_up a70 (s1 : Int32).toNatClampNeg s0) (x4 : Int32).toNatClampNeg) : Int32).toNatClampNeg) + 1)))) hw 10 72 dX7_pass_114 rfl rfl g13 rfl ?_
  refine E.iinc (q := 4) (v := (x4 + 1)) (lv' := [(4, .int (x4 + 1)), (0, .ref (b + 69)), (1, .ref (b + 1)), (2, .ref (b + 37)), (3, .int x3)]) dX7_pass_115 rfl rfl (by decide) rfl ?_
  refine E.goto dX7_pass_118 ?_
  refine E.locals [1, 2, 3, 4, 0] rfl ?_
  exact hk3 hf
def fX7_pass_N_L3 (Fu : Nat) : Nat → Int32 → Int32 → Int32 → Int32 → (Nat → Int32) → (Nat → Int32) → (Nat → Int32) → (Nat → Option Nat) → (Nat → Int32) → Int32 → (Nat → Int32) → (Nat → Int32) → (Nat → Int32) → Int32 → Int32 → Option ((Nat → Int32) × Int32 × (Nat → Int32) × (Nat → Int32) × (Nat → Int32))
  | 0, _, _, _, _, _, _, _, _, _, _, _, _, _, _, _ => none
  | k + 1, v1_beasts, v1_seats, v1_laws, v1_inForce, a2, a3, a4, a5, a38, v69_drawn, a70, a71, a72, x3, x4 => if (v1_beasts : Int32) ≤ (x4 : Int32) then (some (a38, v69_drawn, a70, a71, a72)) else ((fX10_isSeated v1_beasts v1_seats x4).bind fun r1 => (if (r1 : Int32) = (0 : Int32) then ((fX7_pass_N_L3 Fu k) v1_beasts v1_seats v1_laws v1_inForce a2 a3 a4 a5 a38 v69_drawn a70 a71 a72 x3 (x4 + 1)) else (gd x4 8 (if ((a70 (x4 : Int32).toNatClampNeg) : Int32) = ((-1 : Int32) : Int32) then ((fX7_draw v69_drawn).bind fun r3 => ((fX0_liesOf_N Fu v1_laws v1_inForce a2 a3 a4 a5 a38 x4 x3).bind fun r4 => (if (r4.1 : Int32) ≤ (r3.1 : Int32) then ((fX7_pass_N_L3 Fu k) v1_beasts v1_seats v1_laws v1_inForce a2 a3 a4 a5 r4.2 r3.2 a70 a71 a72 x3 (x4 + 1)) else (gd 1 6 ((fX10_trait a2 x4 5).bind fun r6 => ((fX0_chanceOf_N Fu v1_laws v1_inForce a2 a3 a4 a5 r4.2 x4 (a4 (1 : Int32).toNatClampNeg) r6 x3).bind fun r7 => ((fX7_draw r3.2).bind fun r8 => (if (r7.1 : Int32) ≤ (r8.1 : Int32) then (fX7_pass_N_L90 Fu (fX7_pass_N_L3 Fu k) v1_beasts v1_seats v1_laws v1_inForce a2 a3 a4 a5 r7.2 r8.2 a70 a71 a72 x3 x4 1 x4) else (fX7_pass_N_L90 Fu (fX7_pass_N_L3 Fu k) v1_beasts v1_seats v1_laws v1_inForce a2 a3 a4 a5 r7.2 r8.2 a70 a71 a72 x3 x4 0 x4))))))))) else ((fX7_pass_N_L3 Fu k) v1_beasts v1_seats v1_laws v1_inForce a2 a3 a4 a5 a38 v69_drawn a70 a71 a72 x3 (x4 + 1))))))
set_option maxHeartbeats 4000000 in
set_option maxRecDepth 100000 in
theorem tX7_pass_N_L3 {G : GT} {b : Nat} {c0 : Hp} {n : Nat} (hw : e_wf (kW73) n) {v1_meals : Int32} {v37_height : Int32} {v37_answer : Int64} {v69_held : Int32} {v69_lastMinute : Int32} {Fu : Nat} : ∀ (k : Nat) {v1_beasts : Int32} {v1_seats : Int32} {v1_laws : Int32} {v1_inForce : Int32} {a2 : Nat → Int32} {a3 : Nat → Int32} {a4 : Nat → Int32} {a5 : Nat → Option Nat} {a38 : Nat → Int32} {v69_drawn : Int32} {a70 : Nat → Int32} {a71 : Nat → Int32} {a72 : Nat → Int32} {x3 : Int32} {x4 : Int32} {R : (Nat → Int32) × Int32 × (Nat → Int32) × (Nat → Int32) × (Nat → Int32)}, fX7_pass_N_L3 Fu k v1_beasts v1_seats v1_laws v1_inForce a2 a3 a4 a5 a38 v69_drawn a70 a71 a72 x3 x4 = some R → E G b yX7_pass cX7_pass 6 none (e_rm 4 0 0) e_X0 (e_Z G b (pD none (e_ov (kW73) (wW73 G b v1_beasts v1_meals v1_seats v1_laws v1_inForce a2 a3 a4 a5 v37_height v37_answer R.1 v69_held v69_lastMinute R.2.1 R.2.2.1 R.2.2.2.1 R.2.2.2.2) c0) n) 0 0) 3 [(0, .ref (b + 69)), (1, .ref (b + 1)), (2, .ref (b + 37)), (3, .int x3), (4, .int x4)] [] (e_ov (kW73) (wW73 G b v1_beasts v1_meals v1_seats v1_laws v1_inForce a2 a3 a4 a5 v37_height v37_answer a38 v69_held v69_lastMinute v69_drawn a70 a71 a72) c0) n 0 0 := by
  intro k
  induction k with
  | zero =>
    intro _ _ _ _ _ _ _ _ _ _ _ _ _ _ _ _ hf
    have hf : (none : Option ((Nat → Int32) × Int32 × (Nat → Int32) × (Nat → Int32) × (Nat → Int32))) = some _ := hf
    cases hf
  | succ k ih =>
    intro v1_beasts v1_seats v1_laws v1_inForce a2 a3 a4 a5 a38 v69_drawn a70 a71 a72 x3 x4 R hf
    rw [fX7_pass_N_L3] at hf
    refine E.iload 4 dX7_pass_3 rfl ?_
    refine E.aload_n 1 dX7_pass_5 rfl ?_
    refine E.getN hw 0 1 dX7_pass_6 fnX7_56 rfl rfl rfl rfl ?_
    refine E.icmp_ge dX7_pass_9 (fun h => ?_) (fun h => ?_)
    · have hf := e_ift hf h
      cases hf
      exact E.vret dX7_pass_121 (Nat.le_refl _) (Nat.le_refl _) (pD_rf _ _ _)
    · have hf := e_iff hf h
      refine E.aload_n 1 dX7_pass_12 rfl ?_
      refine E.iload 4 dX7_pass_13 rfl ?_
      obtain ⟨r1, hc1, hf⟩ := e_bind hf
      refine E.callVDs (es' := (wW73 G b v1_beasts v1_meals v1_seats v1_laws v1_inForce a2 a3 a4 a5 v37_height v37_answer a38 v69_held v69_lastMinute v69_drawn a70 a71 a72)) [] [0] 0 1 dX7_pass_15 mlX7_59 hw rfl rfl rfl rfl (mX10_isSeated (hw.pick2 [0] rfl (by decide)) hc1) rfl rfl rfl rfl ⟨Nat.le_of_ble_eq_true rfl, Nat.le_of_ble_eq_true rfl⟩ rfl rfl (Nat.le_of_ble_eq_true rfl) ⟨Nat.le_refl _, Nat.le_refl _⟩ rfl ?_
      refine E.if_eq dX7_pass_18 (fun h => ?_) (fun h => ?_)
      · have hf := e_ift hf h
        refine E.iinc (q := 4) (v := (x4 + 1)) (lv' := [(4, .int (x4 + 1)), (0, .ref (b + 69)), (1, .ref (b + 1)), (2, .ref (b + 37)), (3, .int x3)]) dX7_pass_115 rfl rfl (by decide) rfl ?_
        refine E.goto dX7_pass_118 ?_
        refine E.locals [1, 2, 3, 4, 0] rfl ?_
        exact ih hf
      · have hf := e_iff hf h
        refine E.aload_n 0 dX7_pass_21 rfl ?_
        refine E.get hw 7 69 dX7_pass_22 flX7_9 rfl rfl rfl rfl ?_
        refine E.iload 4 dX7_pass_25 rfl ?_
        obtain ⟨g2, hf⟩ := gd_some hf
        refine E.iald hw 8 70 dX7_pass_27 rfl rfl g2 ?_
        refine E.iconst (v := -1) dX7_pass_28 (by decide) ?_
        refine E.icmp_ne dX7_pass_29 (fun h => ?_) (fun h => ?_)
        · have hf := e_iff hf h
          refine E.iinc (q := 4) (v := (x4 + 1)) (lv' := [(4, .int (x4 + 1)), (0, .ref (b + 69)), (1, .ref (b + 1)), (2, .ref (b + 37)), (3, .int x3)]) dX7_pass_115 rfl rfl (by decide) rfl ?_
          refine E.goto dX7_pass_118 ?_
          refine E.locals [1, 2, 3, 4, 0] rfl ?_
          exact ih hf
        · have hf := e_ift hf h
          refine E.aload_n 0 dX7_pass_32 rfl ?_
          obtain ⟨r3, hc3, hf⟩ := e_bind hf
          refine E.callVDs (es' := (wW73 G b v1_beasts v1_meals v1_seats v1_laws v1_inForce a2 a3 a4 a5 v37_height v37_answer a38 v69_held v69_lastMinute r3.2 a70 a71 a72)) [] [7] 7 69 dX7_pass_33 mlX7_63 hw rfl rfl rfl rfl (mX7_draw (hw.pick2 [7] rfl (by decide)) hc3) rfl rfl rfl rfl ⟨Nat.le_of_ble_eq_true rfl, Nat.le_of_ble_eq_true rfl⟩ rfl rfl (Nat.le_of_ble_eq_true rfl) ⟨Nat.le_refl _, Nat.le_refl _⟩ rfl ?_
          refine E.aload_n 2 dX7_pass_36 rfl ?_
          refine E.aload_n 1 dX7_pass_37 rfl ?_
          refine E.iload 4 dX7_pass_38 rfl ?_
          refine E.iload_n 3 dX7_pass_40 rfl ?_
          obtain ⟨r4, hc4, hf⟩ := e_bind hf
          refine E.callVDs (es' := (wW73 G b v1_beasts v1_meals v1_seats v1_laws v1_inForce a2 a3 a4 a5 v37_height v37_answer r4.2 v69_held v69_lastMinute r3.2 a70 a71 a72)) [.int r3.1] [0, 1, 2, 3, 4, 5, 6] 5 37 dX7_pass_41 mlX7_67 hw rfl rfl rfl rfl (mX0_liesOf_N (hw.pick2 [0, 1, 2, 3, 4, 5, 6] rfl (by decide)) hc4) rfl rfl rfl rfl ⟨Nat.le_of_ble_eq_true rfl, Nat.le_of_ble_eq_true rfl⟩ rfl rfl (Nat.le_of_ble_eq_true rfl) ⟨Nat.le_refl _, Nat.le_refl _⟩ rfl ?_
          refine E.icmp_ge dX7_pass_44 (fun h => ?_) (fun h => ?_)
          · have hf := e_ift hf h
            refine E.iinc (q := 4) (v := (x4 + 1)) (lv' := [(4, .int (x4 + 1)), (0, .ref (b + 69)), (1, .ref (b + 1)), (2, .ref (b + 37)), (3, .int x3)]) dX7_pass_115 rfl rfl (by decide) rfl ?_
            refine E.goto dX7_pass_118 ?_
            refine E.locals [1, 2, 3, 4, 0] rfl ?_
            exact ih hf
          · have hf := e_iff hf h
            refine E.aload_n 2 dX7_pass_47 rfl ?_
            refine E.aload_n 1 dX7_pass_48 rfl ?_
            refine E.iload 4 dX7_pass_49 rfl ?_
            refine E.aload_n 1 dX7_pass_51 rfl ?_
            refine E.getN hw 0 1 dX7_pass_52 fnX7_53 rfl rfl rfl rfl ?_
            refine E.iconst (v := 1) dX7_pass_55 (by decide) ?_
            obtain ⟨g5, hf⟩ := gd_some hf
            refine E.iald hw 3 4 dX7_pass_56 rfl rfl g5 ?_
            refine E.aload_n 1 dX7_pass_57 rfl ?_
            refine E.iload 4 dX7_pass_58 rfl ?_
            refine E.iconst (v := 5) dX7_pass_60 (by decide) ?_
            obtain ⟨r6, hc6, hf⟩ := e_bind hf
            refine E.callVDs (es' := (wW73 G b v1_beasts v1_meals v1_seats v1_laws v1_inForce a2 a3 a4 a5 v37_height v37_answer r4.2 v69_held v69_lastMinute r3.2 a70 a71 a72)) [.int (a4 (1 : Int32).toNatClampNeg), .int x4, .ref (b + 1), .ref (b + 37)] [0, 1] 0 1 dX7_pass_61 mlX7_73 hw rfl rfl rfl rfl (mX10_trait (hw.pick2 [0, 1] rfl (by decide)) hc6) rfl rfl rfl rfl ⟨Nat.le_of_ble_eq_true rfl, Nat.le_of_ble_eq_true rfl⟩ rfl rfl (Nat.le_of_ble_eq_true rfl) ⟨Nat.le_refl _, Nat.le_refl _⟩ rfl ?_
            refine E.iload_n 3 dX7_pass_64 rfl ?_
            obtain ⟨r7, hc7, hf⟩ := e_bind hf
            refine E.callVDs (es' := (wW73 G b v1_beasts v1_meals v1_seats v1_laws v1_inForce a2 a3 a4 a5 v37_height v37_answer r7.2 v69_held v69_lastMinute r3.2 a70 a71 a72)) [] [0, 1, 2, 3, 4, 5, 6] 5 37 dX7_pass_65 mlX7_77 hw rfl rfl rfl rfl (mX0_chanceOf_N (hw.pick2 [0, 1, 2, 3, 4, 5, 6] rfl (by decide)) hc7) rfl rfl rfl rfl ⟨Nat.le_of_ble_eq_true rfl, Nat.le_of_ble_eq_true rfl⟩ rfl rfl (Nat.le_of_ble_eq_true rfl) ⟨Nat.le_refl _, Nat.le_refl _⟩ rfl ?_
            refine E.istore (lv' := [(5, .int r7.1), (0, .ref (b + 69)), (1, .ref (b + 1)), (2, .ref (b + 37)), (3, .int x3), (4, .int x4)]) dX7_pass_68 (by decide) rfl ?_
            refine E.aload_n 1 dX7_pass_70 rfl ?_
            refine E.get hw 7 69 dX7_pass_71 flX7_9 rfl rfl rfl rfl ?_
            refine E.iload 5 dX7_pass_74 rfl ?_
            refine E.aload_n 1 dX7_pass_76 rfl ?_
            obtain ⟨r8, hc8, hf⟩ := e_bind hf
            refine E.callVDs (es' := (wW73 G b v1_beasts v1_meals v1_seats v1_laws v1_inForce a2 a3 a4 a5 v37_height v37_answer r7.2 v69_held v69_lastMinute r8.2 a70 a71 a72)) [.int x4, .ref (b + 70)] [7] 7 69 dX7_pass_77 mlX7_63 hw rfl rfl rfl rfl (mX7_draw (hw.pick2 [7] rfl (by decide)) hc8) rfl rfl rfl rfl ⟨Nat.le_of_ble_eq_true rfl, Nat.le_of_ble_eq_true rfl⟩ rfl rfl (Nat.le_of_ble_eq_true rfl) ⟨Nat.le_refl _, Nat.le_refl _⟩ rfl ?_
            refine E.iload 0 dX7_pass_80 rfl ?_
            refine E.icmp_ge dX7_pass_82 (fun h => ?_) (fun h => ?_)
            · have hf := e_ift hf h
              refine E.iconst (v := 1) dX7_pass_89 (by decide) ?_
              refine E.locals [1, 2, 3, 4, 5] rfl ?_
              exact tX7_pass_N_L90 hw ih hf
            · have hf := e_iff hf h
              refine E.iconst (v := 0) dX7_pass_85 (by decide) ?_
              refine E.goto dX7_pass_86 ?_
              refine E.locals [1, 2, 3, 4, 5] rfl ?_
              exact tX7_pass_N_L90 hw ih hf
def fX7_pass_N (Fu : Nat) (v1_beasts : Int32) (v1_seats : Int32) (v1_laws : Int32) (v1_inForce : Int32) (a2 : Nat → Int32) (a3 : Nat → Int32) (a4 : Nat → Int32) (a5 : Nat → Option Nat) (a38 : Nat → Int32) (v69_drawn : Int32) (a70 : Nat → Int32) (a71 : Nat → Int32) (a72 : Nat → Int32) (x3 : Int32) : Option ((Nat → Int32) × Int32 × (Nat → Int32) × (Nat → Int32) × (Nat → Int32)) := fX7_pass_N_L3 Fu Fu v1_beasts v1_seats v1_laws v1_inForce a2 a3 a4 a5 a38 v69_drawn a70 a71 a72 x3 0
set_option maxHeartbeats 4000000 in
set_option maxRecDepth 100000 in
theorem tX7_pass_N {G : GT} {b : Nat} {c0 : Hp} {n : Nat} (hw : e_wf (kW73) n) {v1_meals : Int32} {v37_height : Int32} {v37_answer : Int64} {v69_held : Int32} {v69_lastMinute : Int32} {Fu : Nat} {v1_beasts : Int32} {v1_seats : Int32} {v1_laws : Int32} {v1_inForce : Int32} {a2 : Nat → Int32} {a3 : Nat → Int32} {a4 : Nat → Int32} {a5 : Nat → Option Nat} {a38 : Nat → Int32} {v69_drawn : Int32} {a70 : Nat → Int32} {a71 : Nat → Int32} {a72 : Nat → Int32} {x3 : Int32} {R : (Nat → Int32) × Int32 × (Nat → Int32) × (Nat → Int32) × (Nat → Int32)} (hf : fX7_pass_N Fu v1_beasts v1_seats v1_laws v1_inForce a2 a3 a4 a5 a38 v69_drawn a70 a71 a72 x3 = some R) : E G b yX7_pass cX7_pass 6 none (e_rm 4 0 0) e_X0 (e_Z G b (pD none (e_ov (kW73) (wW73 G b v1_beasts v1_meals v1_seats v1_laws v1_inForce a2 a3 a4 a5 v37_height v37_answer R.1 v69_held v69_lastMinute R.2.1 R.2.2.1 R.2.2.2.1 R.2.2.2.2) c0) n) 0 0) 0 [(0, .ref (b + 69)), (1, .ref (b + 1)), (2, .ref (b + 37)), (3, .int x3)] [] (e_ov (kW73) (wW73 G b v1_beasts v1_meals v1_seats v1_laws v1_inForce a2 a3 a4 a5 v37_height v37_answer a38 v69_held v69_lastMinute v69_drawn a70 a71 a72) c0) n 0 0 := by
  unfold fX7_pass_N at hf
  refine E.iconst (v := 0) dX7_pass_0 (by decide) ?_
  refine E.istore (lv' := [(4, .int 0), (0, .ref (b + 69)), (1, .ref (b + 1)), (2, .ref (b + 37)), (3, .int x3)]) dX7_pass_1 (by decide) rfl ?_
  refine E.locals [1, 2, 3, 4, 0] rfl ?_
  exact tX7_pass_N_L3 hw _ hf
set_option maxRecDepth 100000 in
theorem mX7_pass_N {G : GT} {b : Nat} {c0 : Hp} {n : Nat} (hw : e_wf (kW73) n) {v1_meals : Int32} {v37_height : Int32} {v37_answer : Int64} {v69_held : Int32} {v69_lastMinute : Int32} {Fu : Nat} {v1_beasts : Int32} {v1_seats : Int32} {v1_laws : Int32} {v1_inForce : Int32} {a2 : Nat → Int32} {a3 : Nat → Int32} {a4 : Nat → Int32} {a5 : Nat → Option Nat} {a38 : Nat → Int32} {v69_drawn : Int32} {a70 : Nat → Int32} {a71 : Nat → Int32} {a72 : Nat → Int32} {x3 : Int32} {R : (Nat → Int32) × Int32 × (Nat → Int32) × (Nat → Int32) × (Nat → Int32)} (hf : fX7_pass_N Fu v1_beasts v1_seats v1_laws v1_inForce a2 a3 a4 a5 a38 v69_drawn a70 a71 a72 x3 = some R) : e_C G b yX7_pass cX7_pass 6 none 4 0 0 [.ref (b + 69), .ref (b + 1), .ref (b + 37), .int x3] (e_ov (kW73) (wW73 G b v1_beasts v1_meals v1_seats v1_laws v1_inForce a2 a3 a4 a5 v37_height v37_answer a38 v69_held v69_lastMinute v69_drawn a70 a71 a72) c0) n (pD none (e_ov (kW73) (wW73 G b v1_beasts v1_meals v1_seats v1_laws v1_inForce a2 a3 a4 a5 v37_height v37_answer R.1 v69_held v69_lastMinute R.2.1 R.2.2.1 R.2.2.2.1 R.2.2.2.2) c0) n) := e_C.of (by decide) (Nat.le_of_ble_eq_true rfl) (tX7_pass_N hw hf)
def fX7_hold_N_L38 (Fu : Nat) : Nat → Int32 → Int32 → Int32 → Int32 → (Nat → Int32) → (Nat → Int32) → (Nat → Int32) → (Nat → Option Nat) → (Nat → Int32) → Int32 → Int32 → Int32 → (Nat → Int32) → (Nat → Int32) → (Nat → Int32) → Int32 → Int32 → Option (Int32 × (Nat → Int32) × Int32 × Int32 × Int32 × (Nat → Int32) × (Nat → Int32) × (Nat → Int32))
  | 0, _, _, _, _, _, _, _, _, _, _, _, _, _, _, _, _, _ => none
  | k + 1, v1_beasts, v1_seats, v1_laws, v1_inForce, a2, a3, a4, a5, a38, v69_held, v69_lastMinute, v69_drawn, a70, a71, a72, x4, x5 => if (60 : Int32) ≤ (x5 : Int32) then (some (2, a38, v69_held, v69_lastMinute, v69_drawn, a70, a71, a72)) else ((fX7_pass_N Fu v1_beasts v1_seats v1_laws v1_inForce a2 a3 a4 a5 a38 v69_drawn a70 a71 a72 x5).bind fun r4 => (gd 0 2 (gd 0 6 (if ((r4.2.2.2.2 (0 : Int32).toNatClampNeg) : Int32) < ((a4 (0 : Int32).toNatClampNeg) : Int32) then (gd 1 2 (gd 0 6 (if ((a4 (0 : Int32).toNatClampNeg) : Int32) ≤ ((x4 - (r4.2.2.2.2 (1 : Int32).toNatClampNeg)) : Int32) then ((fX7_hold_N_L38 Fu k) v1_beasts v1_seats v1_laws v1_inForce a2 a3 a4 a5 r4.1 v69_held x5 r4.2.1 r4.2.2.1 r4.2.2.2.1 r4.2.2.2.2 x4 (x5 + 1)) else (some (1, r4.1, v69_held, x5, r4.2.1, r4.2.2.1, r4.2.2.2.1, r4.2.2.2.2))))) else (some (0, r4.1, v69_held, x5, r4.2.1, r4.2.2.1, r4.2.2.2.1, r4.2.2.2.2))))))
set_option maxHeartbeats 4000000 in
set_option maxRecDepth 100000 in
theorem tX7_hold_N_L38 {G : GT} {b : Nat} {c0 : Hp} {n : Nat} (hw : e_wf (kW73) n) {v1_meals : Int32} {v37_height : Int32} {v37_answer : Int64} {Fu : Nat} : ∀ (k : Nat) {v1_beasts : Int32} {v1_seats : Int32} {v1_laws : Int32} {v1_inForce : Int32} {a2 : Nat → Int32} {a3 : Nat → Int32} {a4 : Nat → Int32} {a5 : Nat → Option Nat} {a38 : Nat → Int32} {v69_held : Int32} {v69_lastMinute : Int32} {v69_drawn : Int32} {a70 : Nat → Int32} {a71 : Nat → Int32} {a72 : Nat → Int32} {x4 : Int32} {x5 : Int32} {R : Int32 × (Nat → Int32) × Int32 × Int32 × Int32 × (Nat → Int32) × (Nat → Int32) × (Nat → Int32)}, fX7_hold_N_L38 Fu k v1_beasts v1_seats v1_laws v1_inForce a2 a3 a4 a5 a38 v69_held v69_lastMinute v69_drawn a70 a71 a72 x4 x5 = some R → E G b yX7_hold cX7_hold 6 (some .int) (e_rm 5 0 0) e_X0 (e_Z G b (pD (some (.int R.1)) (e_ov (kW73) (wW73 G b v1_beasts v1_meals v1_seats v1_laws v1_inForce a2 a3 a4 a5 v37_height v37_answer R.2.1 R.2.2.1 R.2.2.2.1 R.2.2.2.2.1 R.2.2.2.2.2.1 R.2.2.2.2.2.2.1 R.2.2.2.2.2.2.2) c0) n) 0 0) 38 [(0, .ref (b + 69)), (1, .ref (b + 1)), (2, .ref (b + 37)), (4, .int x4), (5, .int x5)] [] (e_ov (kW73) (wW73 G b v1_beasts v1_meals v1_seats v1_laws v1_inForce a2 a3 a4 a5 v37_height v37_answer a38 v69_held v69_lastMinute v69_drawn a70 a71 a72) c0) n 0 0 := by
  intro k
  induction k with
  | zero =>
    intro _ _ _ _ _ _ _ _ _ _ _ _ _ _ _ _ _ _ hf
    have hf : (none : Option (Int32 × (Nat → Int32) × Int32 × Int32 × Int32 × (Nat → Int32) × (Nat → Int32) × (Nat → Int32))) = some _ := hf
    cases hf
  | succ k ih =>
    intro v1_beasts v1_seats v1_laws v1_inForce a2 a3 a4 a5 a38 v69_held v69_lastMinute v69_drawn a70 a71 a72 x4 x5 R hf
    rw [fX7_hold_N_L38] at hf
    refine E.iload 4 dX7_hold_38 rfl ?_
    refine E.bipush (v := 60) dX7_hold_40 (by decide) ?_
    refine E.icmp_ge dX7_hold_42 (fun h => ?_) (fun h => ?_)
    · have hf := e_ift hf h
      refine E.iconst (v := 2) dX7_hold_102 (by decide) ?_
      cases hf
      exact E.iret dX7_hold_103 (Nat.le_refl _) (Nat.le_refl _) (pD_rf _ _ _)
    · have hf := e_iff hf h
      refine E.aload_n 0 dX7_hold_45 rfl ?_
      refine E.iload 4 dX7_hold_46 rfl ?_
      refine E.put (es' := (wW73 G b v1_beasts v1_meals v1_seats v1_laws v1_inForce a2 a3 a4 a5 v37_height v37_answer a38 v69_held x5 v69_drawn a70 a71 a72)) hw 7 69 dX7_hold_48 flX7_46 ftX7 rfl rfl rfl rfl rfl rfl (Nat.le_of_ble_eq_true rfl) rfl ?_
      refine E.aload_n 0 dX7_hold_51 rfl ?_
      refine E.aload_n 1 dX7_hold_52 rfl ?_
      refine E.aload_n 2 dX7_hold_53 rfl ?_
      refine E.iload 4 dX7_hold_54 rfl ?_
      obtain ⟨r4, hc4, hf⟩ := e_bind hf
      refine E.callVD [] dX7_hold_56 mlX7_49 ⟨hw.sub (p := 7) rfl, e_ov_get hw.1 (p := 7) rfl rfl⟩ rfl rfl (mX7_pass_N hw hc4) ⟨Nat.le_of_ble_eq_true rfl, Nat.le_of_ble_eq_true rfl⟩ rfl rfl (Nat.le_of_ble_eq_true rfl) ⟨Nat.le_refl _, Nat.le_refl _⟩ rfl ?_
      refine E.aload_n 0 dX7_hold_59 rfl ?_
      refine E.get hw 7 69 dX7_hold_60 flX7_18 rfl rfl rfl rfl ?_
      refine E.iconst (v := 0) dX7_hold_63 (by decide) ?_
      obtain ⟨g5, hf⟩ := gd_some hf
      refine E.iald hw 10 72 dX7_hold_64 rfl rfl g5 ?_
      refine E.aload_n 1 dX7_hold_65 rfl ?_
      refine E.getN hw 0 1 dX7_hold_66 fnX7_53 rfl rfl rfl rfl ?_
      refine E.iconst (v := 0) dX7_hold_69 (by decide) ?_
      obtain ⟨g6, hf⟩ := gd_some hf
      refine E.iald hw 3 4 dX7_hold_70 rfl rfl g6 ?_
      refine E.icmp_lt dX7_hold_71 (fun h => ?_) (fun h => ?_)
      · have hf := e_ift hf h
        refine E.iload 3 dX7_hold_76 rfl ?_
        refine E.aload_n 0 dX7_hold_78 rfl ?_
        refine E.get hw 7 69 dX7_hold_79 flX7_18 rfl rfl rfl rfl ?_
        refine E.iconst (v := 1) dX7_hold_82 (by decide) ?_
        obtain ⟨g7, hf⟩ := gd_some hf
        refine E.iald hw 10 72 dX7_hold_83 rfl rfl g7 ?_
        refine E.isub dX7_hold_84 ?_
        refine E.aload_n 1 dX7_hold_85 rfl ?_
        refine E.getN hw 0 1 dX7_hold_86 fnX7_53 rfl rfl rfl rfl ?_
        refine E.iconst (v := 0) dX7_hold_89 (by decide) ?_
        obtain ⟨g8, hf⟩ := gd_some hf
        refine E.iald hw 3 4 dX7_hold_90 rfl rfl g8 ?_
        refine E.icmp_ge dX7_hold_91 (fun h => ?_) (fun h => ?_)
        · have hf := e_ift hf h
          refine E.iinc (q := 4) (v := (x5 + 1)) (lv' := [(5, .int (x5 + 1)), (0, .ref (b + 69)), (1, .ref (b + 1)), (2, .ref (b + 37)), (4, .int x4)]) dX7_hold_96 rfl rfl (by decide) rfl ?_
          refine E.goto dX7_hold_99 ?_
          refine E.locals [1, 2, 3, 4, 0] rfl ?_
          exact ih hf
        · have hf := e_iff hf h
          refine E.iconst (v := 1) dX7_hold_94 (by decide) ?_
          cases hf
          exact E.iret dX7_hold_95 (Nat.le_refl _) (Nat.le_refl _) (pD_rf _ _ _)
      · have hf := e_iff hf h
        refine E.iconst (v := 0) dX7_hold_74 (by decide) ?_
        cases hf
        exact E.iret dX7_hold_75 (Nat.le_refl _) (Nat.le_refl _) (pD_rf _ _ _)
def fX7_hold_N (Fu : Nat) (v1_beasts : Int32) (v1_seats : Int32) (v1_laws : Int32) (v1_inForce : Int32) (a2 : Nat → Int32) (a3 : Nat → Int32) (a4 : Nat → Int32) (a5 : Nat → Option Nat) (a38 : Nat → Int32) (v69_held : Int32) (v69_lastMinute : Int32) (v69_drawn : Int32) (a70 : Nat → Int32) (a71 : Nat → Int32) (a72 : Nat → Int32) (x3 : Int32) : Option (Int32 × (Nat → Int32) × Int32 × Int32 × Int32 × (Nat → Int32) × (Nat → Int32) × (Nat → Int32)) := (fJ7_fill_53178 Fu 8 a70 (-1 : Int32)).bind fun r1 => ((fJ7_fill_53178 Fu 2 a72 0).bind fun r2 => ((fJ6_bitCount_0f7a4 v1_seats).bind fun r3 => (fX7_hold_N_L38 Fu Fu v1_beasts v1_seats v1_laws v1_inForce a2 a3 a4 a5 a38 1 v69_lastMinute x3 r1 a71 r2 r3 0)))
set_option maxHeartbeats 4000000 in
set_option maxRecDepth 100000 in
theorem tX7_hold_N {G : GT} {b : Nat} {c0 : Hp} {n : Nat} (hw : e_wf (kW73) n) {v1_meals : Int32} {v37_height : Int32} {v37_answer : Int64} {Fu : Nat} {v1_beasts : Int32} {v1_seats : Int32} {v1_laws : Int32} {v1_inForce : Int32} {a2 : Nat → Int32} {a3 : Nat → Int32} {a4 : Nat → Int32} {a5 : Nat → Option Nat} {a38 : Nat → Int32} {v69_held : Int32} {v69_lastMinute : Int32} {v69_drawn : Int32} {a70 : Nat → Int32} {a71 : Nat → Int32} {a72 : Nat → Int32} {x3 : Int32} {R : Int32 × (Nat → Int32) × Int32 × Int32 × Int32 × (Nat → Int32) × (Nat → Int32) × (Nat → Int32)} (hf : fX7_hold_N Fu v1_beasts v1_seats v1_laws v1_inForce a2 a3 a4 a5 a38 v69_held v69_lastMinute v69_drawn a70 a71 a72 x3 = some R) : E G b yX7_hold cX7_hold 6 (some .int) (e_rm 5 0 0) e_X0 (e_Z G b (pD (some (.int R.1)) (e_ov (kW73) (wW73 G b v1_beasts v1_meals v1_seats v1_laws v1_inForce a2 a3 a4 a5 v37_height v37_answer R.2.1 R.2.2.1 R.2.2.2.1 R.2.2.2.2.1 R.2.2.2.2.2.1 R.2.2.2.2.2.2.1 R.2.2.2.2.2.2.2) c0) n) 0 0) 0 [(0, .ref (b + 69)), (1, .ref (b + 1)), (2, .ref (b + 37)), (3, .int x3)] [] (e_ov (kW73) (wW73 G b v1_beasts v1_meals v1_seats v1_laws v1_inForce a2 a3 a4 a5 v37_height v37_answer a38 v69_held v69_lastMinute v69_drawn a70 a71 a72) c0) n 0 0 := by
  unfold fX7_hold_N at hf
  refine E.aload_n 0 dX7_hold_0 rfl ?_
  refine E.iconst (v := 1) dX7_hold_1 (by decide) ?_
  refine E.put (es' := (wW73 G b v1_beasts v1_meals v1_seats v1_laws v1_inForce a2 a3 a4 a5 v37_height v37_answer a38 1 v69_lastMinute v69_drawn a70 a71 a72)) hw 7 69 dX7_hold_2 flX7_21 ftX7 rfl rfl rfl rfl rfl rfl (Nat.le_of_ble_eq_true rfl) rfl ?_
  refine E.aload_n 0 dX7_hold_5 rfl ?_
  refine E.iload_n 3 dX7_hold_6 rfl ?_
  refine E.put (es' := (wW73 G b v1_beasts v1_meals v1_seats v1_laws v1_inForce a2 a3 a4 a5 v37_height v37_answer a38 1 v69_lastMinute x3 a70 a71 a72)) hw 7 69 dX7_hold_7 flX7_25 ftX7 rfl rfl rfl rfl rfl rfl (Nat.le_of_ble_eq_true rfl) rfl ?_
  refine E.aload_n 0 dX7_hold_10 rfl ?_
  refine E.get hw 7 69 dX7_hold_11 flX7_9 rfl rfl rfl rfl ?_
  refine E.iconst (v := -1) dX7_hold_14 (by decide) ?_
  obtain ⟨r1, hc1, hf⟩ := e_bind hf
  refine E.callSDs (es' := (wW73 G b v1_beasts v1_meals v1_seats v1_laws v1_inForce a2 a3 a4 a5 v37_height v37_answer a38 1 v69_lastMinute x3 r1 a71 a72)) [] [8] dX7_hold_15 mlX7_29 hw (mJ7_fill_53178 (hw.pick2 [8] rfl (by decide)) hc1) rfl rfl rfl rfl ⟨Nat.le_of_ble_eq_true rfl, Nat.le_of_ble_eq_true rfl⟩ rfl rfl (Nat.le_of_ble_eq_true rfl) ⟨Nat.le_refl _, Nat.le_refl _⟩ rfl ?_
  refine E.aload_n 0 dX7_hold_18 rfl ?_
  refine E.get hw 7 69 dX7_hold_19 flX7_18 rfl rfl rfl rfl ?_
  refine E.iconst (v := 0) dX7_hold_22 (by decide) ?_
  obtain ⟨r2, hc2, hf⟩ := e_bind hf
  refine E.callSDs (es' := (wW73 G b v1_beasts v1_meals v1_seats v1_laws v1_inForce a2 a3 a4 a5 v37_height v37_answer a38 1 v69_lastMinute x3 r1 a71 r2)) [] [10] dX7_hold_23 mlX7_29 hw (mJ7_fill_53178 (hw.pick2 [10] rfl (by decide)) hc2) rfl rfl rfl rfl ⟨Nat.le_of_ble_eq_true rfl, Nat.le_of_ble_eq_true rfl⟩ rfl rfl (Nat.le_of_ble_eq_true rfl) ⟨Nat.le_refl _, Nat.le_refl _⟩ rfl ?_
  refine E.aload_n 1 dX7_hold_26 rfl ?_
  refine E.getN hw 0 1 dX7_hold_27 fnX7_35 rfl rfl rfl rfl ?_
  obtain ⟨r3, hc3, hf⟩ := e_bind hf
  refine E.callSD [] dX7_hold_30 mlX7_40 (mJ6_bitCount_0f7a4 hc3) ⟨Nat.le_of_ble_eq_true rfl, Nat.le_of_ble_eq_true rfl⟩ rfl rfl (Nat.le_of_ble_eq_true rfl) ⟨Nat.le_refl _, Nat.le_refl _⟩ rfl ?_
  refine E.istore (lv' := [(4, .int r3), (0, .ref (b + 69)), (1, .ref (b + 1)), (2, .ref (b + 37)), (3, .int x3)]) dX7_hold_33 (by decide) rfl ?_
  refine E.iconst (v := 0) dX7_hold_35 (by decide) ?_
  refine E.istore (lv' := [(5, .int 0), (4, .int r3), (0, .ref (b + 69)), (1, .ref (b + 1)), (2, .ref (b + 37)), (3, .int x3)]) dX7_hold_36 (by decide) rfl ?_
  refine E.locals [2, 3, 4, 1, 0] rfl ?_
  exact tX7_hold_N_L38 hw _ hf
set_option maxRecDepth 100000 in
theorem mX7_hold_N {G : GT} {b : Nat} {c0 : Hp} {n : Nat} (hw : e_wf (kW73) n) {v1_meals : Int32} {v37_height : Int32} {v37_answer : Int64} {Fu : Nat} {v1_beasts : Int32} {v1_seats : Int32} {v1_laws : Int32} {v1_inForce : Int32} {a2 : Nat → Int32} {a3 : Nat → Int32} {a4 : Nat → Int32} {a5 : Nat → Option Nat} {a38 : Nat → Int32} {v69_held : Int32} {v69_lastMinute : Int32} {v69_drawn : Int32} {a70 : Nat → Int32} {a71 : Nat → Int32} {a72 : Nat → Int32} {x3 : Int32} {R : Int32 × (Nat → Int32) × Int32 × Int32 × Int32 × (Nat → Int32) × (Nat → Int32) × (Nat → Int32)} (hf : fX7_hold_N Fu v1_beasts v1_seats v1_laws v1_inForce a2 a3 a4 a5 a38 v69_held v69_lastMinute v69_drawn a70 a71 a72 x3 = some R) : e_C G b yX7_hold cX7_hold 6 (some .int) 5 0 0 [.ref (b + 69), .ref (b + 1), .ref (b + 37), .int x3] (e_ov (kW73) (wW73 G b v1_beasts v1_meals v1_seats v1_laws v1_inForce a2 a3 a4 a5 v37_height v37_answer a38 v69_held v69_lastMinute v69_drawn a70 a71 a72) c0) n (pD (some (.int R.1)) (e_ov (kW73) (wW73 G b v1_beasts v1_meals v1_seats v1_laws v1_inForce a2 a3 a4 a5 v37_height v37_answer R.2.1 R.2.2.1 R.2.2.2.1 R.2.2.2.2.1 R.2.2.2.2.2.1 R.2.2.2.2.2.2.1 R.2.2.2.2.2.2.2) c0) n) := e_C.of (by decide) (Nat.le_of_ble_eq_true rfl) (tX7_hold_N hw hf)
abbrev kW74 : List Nat := [0, 1, 2, 3, 4, 5, 37, 38, 42, 69, 70, 71, 72, 78]
abbrev wW74 (G : GT) (b  : Nat) (v0_faultPlace : Int32) (v0_quashedRows : Int32) (v0_lastRefusal : Int32) (v1_beasts : Int32) (v1_meals : Int32) (v1_seats : Int32) (v1_laws : Int32) (v1_inForce : Int32) (a2 : Nat → Int32) (a3 : Nat → Int32) (a4 : Nat → Int32) (a5 : Nat → Option Nat) (v37_height : Int32) (v37_answer : Int64) (a38 : Nat → Int32) (v42_beasts : Int32) (v42_seats : Int32) (v42_seated : Int32) (v42_quota : Int32) (v42_known : Int32) (v42_surveyed : Int32) (v42_steadyBench : Int32) (v42_steadyWays : Int32) (v42_steadySwing : Int64) (v69_held : Int32) (v69_lastMinute : Int32) (v69_drawn : Int32) (a70 : Nat → Int32) (a71 : Nat → Int32) (a72 : Nat → Int32) (a78 : Nat → Int32) : List va_E := [.inr (11, [.ref (b + 1), .ref (b + 10), .ref (b + 29), .ref (b + 30), .ref (b + 32), .ref (b + 37), .ref (b + 40), .ref (b + 42), .ref (b + 69), .ref (b + 73), .ref (b + 74), .ref (b + 76), .ref (b + 78), .int v0_faultPlace, .int v0_quashedRows, .int v0_lastRefusal]), .inr (10, [.ref (b + 2), .ref (b + 3), .ref (b + 4), .ref (b + 5), .ref (b + 6), .int v1_beasts, .int v1_meals, .int v1_seats, .int v1_laws, .int v1_inForce]), aI G 48 a2, aI G 8 a3, aI G 6 a4, aQ G 4 6 a5, .inr (0, [.ref (b + 38), .ref (b + 39), .int v37_height, .long v37_answer]), aI G 10 a38, .inr (1, [.ref (b + 43), .ref (b + 44), .ref (b + 45), .ref (b + 46), .ref (b + 47), .ref (b + 48), .ref (b + 49), .ref (b + 50), .ref (b + 67), .int v42_beasts, .int v42_seats, .int v42_seated, .int v42_quota, .int v42_known, .int v42_surveyed, .int v42_steadyBench, .int v42_steadyWays, .long v42_steadySwing]), .inr (7, [.ref (b + 70), .ref (b + 71), .ref (b + 72), .int v69_held, .int v69_lastMinute, .int v69_drawn]), aI G 8 a70, aI G 8 a71, aI G 2 a72, aI G 7 a78]
def fX11_sitting_N_L11 (Fu : Nat) (v0_lastRefusal : Int32) (v1_beasts : Int32) (v1_seats : Int32) (v1_laws : Int32) (v1_inForce : Int32) (a2 : Nat → Int32) (a3 : Nat → Int32) (a4 : Nat → Int32) (a5 : Nat → Option Nat) (a38 : Nat → Int32) (v42_known : Int32) (v69_held : Int32) (v69_lastMinute : Int32) (v69_drawn : Int32) (a70 : Nat → Int32) (a71 : Nat → Int32) (a72 : Nat → Int32) (a78 : Nat → Int32) : Option (Int32 × Int32 × (Nat → Int32) × Int32 × Int32 × Int32 × Int32 × (Nat → Int32) × (Nat → Int32) × (Nat → Int32) × (Nat → Int32)) := (fX11_refuse v0_lastRefusal a78 (-1 : Int32)).bind fun r3 => (some (r3.1, r3.2.1, a38, v42_known, v69_held, v69_lastMinute, v69_drawn, a70, a71, a72, r3.2.2))
set_option maxHeartbeats 4000000 in
set_option maxRecDepth 100000 in
theorem tX11_sitting_N_L11 {G : GT} {b : Nat} {c0 : Hp} {n : Nat} (hw : e_wf (kW74) n) {v0_faultPlace : Int32} {v0_quashedRows : Int32} {v1_meals : Int32} {v37_height : Int32} {v37_answer : Int64} {v42_beasts : Int32} {v42_seats : Int32} {v42_seated : Int32} {v42_quota : Int32} {v42_surveyed : Int32} {v42_steadyBench : Int32} {v42_steadyWays : Int32} {v42_steadySwing : Int64} {Fu : Nat} {v0_lastRefusal : Int32} {v1_beasts : Int32} {v1_seats : Int32} {v1_laws : Int32} {v1_inForce : Int32} {a2 : Nat → Int32} {a3 : Nat → Int32} {a4 : Nat → Int32} {a5 : Nat → Option Nat} {a38 : Nat → Int32} {v42_known : Int32} {v69_held : Int32} {v69_lastMinute : Int32} {v69_drawn : Int32} {a70 : Nat → Int32} {a71 : Nat → Int32} {a72 : Nat → Int32} {a78 : Nat → Int32} {R : Int32 × Int32 × (Nat → Int32) × Int32 × Int32 × Int32 × Int32 × (Nat → Int32) × (Nat → Int32) × (Nat → Int32) × (Nat → Int32)} (hf : fX11_sitting_N_L11 Fu v0_lastRefusal v1_beasts v1_seats v1_laws v1_inForce a2 a3 a4 a5 a38 v42_known v69_held v69_lastMinute v69_drawn a70 a71 a72 a78 = some R) : E G b yX11_sitting cX11_sitting 2 (some .int) (e_rm 6 0 0) e_X0 (e_Z G b (pD (some (.int R.1)) (e_ov (kW74) (wW74 G b v0_faultPlace v0_quashedRows R.2.1 v1_beasts v1_meals v1_seats v1_laws v1_inForce a2 a3 a4 a5 v37_height v37_answer R.2.2.1 v42_beasts v42_seats v42_seated v42_quota R.2.2.2.1 v42_surveyed v42_steadyBench v42_steadyWays v42_steadySwing R.2.2.2.2.1 R.2.2.2.2.2.1 R.2.2.2.2.2.2.1 R.2.2.2.2.2.2.2.1 R.2.2.2.2.2.2.2.2.1 R.2.2.2.2.2.2.2.2.2.1 R.2.2.2.2.2.2.2.2.2.2) c0) n) 0 0) 11 [(0, .ref (b + 0))] [] (e_ov (kW74) (wW74 G b v0_faultPlace v0_quashedRows v0_lastRefusal v1_beasts v1_meals v1_seats v1_laws v1_inForce a2 a3 a4 a5 v37_height v37_answer a38 v42_beasts v42_seats v42_seated v42_quota v42_known v42_surveyed v42_steadyBench v42_steadyWays v42_steadySwing v69_held v69_lastMinute v69_drawn a70 a71 a72 a78) c0) n 0 0 := by
  unfold fX11_sitting_N_L11 at hf
  refine E.aload_n 0 dX11_sitting_11 rfl ?_
  refine E.iconst (v := -1) dX11_sitting_12 (by decide) ?_
  obtain ⟨r3, hc3, hf⟩ := e_bind hf
  refine E.callVDs (es' := (wW74 G b v0_faultPlace v0_quashedRows r3.2.1 v1_beasts v1_meals v1_seats v1_laws v1_inForce a2 a3 a4 a5 v37_height v37_answer a38 v42_beasts v42_seats v42_seated v42_quota v42_known v42_surveyed v42_steadyBench v42_steadyWays v42_steadySwing v69_held v69_lastMinute v69_drawn a70 a71 a72 r3.2.2)) [] [0, 13] 0 0 dX11_sitting_13 mlX11_97 hw rfl rfl rfl rfl (mX11_refuse (hw.pick2 [0, 13] rfl (by decide)) hc3) rfl rfl rfl rfl ⟨Nat.le_of_ble_eq_true rfl, Nat.le_of_ble_eq_true rfl⟩ rfl rfl (Nat.le_of_ble_eq_true rfl) ⟨Nat.le_refl _, Nat.le_refl _⟩ rfl ?_
  cases hf
  exact E.iret dX11_sitting_16 (Nat.le_refl _) (Nat.le_refl _) (pD_rf _ _ _)
def fX11_sitting_N (Fu : Nat) (v0_lastRefusal : Int32) (v1_beasts : Int32) (v1_seats : Int32) (v1_laws : Int32) (v1_inForce : Int32) (a2 : Nat → Int32) (a3 : Nat → Int32) (a4 : Nat → Int32) (a5 : Nat → Option Nat) (a38 : Nat → Int32) (v42_known : Int32) (v69_held : Int32) (v69_lastMinute : Int32) (v69_drawn : Int32) (a70 : Nat → Int32) (a71 : Nat → Int32) (a72 : Nat → Int32) (a78 : Nat → Int32) (x1 : Int32) : Option (Int32 × Int32 × (Nat → Int32) × Int32 × Int32 × Int32 × Int32 × (Nat → Int32) × (Nat → Int32) × (Nat → Int32) × (Nat → Int32)) := if (x1 : Int32) < (0 : Int32) then (fX11_sitting_N_L11 Fu v0_lastRefusal v1_beasts v1_seats v1_laws v1_inForce a2 a3 a4 a5 a38 v42_known v69_held v69_lastMinute v69_drawn a70 a71 a72 a78) else (if (x1 : Int32) ≤ (1000000 : Int32) then ((fX7_hold_N Fu v1_beasts v1_seats v1_laws v1_inForce a2 a3 a4 a5 a38 v69_held v69_lastMinute v69_drawn a70 a71 a72 x1).bind fun r1 => ((fX11_accept v0_lastRefusal v42_known r1.1).bind fun r2 => (some (r2.1, r2.2.1, r1.2.1, r2.2.2, r1.2.2.1, r1.2.2.2.1, r1.2.2.2.2.1, r1.2.2.2.2.2.1, r1.2.2.2.2.2.2.1, r1.2.2.2.2.2.2.2, a78)))) else (fX11_sitting_N_L11 Fu v0_lastRefusal v1_beasts v1_seats v1_laws v1_inForce a2 a3 a4 a5 a38 v42_known v69_held v69_lastMinute v69_drawn a70 a71 a72 a78))
set_option maxHeartbeats 4000000 in
set_option maxRecDepth 100000 in
theorem tX11_sitting_N {G : GT} {b : Nat} {c0 : Hp} {n : Nat} (hw : e_wf (kW74) n) {v0_faultPlace : Int32} {v0_quashedRows : Int32} {v1_meals : Int32} {v37_height : Int32} {v37_answer : Int64} {v42_beasts : Int32} {v42_seats : Int32} {v42_seated : Int32} {v42_quota : Int32} {v42_surveyed : Int32} {v42_steadyBench : Int32} {v42_steadyWays : Int32} {v42_steadySwing : Int64} {Fu : Nat} {v0_lastRefusal : Int32} {v1_beasts : Int32} {v1_seats : Int32} {v1_laws : Int32} {v1_inForce : Int32} {a2 : Nat → Int32} {a3 : Nat → Int32} {a4 : Nat → Int32} {a5 : Nat → Option Nat} {a38 : Nat → Int32} {v42_known : Int32} {v69_held : Int32} {v69_lastMinute : Int32} {v69_drawn : Int32} {a70 : Nat → Int32} {a71 : Nat → Int32} {a72 : Nat → Int32} {a78 : Nat → Int32} {x1 : Int32} {R : Int32 × Int32 × (Nat → Int32) × Int32 × Int32 × Int32 × Int32 × (Nat → Int32) × (Nat → Int32) × (Nat → Int32) × (Nat → Int32)} (hf : fX11_sitting_N Fu v0_lastRefusal v1_beasts v1_seats v1_laws v1_inForce a2 a3 a4 a5 a38 v42_known v69_held v69_lastMinute v69_drawn a70 a71 a72 a78 x1 = some R) : E G b yX11_sitting cX11_sitting 2 (some .int) (e_rm 6 0 0) e_X0 (e_Z G b (pD (some (.int R.1)) (e_ov (kW74) (wW74 G b v0_faultPlace v0_quashedRows R.2.1 v1_beasts v1_meals v1_seats v1_laws v1_inForce a2 a3 a4 a5 v37_height v37_answer R.2.2.1 v42_beasts v42_seats v42_seated v42_quota R.2.2.2.1 v42_surveyed v42_steadyBench v42_steadyWays v42_steadySwing R.2.2.2.2.1 R.2.2.2.2.2.1 R.2.2.2.2.2.2.1 R.2.2.2.2.2.2.2.1 R.2.2.2.2.2.2.2.2.1 R.2.2.2.2.2.2.2.2.2.1 R.2.2.2.2.2.2.2.2.2.2) c0) n) 0 0) 0 [(0, .ref (b + 0)), (1, .int x1)] [] (e_ov (kW74) (wW74 G b v0_faultPlace v0_quashedRows v0_lastRefusal v1_beasts v1_meals v1_seats v1_laws v1_inForce a2 a3 a4 a5 v37_height v37_answer a38 v42_beasts v42_seats v42_seated v42_quota v42_known v42_surveyed v42_steadyBench v42_steadyWays v42_steadySwing v69_held v69_lastMinute v69_drawn a70 a71 a72 a78) c0) n 0 0 := by
  unfold fX11_sitting_N at hf
  refine E.iload_n 1 dX11_sitting_0 rfl ?_
  refine E.if_lt dX11_sitting_1 (fun h => ?_) (fun h => ?_)
  · have hf := e_ift hf h
    refine E.locals [0] rfl ?_
    exact tX11_sitting_N_L11 hw hf
  · have hf := e_iff hf h
    refine E.iload_n 1 dX11_sitting_4 rfl ?_
    refine E.ldcw dX11_sitting_5 kX11_297 ?_
    refine E.icmp_le dX11_sitting_8 (fun h => ?_) (fun h => ?_)
    · have hf := e_ift hf h
      refine E.aload_n 0 dX11_sitting_17 rfl ?_
      refine E.aload_n 0 dX11_sitting_18 rfl ?_
      refine E.get hw 0 0 dX11_sitting_19 flX11_64 rfl rfl rfl rfl ?_
      refine E.aload_n 0 dX11_sitting_22 rfl ?_
      refine E.get hw 0 0 dX11_sitting_23 flX11_10 rfl rfl rfl rfl ?_
      refine E.aload_n 0 dX11_sitting_26 rfl ?_
      refine E.get hw 0 0 dX11_sitting_27 flX11_43 rfl rfl rfl rfl ?_
      refine E.iload_n 1 dX11_sitting_30 rfl ?_
      obtain ⟨r1, hc1, hf⟩ := e_bind hf
      refine E.callVDs (es' := (wW74 G b v0_faultPlace v0_quashedRows v0_lastRefusal v1_beasts v1_meals v1_seats v1_laws v1_inForce a2 a3 a4 a5 v37_height v37_answer r1.2.1 v42_beasts v42_seats v42_seated v42_quota v42_known v42_surveyed v42_steadyBench v42_steadyWays v42_steadySwing r1.2.2.1 r1.2.2.2.1 r1.2.2.2.2.1 r1.2.2.2.2.2.1 r1.2.2.2.2.2.2.1 r1.2.2.2.2.2.2.2 a78)) [.ref (b + 0)] [1, 2, 3, 4, 5, 6, 7, 9, 10, 11, 12] 9 69 dX11_sitting_31 mlX11_346 hw rfl rfl rfl rfl (mX7_hold_N (hw.pick2 [1, 2, 3, 4, 5, 6, 7, 9, 10, 11, 12] rfl (by decide)) hc1) rfl rfl rfl rfl ⟨Nat.le_of_ble_eq_true rfl, Nat.le_of_ble_eq_true rfl⟩ rfl rfl (Nat.le_of_ble_eq_true rfl) ⟨Nat.le_refl _, Nat.le_refl _⟩ rfl ?_
      obtain ⟨r2, hc2, hf⟩ := e_bind hf
      refine E.callVDs (es' := (wW74 G b v0_faultPlace v0_quashedRows r2.2.1 v1_beasts v1_meals v1_seats v1_laws v1_inForce a2 a3 a4 a5 v37_height v37_answer r1.2.1 v42_beasts v42_seats v42_seated v42_quota r2.2.2 v42_surveyed v42_steadyBench v42_steadyWays v42_steadySwing r1.2.2.1 r1.2.2.2.1 r1.2.2.2.2.1 r1.2.2.2.2.2.1 r1.2.2.2.2.2.2.1 r1.2.2.2.2.2.2.2 a78)) [] [0, 8] 0 0 dX11_sitting_34 mlX11_108 hw rfl rfl rfl rfl (mX11_accept (hw.pick2 [0, 8] rfl (by decide)) hc2) rfl rfl rfl rfl ⟨Nat.le_of_ble_eq_true rfl, Nat.le_of_ble_eq_true rfl⟩ rfl rfl (Nat.le_of_ble_eq_true rfl) ⟨Nat.le_refl _, Nat.le_refl _⟩ rfl ?_
      cases hf
      exact E.iret dX11_sitting_37 (Nat.le_refl _) (Nat.le_refl _) (pD_rf _ _ _)
    · have hf := e_iff hf h
      refine E.locals [0] rfl ?_
      exact tX11_sitting_N_L11 hw hf
set_option maxRecDepth 100000 in
theorem mX11_sitting_N {G : GT} {b : Nat} {c0 : Hp} {n : Nat} (hw : e_wf (kW74) n) {v0_faultPlace : Int32} {v0_quashedRows : Int32} {v1_meals : Int32} {v37_height : Int32} {v37_answer : Int64} {v42_beasts : Int32} {v42_seats : Int32} {v42_seated : Int32} {v42_quota : Int32} {v42_surveyed : Int32} {v42_steadyBench : Int32} {v42_steadyWays : Int32} {v42_steadySwing : Int64} {Fu : Nat} {v0_lastRefusal : Int32} {v1_beasts : Int32} {v1_seats : Int32} {v1_laws : Int32} {v1_inForce : Int32} {a2 : Nat → Int32} {a3 : Nat → Int32} {a4 : Nat → Int32} {a5 : Nat → Option Nat} {a38 : Nat → Int32} {v42_known : Int32} {v69_held : Int32} {v69_lastMinute : Int32} {v69_drawn : Int32} {a70 : Nat → Int32} {a71 : Nat → Int32} {a72 : Nat → Int32} {a78 : Nat → Int32} {x1 : Int32} {R : Int32 × Int32 × (Nat → Int32) × Int32 × Int32 × Int32 × Int32 × (Nat → Int32) × (Nat → Int32) × (Nat → Int32) × (Nat → Int32)} (hf : fX11_sitting_N Fu v0_lastRefusal v1_beasts v1_seats v1_laws v1_inForce a2 a3 a4 a5 a38 v42_known v69_held v69_lastMinute v69_drawn a70 a71 a72 a78 x1 = some R) : e_C G b yX11_sitting cX11_sitting 2 (some .int) 6 0 0 [.ref (b + 0), .int x1] (e_ov (kW74) (wW74 G b v0_faultPlace v0_quashedRows v0_lastRefusal v1_beasts v1_meals v1_seats v1_laws v1_inForce a2 a3 a4 a5 v37_height v37_answer a38 v42_beasts v42_seats v42_seated v42_quota v42_known v42_surveyed v42_steadyBench v42_steadyWays v42_steadySwing v69_held v69_lastMinute v69_drawn a70 a71 a72 a78) c0) n (pD (some (.int R.1)) (e_ov (kW74) (wW74 G b v0_faultPlace v0_quashedRows R.2.1 v1_beasts v1_meals v1_seats v1_laws v1_inForce a2 a3 a4 a5 v37_height v37_answer R.2.2.1 v42_beasts v42_seats v42_seated v42_quota R.2.2.2.1 v42_surveyed v42_steadyBench v42_steadyWays v42_steadySwing R.2.2.2.2.1 R.2.2.2.2.2.1 R.2.2.2.2.2.2.1 R.2.2.2.2.2.2.2.1 R.2.2.2.2.2.2.2.2.1 R.2.2.2.2.2.2.2.2.2.1 R.2.2.2.2.2.2.2.2.2.2) c0) n) := e_C.of (by decide) (Nat.le_of_ble_eq_true rfl) (tX11_sitting_N hw hf)
def fX0_liesOf_L (Fu : Nat) (nh : Nat) (nt : Nat) (ne : Nat) (ns : Nat) (b q : Nat) (v1_laws : Int32) (v1_inForce : Int32) (a2 : Nat → Int32) (a3 : Nat → Int32) (a4 : Nat → Int32) (a5 : Nat → Option Nat) (v37_height : Int32) (v37_answer : Int64) (a38 : Nat → Int32) (a39 : Nat → Int64) (aL1 : Nat → Int32) (aL2 : Nat → Int32) (aL3 : Nat → Int32) (aL4 : Nat → Int32) (x2 : Int32) (x3 : Int32) : Option (Int32 × Int32 × Int64 × (Nat → Int32) × (Nat → Int64)) := gd 1 6 ((fX10_trait a2 x2 5).bind fun r2 => ((fX0_learn a2 a3 a4 a38 x2 (a4 (1 : Int32).toNatClampNeg) r2).bind fun r3 => (gd 9 10 ((fX10_ruling_L v1_laws v1_inForce a5).bind fun r5 => (gq r5 (some (b + q)) ((fX0_told_L Fu nh nt ne ns v37_height v37_answer (va_up r3 (9 : Int32).toNatClampNeg x3) a39 aL1 aL2 aL3 aL4 1 10 100).bind fun r7 => (some (r7.1, r7.2.1, r7.2.2.1, (va_up r3 (9 : Int32).toNatClampNeg x3), r7.2.2.2))))))))
set_option maxHeartbeats 4000000 in
set_option maxRecDepth 100000 in
theorem tX0_liesOf_L {G : GT} {b : Nat} {q nh nt ne ns : Nat} {c0 : Hp} {n : Nat} (hw : e_wf (kW32 q) n) {v1_beasts : Int32} {v1_meals : Int32} {v1_seats : Int32} {Fu : Nat} {v1_laws : Int32} {v1_inForce : Int32} {a2 : Nat → Int32} {a3 : Nat → Int32} {a4 : Nat → Int32} {a5 : Nat → Option Nat} {v37_height : Int32} {v37_answer : Int64} {a38 : Nat → Int32} {a39 : Nat → Int64} {aL1 : Nat → Int32} {aL2 : Nat → Int32} {aL3 : Nat → Int32} {aL4 : Nat → Int32} {x2 : Int32} {x3 : Int32} {R : Int32 × Int32 × Int64 × (Nat → Int32) × (Nat → Int64)} (hf : fX0_liesOf_L Fu nh nt ne ns b q v1_laws v1_inForce a2 a3 a4 a5 v37_height v37_answer a38 a39 aL1 aL2 aL3 aL4 x2 x3 = some R) : E G b yX0_liesOf cX0_liesOf 4 (some .int) (e_rm 4 0 0) e_X0 (e_Z G b (pD (some (.int R.1)) (e_ov (kW32 q) (wW32 G b q nh nt ne ns v1_beasts v1_meals v1_seats v1_laws v1_inForce a2 a3 a4 a5 R.2.1 R.2.2.1 R.2.2.2.1 R.2.2.2.2 aL1 aL2 aL3 aL4) c0) n) 0 0) 0 [(0, .ref (b + 37)), (1, .ref (b + 1)), (2, .int x2), (3, .int x3)] [] (e_ov (kW32 q) (wW32 G b q nh nt ne ns v1_beasts v1_meals v1_seats v1_laws v1_inForce a2 a3 a4 a5 v37_height v37_answer a38 a39 aL1 aL2 aL3 aL4) c0) n 0 0 := by
  unfold fX0_liesOf_L at hf
  refine E.aload_n 0 dX0_liesOf_0 rfl ?_
  refine E.aload_n 1 dX0_liesOf_1 rfl ?_
  refine E.iload_n 2 dX0_liesOf_2 rfl ?_
  refine E.aload_n 1 dX0_liesOf_3 rfl ?_
  refine E.getN hw 0 1 dX0_liesOf_4 fnX0_35 rfl rfl rfl rfl ?_
  refine E.iconst (v := 1) dX0_liesOf_7 (by decide) ?_
  obtain ⟨g1, hf⟩ := gd_some hf
  refine E.iald hw 3 4 dX0_liesOf_8 rfl rfl g1 ?_
  refine E.aload_n 1 dX0_liesOf_9 rfl ?_
  refine E.iload_n 2 dX0_liesOf_10 rfl ?_
  refine E.iconst (v := 5) dX0_liesOf_11 (by decide) ?_
  obtain ⟨r2, hc2, hf⟩ := e_bind hf
  refine E.callVDs (es' := (wW32 G b q nh nt ne ns v1_beasts v1_meals v1_seats v1_laws v1_inForce a2 a3 a4 a5 v37_height v37_answer a38 a39 aL1 aL2 aL3 aL4)) [.int (a4 (1 : Int32).toNatClampNeg), .int x2, .ref (b + 1), .ref (b + 37)] [0, 1] 0 1 dX0_liesOf_12 mlX0_38 hw rfl rfl rfl rfl (mX10_trait (hw.pick2 [0, 1] rfl (by decide)) hc2) rfl rfl rfl rfl ⟨Nat.le_of_ble_eq_true rfl, Nat.le_of_ble_eq_true rfl⟩ rfl rfl (Nat.le_of_ble_eq_true rfl) ⟨Nat.le_refl _, Nat.le_refl _⟩ rfl ?_
  obtain ⟨r3, hc3, hf⟩ := e_bind hf
  refine E.callVDs (es' := (wW32 G b q nh nt ne ns v1_beasts v1_meals v1_seats v1_laws v1_inForce a2 a3 a4 a5 v37_height v37_answer r3 a39 aL1 aL2 aL3 aL4)) [] [0, 1, 2, 3, 5, 6] 5 37 dX0_liesOf_15 mlX0_21 hw rfl rfl rfl rfl (mX0_learn (hw.pick2 [0, 1, 2, 3, 5, 6] rfl (by decide)) hc3) rfl rfl rfl rfl ⟨Nat.le_of_ble_eq_true rfl, Nat.le_of_ble_eq_true rfl⟩ rfl rfl (Nat.le_of_ble_eq_true rfl) ⟨Nat.le_refl _, Nat.le_refl _⟩ rfl ?_
  refine E.aload_n 0 dX0_liesOf_18 rfl ?_
  refine E.get hw 5 37 dX0_liesOf_19 flX0_11 rfl rfl rfl rfl ?_
  refine E.bipush (v := 9) dX0_liesOf_22 (by decide) ?_
  refine E.iload_n 3 dX0_liesOf_24 rfl ?_
  obtain ⟨g4, hf⟩ := gd_some hf
  refine E.iast (es' := (wW32 G b q nh nt ne ns v1_beasts v1_meals v1_seats v1_laws v1_inForce a2 a3 a4 a5 v37_height v37_answer (va_up r3 (9 : Int32).toNatClampNeg x3) a39 aL1 aL2 aL3 aL4)) hw 6 38 dX0_liesOf_25 rfl rfl g4 rfl ?_
  refine E.aload_n 0 dX0_liesOf_26 rfl ?_
  refine E.aload_n 1 dX0_liesOf_27 rfl ?_
  obtain ⟨r5, hc5, hf⟩ := e_bind hf
  obtain ⟨g6, hf⟩ := gq_some hf
  refine E.callVDs (es' := (wW32 G b q nh nt ne ns v1_beasts v1_meals v1_seats v1_laws v1_inForce a2 a3 a4 a5 v37_height v37_answer (va_up r3 (9 : Int32).toNatClampNeg x3) a39 aL1 aL2 aL3 aL4)) [.ref (b + 37)] [0, 4] 0 1 dX0_liesOf_28 mlX0_25 hw rfl rfl rfl rfl (mX10_ruling_L (hw.pick2 [0, 4] rfl (by decide)) hc5) rfl rfl rfl rfl ⟨Nat.le_of_ble_eq_true rfl, Nat.le_of_ble_eq_true rfl⟩ rfl rfl (Nat.le_of_ble_eq_true rfl) ⟨Nat.le_refl _, Nat.le_refl _⟩ (by rw [g6] <;> rfl) ?_
  refine E.iconst (v := 1) dX0_liesOf_31 (by decide) ?_
  refine E.bipush (v := 10) dX0_liesOf_32 (by decide) ?_
  refine E.bipush (v := 100) dX0_liesOf_34 (by decide) ?_
  obtain ⟨r7, hc7, hf⟩ := e_bind hf
  refine E.callVDs (es' := (wW32 G b q nh nt ne ns v1_beasts v1_meals v1_seats v1_laws v1_inForce a2 a3 a4 a5 r7.2.1 r7.2.2.1 (va_up r3 (9 : Int32).toNatClampNeg x3) r7.2.2.2 aL1 aL2 aL3 aL4)) [] [5, 6, 7, 8, 9, 10, 11, 12] 5 37 dX0_liesOf_36 mlX0_31 hw rfl rfl rfl rfl (mX0_told_L (hw.pick2 [5, 6, 7, 8, 9, 10, 11, 12] rfl (by decide)) hc7) rfl rfl rfl rfl ⟨Nat.le_of_ble_eq_true rfl, Nat.le_of_ble_eq_true rfl⟩ rfl rfl (Nat.le_of_ble_eq_true rfl) ⟨Nat.le_refl _, Nat.le_refl _⟩ rfl ?_
  cases hf
  exact E.iret dX0_liesOf_39 (Nat.le_refl _) (Nat.le_refl _) (pD_rf _ _ _)
set_option maxRecDepth 100000 in
theorem mX0_liesOf_L {G : GT} {b : Nat} {q nh nt ne ns : Nat} {c0 : Hp} {n : Nat} (hw : e_wf (kW32 q) n) {v1_beasts : Int32} {v1_meals : Int32} {v1_seats : Int32} {Fu : Nat} {v1_laws : Int32} {v1_inForce : Int32} {a2 : Nat → Int32} {a3 : Nat → Int32} {a4 : Nat → Int32} {a5 : Nat → Option Nat} {v37_height : Int32} {v37_answer : Int64} {a38 : Nat → Int32} {a39 : Nat → Int64} {aL1 : Nat → Int32} {aL2 : Nat → Int32} {aL3 : Nat → Int32} {aL4 : Nat → Int32} {x2 : Int32} {x3 : Int32} {R : Int32 × Int32 × Int64 × (Nat → Int32) × (Nat → Int64)} (hf : fX0_liesOf_L Fu nh nt ne ns b q v1_laws v1_inForce a2 a3 a4 a5 v37_height v37_answer a38 a39 aL1 aL2 aL3 aL4 x2 x3 = some R) : e_C G b yX0_liesOf cX0_liesOf 4 (some .int) 4 0 0 [.ref (b + 37), .ref (b + 1), .int x2, .int x3] (e_ov (kW32 q) (wW32 G b q nh nt ne ns v1_beasts v1_meals v1_seats v1_laws v1_inForce a2 a3 a4 a5 v37_height v37_answer a38 a39 aL1 aL2 aL3 aL4) c0) n (pD (some (.int R.1)) (e_ov (kW32 q) (wW32 G b q nh nt ne ns v1_beasts v1_meals v1_seats v1_laws v1_inForce a2 a3 a4 a5 R.2.1 R.2.2.1 R.2.2.2.1 R.2.2.2.2 aL1 aL2 aL3 aL4) c0) n) := e_C.of (by decide) (Nat.le_of_ble_eq_true rfl) (tX0_liesOf_L hw hf)
abbrev kW75 (q : Nat) : List Nat := [1, 2, 3, 4, 5, 37, 38, 39, 69, 70, 71, 72, q, (q + 1), (q + 2), (q + 3), (q + 4)]
abbrev wW75 (G : GT) (b q nh nt ne ns : Nat) (v1_beasts : Int32) (v1_meals : Int32) (v1_seats : Int32) (v1_laws : Int32) (v1_inForce : Int32) (a2 : Nat → Int32) (a3 : Nat → Int32) (a4 : Nat → Int32) (a5 : Nat → Option Nat) (v37_height : Int32) (v37_answer : Int64) (a38 : Nat → Int32) (a39 : Nat → Int64) (v69_held : Int32) (v69_lastMinute : Int32) (v69_drawn : Int32) (a70 : Nat → Int32) (a71 : Nat → Int32) (a72 : Nat → Int32) (aL1 : Nat → Int32) (aL2 : Nat → Int32) (aL3 : Nat → Int32) (aL4 : Nat → Int32) : List va_E := [.inr (10, [.ref (b + 2), .ref (b + 3), .ref (b + 4), .ref (b + 5), .ref (b + 6), .int v1_beasts, .int v1_meals, .int v1_seats, .int v1_laws, .int v1_inForce]), aI G 48 a2, aI G 8 a3, aI G 6 a4, aQ G 4 6 a5, .inr (0, [.ref (b + 38), .ref (b + 39), .int v37_height, .long v37_answer]), aI G 10 a38, aJ G 51 a39, .inr (7, [.ref (b + 70), .ref (b + 71), .ref (b + 72), .int v69_held, .int v69_lastMinute, .int v69_drawn]), aI G 8 a70, aI G 8 a71, aI G 2 a72, .inr (5, [.ref (b + (q + 1)), .ref (b + (q + 2)), .ref (b + (q + 3)), .ref (b + (q + 4))]), aI G nh aL1, aI G nt aL2, aI G ne aL3, aI G ns aL4]
def fX7_pass_L_L90 (Fu : Nat) (nh : Nat) (nt : Nat) (ne : Nat) (ns : Nat) (b q : Nat) (k3 : Int32 → Int32 → Int32 → Int32 → (Nat → Int32) → (Nat → Int32) → (Nat → Int32) → (Nat → Option Nat) → Int32 → Int64 → (Nat → Int32) → (Nat → Int64) → Int32 → (Nat → Int32) → (Nat → Int32) → (Nat → Int32) → (Nat → Int32) → (Nat → Int32) → (Nat → Int32) → (Nat → Int32) → Int32 → Int32 → Option (Int32 × Int64 × (Nat → Int32) × (Nat → Int64) × Int32 × (Nat → Int32) × (Nat → Int32) × (Nat → Int32))) (v1_beasts : Int32) (v1_seats : Int32) (v1_laws : Int32) (v1_inForce : Int32) (a2 : Nat → Int32) (a3 : Nat → Int32) (a4 : Nat → Int32) (a5 : Nat → Option Nat) (v37_height : Int32) (v37_answer : Int64) (a38 : Nat → Int32) (a39 : Nat → Int64) (v69_drawn : Int32) (a70 : Nat → Int32) (a71 : Nat → Int32) (a72 : Nat → Int32) (aL1 : Nat → Int32) (aL2 : Nat → Int32) (aL3 : Nat → Int32) (aL4 : Nat → Int32) (x3 : Int32) (x4 : Int32) (s0 : Int32) (s1 : Int32) : Option (Int32 × Int64 × (Nat → Int32) × (Nat → Int64) × Int32 × (Nat → Int32) × (Nat → Int32) × (Nat → Int32)) := gd s1 8 (gd x4 8 (gd x4 8 (gd ((va_up a70 (s1 : Int32).toNatClampNeg s0) (x4 : Int32).toNatClampNeg) 2 (gd ((va_up a70 (s1 : Int32).toNatClampNeg s0) (x4 : Int32).toNatClampNeg) 2 (k3 v1_beasts v1_seats v1_laws v1_inForce a2 a3 a4 a5 v37_height v37_answer a38 a39 v69_drawn (va_up a70 (s1 : Int32).toNatClampNeg s0) (va_up a71 (x4 : Int32).toNatClampNeg x3) (va_up a72 (((va_up a70 (s1 : Int32).toNatClampNeg s0) (x4 : Int32).toNatClampNeg) : Int32).toNatClampNeg ((a72 (((va_up a70 (s1 : Int32).toNatClampNeg s0) (x4 : Int32).toNatClampNeg) : Int32).toNatClampNeg) + 1)) aL1 aL2 aL3 aL4 x3 (x4 + 1))))))
set_option maxHeartbeats 4000000 in
set_option maxRecDepth 100000 in
theorem tX7_pass_L_L90 {G : GT} {b : Nat} {q nh nt ne ns : Nat} {c0 : Hp} {n : Nat} (hw : e_wf (kW75 q) n) {v1_meals : Int32} {v69_held : Int32} {v69_lastMinute : Int32} {Fu : Nat} {k3 : Int32 → Int32 → Int32 → Int32 → (Nat → Int32) → (Nat → Int32) → (Nat → Int32) → (Nat → Option Nat) → Int32 → Int64 → (Nat → Int32) → (Nat → Int64) → Int32 → (Nat → Int32) → (Nat → Int32) → (Nat → Int32) → (Nat → Int32) → (Nat → Int32) → (Nat → Int32) → (Nat → Int32) → Int32 → Int32 → Option (Int32 × Int64 × (Nat → Int32) × (Nat → Int64) × Int32 × (Nat → Int32) × (Nat → Int32) × (Nat → Int32))} (hk3 : ∀ {v1_beasts : Int32} {v1_seats : Int32} {v1_laws : Int32} {v1_inForce : Int32} {a2 : Nat → Int32} {a3 : Nat → Int32} {a4 : Nat → Int32} {a5 : Nat → Option Nat} {v37_height : Int32} {v37_answer : Int64} {a38 : Nat → Int32} {a39 : Nat → Int64} {v69_drawn : Int32} {a70 : Nat → Int32} {a71 : Nat → Int32} {a72 : Nat → Int32} {aL1 : Nat → Int32} {aL2 : Nat → Int32} {aL3 : Nat → Int32} {aL4 : Nat → Int32} {x3 : Int32} {x4 : Int32} {R : Int32 × Int64 × (Nat → Int32) × (Nat → Int64) × Int32 × (Nat → Int32) × (Nat → Int32) × (Nat → Int32)}, k3 v1_beasts v1_seats v1_laws v1_inForce a2 a3 a4 a5 v37_height v37_answer a38 a39 v69_drawn a70 a71 a72 aL1 aL2 aL3 aL4 x3 x4 = some R → E G b yX7_pass cX7_pass 6 none (e_rm 5 0 0) e_X0 (e_Z G b (pD none (e_ov (kW75 q) (wW75 G b q nh nt ne ns v1_beasts v1_meals v1_seats v1_laws v1_inForce a2 a3 a4 a5 R.1 R.2.1 R.2.2.1 R.2.2.2.1 v69_held v69_lastMinute R.2.2.2.2.1 R.2.2.2.2.2.1 R.2.2.2.2.2.2.1 R.2.2.2.2.2.2.2 aL1 aL2 aL3 aL4) c0) n) 0 0) 3 [(0, .ref (b + 69)), (1, .ref (b + 1)), (2, .ref (b + 37)), (3, .int x3), (4, .int x4)] [] (e_ov (kW75 q) (wW75 G b q nh nt ne ns v1_beasts v1_meals v1_seats v1_laws v1_inForce a2 a3 a4 a5 v37_height v37_answer a38 a39 v69_held v69_lastMinute v69_drawn a70 a71 a72 aL1 aL2 aL3 aL4) c0) n 0 0) {v1_beasts : Int32} {v1_seats : Int32} {v1_laws : Int32} {v1_inForce : Int32} {a2 : Nat → Int32} {a3 : Nat → Int32} {a4 : Nat → Int32} {a5 : Nat → Option Nat} {v37_height : Int32} {v37_answer : Int64} {a38 : Nat → Int32} {a39 : Nat → Int64} {v69_drawn : Int32} {a70 : Nat → Int32} {a71 : Nat → Int32} {a72 : Nat → Int32} {aL1 : Nat → Int32} {aL2 : Nat → Int32} {aL3 : Nat → Int32} {aL4 : Nat → Int32} {x3 : Int32} {x4 : Int32} {s0 : Int32} {s1 : Int32} {R : Int32 × Int64 × (Nat → Int32) × (Nat → Int64) × Int32 × (Nat → Int32) × (Nat → Int32) × (Nat → Int32)} (hf : fX7_pass_L_L90 Fu nh nt ne ns b q k3 v1_beasts v1_seats v1_laws v1_inForce a2 a3 a4 a5 v37_height v37_answer a38 a39 v69_drawn a70 a71 a72 aL1 aL2 aL3 aL4 x3 x4 s0 s1 = some R) : E G b yX7_pass cX7_pass 6 none (e_rm 5 0 0) e_X0 (e_Z G b (pD none (e_ov (kW75 q) (wW75 G b q nh nt ne ns v1_beasts v1_meals v1_seats v1_laws v1_inForce a2 a3 a4 a5 R.1 R.2.1 R.2.2.1 R.2.2.2.1 v69_held v69_lastMinute R.2.2.2.2.1 R.2.2.2.2.2.1 R.2.2.2.2.2.2.1 R.2.2.2.2.2.2.2 aL1 aL2 aL3 aL4) c0) n) 0 0) 90 [(0, .ref (b + 69)), (1, .ref (b + 1)), (2, .ref (b + 37)), (3, .int x3), (4, .int x4)] [.int s0, .int s1, .ref (b + 70)] (e_ov (kW75 q) (wW75 G b q nh nt ne ns v1_beasts v1_meals v1_seats v1_laws v1_inForce a2 a3 a4 a5 v37_height v37_answer a38 a39 v69_held v69_lastMinute v69_drawn a70 a71 a72 aL1 aL2 aL3 aL4) c0) n 0 0 := by
  unfold fX7_pass_L_L90 at hf
  obtain ⟨g9, hf⟩ := gd_some hf
  refine E.iast (es' := (wW75 G b q nh nt ne ns v1_beasts v1_meals v1_seats v1_laws v1_inForce a2 a3 a4 a5 v37_height v37_answer a38 a39 v69_held v69_lastMinute v69_drawn (va_up a70 (s1 : Int32).toNatClampNeg s0) a71 a72 aL1 aL2 aL3 aL4)) hw 9 70 dX7_pass_90 rfl rfl g9 rfl ?_
  refine E.aload_n 0 dX7_pass_91 rfl ?_
  refine E.get hw 8 69 dX7_pass_92 flX7_15 rfl rfl rfl rfl ?_
  refine E.iload 4 dX7_pass_95 rfl ?_
  refine E.iload_n 3 dX7_pass_97 rfl ?_
  obtain ⟨g10, hf⟩ := gd_some hf
  refine E.iast (es' := (wW75 G b q nh nt ne ns v1_beasts v1_meals v1_seats v1_laws v1_inForce a2 a3 a4 a5 v37_height v37_answer a38 a39 v69_held v69_lastMinute v69_drawn (va_up a70 (s1 : Int32).toNatClampNeg s0) (va_up a71 (x4 : Int32).toNatClampNeg x3) a72 aL1 aL2 aL3 aL4)) hw 10 71 dX7_pass_98 rfl rfl g10 rfl ?_
  refine E.aload_n 0 dX7_pass_99 rfl ?_
  refine E.get hw 8 69 dX7_pass_100 flX7_18 rfl rfl rfl rfl ?_
  refine E.aload_n 0 dX7_pass_103 rfl ?_
  refine E.get hw 8 69 dX7_pass_104 flX7_9 rfl rfl rfl rfl ?_
  refine E.iload 4 dX7_pass_107 rfl ?_
  obtain ⟨g11, hf⟩ := gd_some hf
  refine E.iald hw 9 70 dX7_pass_109 rfl rfl g11 ?_
  refine E.dup2_11 dX7_pass_110 rfl rfl ?_
  obtain ⟨g12, hf⟩ := gd_some hf
  refine E.iald hw 11 72 dX7_pass_111 rfl rfl g12 ?_
  refine E.iconst (v := 1) dX7_pass_112 (by decide) ?_
  refine E.iadd dX7_pass_113 ?_
  obtain ⟨g13, hf⟩ := gd_some hf
  refine E.iast (es' := (wW75 G b q nh nt ne ns v1_beasts v1_meals v1_seats v1_laws v1_inForce a2 a3 a4 a5 v37_height v37_answer a38 a39 v69_held v69_lastMinute v69_drawn (va_up a70 (s1 : Int32).toNatClampNeg s0) (va_up a71 (x4 : Int32).toNatClampNeg x3) (va_up a72 (((va_up a70 (s1 : Int32).toNatClampNeg s0) (x4 : Int32).toNatClampNeg) : Int32).toNatClampNeg ((a72 (((va_up a70 (s1 : Int32).toNatClampNeg s0) (x4 : Int32).toNatClampNeg) : Int32).toNatClampNeg) + 1)) aL1 aL2 aL3 aL4)) hw 11 72 dX7_pass_114 rfl rfl g13 rfl ?_
  refine E.iinc (q := 4) (v := (x4 + 1)) (lv' := [(4, .int (x4 + 1)), (0, .ref (b + 69)), (1, .ref (b + 1)), (2, .ref (b + 37)), (3, .int x3)]) dX7_pass_115 rfl rfl (by decide) rfl ?_
  refine E.goto dX7_pass_118 ?_
  refine E.locals [1, 2, 3, 4, 0] rfl ?_
  exact hk3 hf
def fX7_pass_L_L3 (Fu : Nat) (nh : Nat) (nt : Nat) (ne : Nat) (ns : Nat) (b q : Nat) : Nat → Int32 → Int32 → Int32 → Int32 → (Nat → Int32) → (Nat → Int32) → (Nat → Int32) → (Nat → Option Nat) → Int32 → Int64 → (Nat → Int32) → (Nat → Int64) → Int32 → (Nat → Int32) → (Nat → Int32) → (Nat → Int32) → (Nat → Int32) → (Nat → Int32) → (Nat → Int32) → (Nat → Int32) → Int32 → Int32 → Option (Int32 × Int64 × (Nat → Int32) × (Nat → Int64) × Int32 × (Nat → Int32) × (Nat → Int32) × (Nat → Int32))
  | 0, _, _, _, _, _, _, _, _, _, _, _, _, _, _, _, _, _, _, _, _, _, _ => none
  | k + 1, v1_beasts, v1_seats, v1_laws, v1_inForce, a2, a3, a4, a5, v37_height, v37_answer, a38, a39, v69_drawn, a70, a71, a72, aL1, aL2, aL3, aL4, x3, x4 => if (v1_beasts : Int32) ≤ (x4 : Int32) then (some (v37_height, v37_answer, a38, a39, v69_drawn, a70, a71, a72)) else ((fX10_isSeated v1_beasts v1_seats x4).bind fun r1 => (if (r1 : Int32) = (0 : Int32) then ((fX7_pass_L_L3 Fu nh nt ne ns b q k) v1_beasts v1_seats v1_laws v1_inForce a2 a3 a4 a5 v37_height v37_answer a38 a39 v69_drawn a70 a71 a72 aL1 aL2 aL3 aL4 x3 (x4 + 1)) else (gd x4 8 (if ((a70 (x4 : Int32).toNatClampNeg) : Int32) = ((-1 : Int32) : Int32) then ((fX7_draw v69_drawn).bind fun r3 => ((fX0_liesOf_L Fu nh nt ne ns b q v1_laws v1_inForce a2 a3 a4 a5 v37_height v37_answer a38 a39 aL1 aL2 aL3 aL4 x4 x3).bind fun r4 => (if (r4.1 : Int32) ≤ (r3.1 : Int32) then ((fX7_pass_L_L3 Fu nh nt ne ns b q k) v1_beasts v1_seats v1_laws v1_inForce a2 a3 a4 a5 r4.2.1 r4.2.2.1 r4.2.2.2.1 r4.2.2.2.2 r3.2 a70 a71 a72 aL1 aL2 aL3 aL4 x3 (x4 + 1)) else (gd 1 6 ((fX10_trait a2 x4 5).bind fun r6 => ((fX0_chanceOf_L Fu nh nt ne ns b q v1_laws v1_inForce a2 a3 a4 a5 r4.2.1 r4.2.2.1 r4.2.2.2.1 r4.2.2.2.2 aL1 aL2 aL3 aL4 x4 (a4 (1 : Int32).toNatClampNeg) r6 x3).bind fun r7 => ((fX7_draw r3.2).bind fun r8 => (if (r7.1 : Int32) ≤ (r8.1 : Int32) then (fX7_pass_L_L90 Fu nh nt ne ns b q (fX7_pass_L_L3 Fu nh nt ne ns b q k) v1_beasts v1_seats v1_laws v1_inForce a2 a3 a4 a5 r7.2.1 r7.2.2.1 r7.2.2.2.1 r7.2.2.2.2 r8.2 a70 a71 a72 aL1 aL2 aL3 aL4 x3 x4 1 x4) else (fX7_pass_L_L90 Fu nh nt ne ns b q (fX7_pass_L_L3 Fu nh nt ne ns b q k) v1_beasts v1_seats v1_laws v1_inForce a2 a3 a4 a5 r7.2.1 r7.2.2.1 r7.2.2.2.1 r7.2.2.2.2 r8.2 a70 a71 a72 aL1 aL2 aL3 aL4 x3 x4 0 x4))))))))) else ((fX7_pass_L_L3 Fu nh nt ne ns b q k) v1_beasts v1_seats v1_laws v1_inForce a2 a3 a4 a5 v37_height v37_answer a38 a39 v69_drawn a70 a71 a72 aL1 aL2 aL3 aL4 x3 (x4 + 1))))))
set_option maxHeartbeats 4000000 in
set_option maxRecDepth 100000 in
theorem tX7_pass_L_L3 {G : GT} {b : Nat} {q nh nt ne ns : Nat} {c0 : Hp} {n : Nat} (hw : e_wf (kW75 q) n) {v1_meals : Int32} {v69_held : Int32} {v69_lastMinute : Int32} {Fu : Nat} : ∀ (k : Nat) {v1_beasts : Int32} {v1_seats : Int32} {v1_laws : Int32} {v1_inForce : Int32} {a2 : Nat → Int32} {a3 : Nat → Int32} {a4 : Nat → Int32} {a5 : Nat → Option Nat} {v37_height : Int32} {v37_answer : Int64} {a38 : Nat → Int32} {a39 : Nat → Int64} {v69_drawn : Int32} {a70 : Nat → Int32} {a71 : Nat → Int32} {a72 : Nat → Int32} {aL1 : Nat → Int32} {aL2 : Nat → Int32} {aL3 : Nat → Int32} {aL4 : Nat → Int32} {x3 : Int32} {x4 : Int32} {R : Int32 × Int64 × (Nat → Int32) × (Nat → Int64) × Int32 × (Nat → Int32) × (Nat → Int32) × (Nat → Int32)}, fX7_pass_L_L3 Fu nh nt ne ns b q k v1_beasts v1_seats v1_laws v1_inForce a2 a3 a4 a5 v37_height v37_answer a38 a39 v69_drawn a70 a71 a72 aL1 aL2 aL3 aL4 x3 x4 = some R → E G b yX7_pass cX7_pass 6 none (e_rm 5 0 0) e_X0 (e_Z G b (pD none (e_ov (kW75 q) (wW75 G b q nh nt ne ns v1_beasts v1_meals v1_seats v1_laws v1_inForce a2 a3 a4 a5 R.1 R.2.1 R.2.2.1 R.2.2.2.1 v69_held v69_lastMinute R.2.2.2.2.1 R.2.2.2.2.2.1 R.2.2.2.2.2.2.1 R.2.2.2.2.2.2.2 aL1 aL2 aL3 aL4) c0) n) 0 0) 3 [(0, .ref (b + 69)), (1, .ref (b + 1)), (2, .ref (b + 37)), (3, .int x3), (4, .int x4)] [] (e_ov (kW75 q) (wW75 G b q nh nt ne ns v1_beasts v1_meals v1_seats v1_laws v1_inForce a2 a3 a4 a5 v37_height v37_answer a38 a39 v69_held v69_lastMinute v69_drawn a70 a71 a72 aL1 aL2 aL3 aL4) c0) n 0 0 := by
  intro k
  induction k with
  | zero =>
    intro _ _ _ _ _ _ _ _ _ _ _ _ _ _ _ _ _ _ _ _ _ _ _ hf
    have hf : (none : Option (Int32 × Int64 × (Nat → Int32) × (Nat → Int64) × Int32 × (Nat → Int32) × (Nat → Int32) × (Nat → Int32))) = some _ := hf
    cases hf
  | succ k ih =>
    intro v1_beasts v1_seats v1_laws v1_inForce a2 a3 a4 a5 v37_height v37_answer a38 a39 v69_drawn a70 a71 a72 aL1 aL2 aL3 aL4 x3 x4 R hf
    rw [fX7_pass_L_L3] at hf
    refine E.iload 4 dX7_pass_3 rfl ?_
    refine E.aload_n 1 dX7_pass_5 rfl ?_
    refine E.getN hw 0 1 dX7_pass_6 fnX7_56 rfl rfl rfl rfl ?_
    refine E.icmp_ge dX7_pass_9 (fun h => ?_) (fun h => ?_)
    · have hf := e_ift hf h
      cases hf
      exact E.vret dX7_pass_121 (Nat.le_refl _) (Nat.le_refl _) (pD_rf _ _ _)
    · have hf := e_iff hf h
      refine E.aload_n 1 dX7_pass_12 rfl ?_
      refine E.iload 4 dX7_pass_13 rfl ?_
      obtain ⟨r1, hc1, hf⟩ := e_bind hf
      refine E.callVDs (es' := (wW75 G b q nh nt ne ns v1_beasts v1_meals v1_seats v1_laws v1_inForce a2 a3 a4 a5 v37_height v37_answer a38 a39 v69_held v69_lastMinute v69_drawn a70 a71 a72 aL1 aL2 aL3 aL4)) [] [0] 0 1 dX7_pass_15 mlX7_59 hw rfl rfl rfl rfl (mX10_isSeated (hw.pick2 [0] rfl (by decide)) hc1) rfl rfl rfl rfl ⟨Nat.le_of_ble_eq_true rfl, Nat.le_of_ble_eq_true rfl⟩ rfl rfl (Nat.le_of_ble_eq_true rfl) ⟨Nat.le_refl _, Nat.le_refl _⟩ rfl ?_
      refine E.if_eq dX7_pass_18 (fun h => ?_) (fun h => ?_)
      · have hf := e_ift hf h
        refine E.iinc (q := 4) (v := (x4 + 1)) (lv' := [(4, .int (x4 + 1)), (0, .ref (b + 69)), (1, .ref (b + 1)), (2, .ref (b + 37)), (3, .int x3)]) dX7_pass_115 rfl rfl (by decide) rfl ?_
        refine E.goto dX7_pass_118 ?_
        refine E.locals [1, 2, 3, 4, 0] rfl ?_
        exact ih hf
      · have hf := e_iff hf h
        refine E.aload_n 0 dX7_pass_21 rfl ?_
        refine E.get hw 8 69 dX7_pass_22 flX7_9 rfl rfl rfl rfl ?_
        refine E.iload 4 dX7_pass_25 rfl ?_
        obtain ⟨g2, hf⟩ := gd_some hf
        refine E.iald hw 9 70 dX7_pass_27 rfl rfl g2 ?_
        refine E.iconst (v := -1) dX7_pass_28 (by decide) ?_
        refine E.icmp_ne dX7_pass_29 (fun h => ?_) (fun h => ?_)
        · have hf := e_iff hf h
          refine E.iinc (q := 4) (v := (x4 + 1)) (lv' := [(4, .int (x4 + 1)), (0, .ref (b + 69)), (1, .ref (b + 1)), (2, .ref (b + 37)), (3, .int x3)]) dX7_pass_115 rfl rfl (by decide) rfl ?_
          refine E.goto dX7_pass_118 ?_
          refine E.locals [1, 2, 3, 4, 0] rfl ?_
          exact ih hf
        · have hf := e_ift hf h
          refine E.aload_n 0 dX7_pass_32 rfl ?_
          obtain ⟨r3, hc3, hf⟩ := e_bind hf
          refine E.callVDs (es' := (wW75 G b q nh nt ne ns v1_beasts v1_meals v1_seats v1_laws v1_inForce a2 a3 a4 a5 v37_height v37_answer a38 a39 v69_held v69_lastMinute r3.2 a70 a71 a72 aL1 aL2 aL3 aL4)) [] [8] 8 69 dX7_pass_33 mlX7_63 hw rfl rfl rfl rfl (mX7_draw (hw.pick2 [8] rfl (by decide)) hc3) rfl rfl rfl rfl ⟨Nat.le_of_ble_eq_true rfl, Nat.le_of_ble_eq_true rfl⟩ rfl rfl (Nat.le_of_ble_eq_true rfl) ⟨Nat.le_refl _, Nat.le_refl _⟩ rfl ?_
          refine E.aload_n 2 dX7_pass_36 rfl ?_
          refine E.aload_n 1 dX7_pass_37 rfl ?_
          refine E.iload 4 dX7_pass_38 rfl ?_
          refine E.iload_n 3 dX7_pass_40 rfl ?_
          obtain ⟨r4, hc4, hf⟩ := e_bind hf
          refine E.callVDs (es' := (wW75 G b q nh nt ne ns v1_beasts v1_meals v1_seats v1_laws v1_inForce a2 a3 a4 a5 r4.2.1 r4.2.2.1 r4.2.2.2.1 r4.2.2.2.2 v69_held v69_lastMinute r3.2 a70 a71 a72 aL1 aL2 aL3 aL4)) [.int r3.1] [0, 1, 2, 3, 4, 5, 6, 7, 12, 13, 14, 15, 16] 5 37 dX7_pass_41 mlX7_67 hw rfl rfl rfl rfl (mX0_liesOf_L (hw.pick2 [0, 1, 2, 3, 4, 5, 6, 7, 12, 13, 14, 15, 16] rfl (by decide)) hc4) rfl rfl rfl rfl ⟨Nat.le_of_ble_eq_true rfl, Nat.le_of_ble_eq_true rfl⟩ rfl rfl (Nat.le_of_ble_eq_true rfl) ⟨Nat.le_refl _, Nat.le_refl _⟩ rfl ?_
          refine E.icmp_ge dX7_pass_44 (fun h => ?_) (fun h => ?_)
          · have hf := e_ift hf h
            refine E.iinc (q := 4) (v := (x4 + 1)) (lv' := [(4, .int (x4 + 1)), (0, .ref (b + 69)), (1, .ref (b + 1)), (2, .ref (b + 37)), (3, .int x3)]) dX7_pass_115 rfl rfl (by decide) rfl ?_
            refine E.goto dX7_pass_118 ?_
            refine E.locals [1, 2, 3, 4, 0] rfl ?_
            exact ih hf
          · have hf := e_iff hf h
            refine E.aload_n 2 dX7_pass_47 rfl ?_
            refine E.aload_n 1 dX7_pass_48 rfl ?_
            refine E.iload 4 dX7_pass_49 rfl ?_
            refine E.aload_n 1 dX7_pass_51 rfl ?_
            refine E.getN hw 0 1 dX7_pass_52 fnX7_53 rfl rfl rfl rfl ?_
            refine E.iconst (v := 1) dX7_pass_55 (by decide) ?_
            obtain ⟨g5, hf⟩ := gd_some hf
            refine E.iald hw 3 4 dX7_pass_56 rfl rfl g5 ?_
            refine E.aload_n 1 dX7_pass_57 rfl ?_
            refine E.iload 4 dX7_pass_58 rfl ?_
            refine E.iconst (v := 5) dX7_pass_60 (by decide) ?_
            obtain ⟨r6, hc6, hf⟩ := e_bind hf
            refine E.callVDs (es' := (wW75 G b q nh nt ne ns v1_beasts v1_meals v1_seats v1_laws v1_inForce a2 a3 a4 a5 r4.2.1 r4.2.2.1 r4.2.2.2.1 r4.2.2.2.2 v69_held v69_lastMinute r3.2 a70 a71 a72 aL1 aL2 aL3 aL4)) [.int (a4 (1 : Int32).toNatClampNeg), .int x4, .ref (b + 1), .ref (b + 37)] [0, 1] 0 1 dX7_pass_61 mlX7_73 hw rfl rfl rfl rfl (mX10_trait (hw.pick2 [0, 1] rfl (by decide)) hc6) rfl rfl rfl rfl ⟨Nat.le_of_ble_eq_true rfl, Nat.le_of_ble_eq_true rfl⟩ rfl rfl (Nat.le_of_ble_eq_true rfl) ⟨Nat.le_refl _, Nat.le_refl _⟩ rfl ?_
            refine E.iload_n 3 dX7_pass_64 rfl ?_
            obtain ⟨r7, hc7, hf⟩ := e_bind hf
            refine E.callVDs (es' := (wW75 G b q nh nt ne ns v1_beasts v1_meals v1_seats v1_laws v1_inForce a2 a3 a4 a5 r7.2.1 r7.2.2.1 r7.2.2.2.1 r7.2.2.2.2 v69_held v69_lastMinute r3.2 a70 a71 a72 aL1 aL2 aL3 aL4)) [] [0, 1, 2, 3, 4, 5, 6, 7, 12, 13, 14, 15, 16] 5 37 dX7_pass_65 mlX7_77 hw rfl rfl rfl rfl (mX0_chanceOf_L (hw.pick2 [0, 1, 2, 3, 4, 5, 6, 7, 12, 13, 14, 15, 16] rfl (by decide)) hc7) rfl rfl rfl rfl ⟨Nat.le_of_ble_eq_true rfl, Nat.le_of_ble_eq_true rfl⟩ rfl rfl (Nat.le_of_ble_eq_true rfl) ⟨Nat.le_refl _, Nat.le_refl _⟩ rfl ?_
            refine E.istore (lv' := [(5, .int r7.1), (0, .ref (b + 69)), (1, .ref (b + 1)), (2, .ref (b + 37)), (3, .int x3), (4, .int x4)]) dX7_pass_68 (by decide) rfl ?_
            refine E.aload_n 1 dX7_pass_70 rfl ?_
            refine E.get hw 8 69 dX7_pass_71 flX7_9 rfl rfl rfl rfl ?_
            refine E.iload 5 dX7_pass_74 rfl ?_
            refine E.aload_n 1 dX7_pass_76 rfl ?_
            obtain ⟨r8, hc8, hf⟩ := e_bind hf
            refine E.callVDs (es' := (wW75 G b q nh nt ne ns v1_beasts v1_meals v1_seats v1_laws v1_inForce a2 a3 a4 a5 r7.2.1 r7.2.2.1 r7.2.2.2.1 r7.2.2.2.2 v69_held v69_lastMinute r8.2 a70 a71 a72 aL1 aL2 aL3 aL4)) [.int x4, .ref (b + 70)] [8] 8 69 dX7_pass_77 mlX7_63 hw rfl rfl rfl rfl (mX7_draw (hw.pick2 [8] rfl (by decide)) hc8) rfl rfl rfl rfl ⟨Nat.le_of_ble_eq_true rfl, Nat.le_of_ble_eq_true rfl⟩ rfl rfl (Nat.le_of_ble_eq_true rfl) ⟨Nat.le_refl _, Nat.le_refl _⟩ rfl ?_
            refine E.iload 0 dX7_pass_80 rfl ?_
            refine E.icmp_ge dX7_pass_82 (fun h => ?_) (fun h => ?_)
            · have hf := e_ift hf h
              refine E.iconst (v := 1) dX7_pass_89 (by decide) ?_
              refine E.locals [1, 2, 3, 4, 5] rfl ?_
              exact tX7_pass_L_L90 hw ih hf
            · have hf := e_iff hf h
              refine E.iconst (v := 0) dX7_pass_85 (by decide) ?_
              refine E.goto dX7_pass_86 ?_
              refine E.locals [1, 2, 3, 4, 5] rfl ?_
              exact tX7_pass_L_L90 hw ih hf
def fX7_pass_L (Fu : Nat) (nh : Nat) (nt : Nat) (ne : Nat) (ns : Nat) (b q : Nat) (v1_beasts : Int32) (v1_seats : Int32) (v1_laws : Int32) (v1_inForce : Int32) (a2 : Nat → Int32) (a3 : Nat → Int32) (a4 : Nat → Int32) (a5 : Nat → Option Nat) (v37_height : Int32) (v37_answer : Int64) (a38 : Nat → Int32) (a39 : Nat → Int64) (v69_drawn : Int32) (a70 : Nat → Int32) (a71 : Nat → Int32) (a72 : Nat → Int32) (aL1 : Nat → Int32) (aL2 : Nat → Int32) (aL3 : Nat → Int32) (aL4 : Nat → Int32) (x3 : Int32) : Option (Int32 × Int64 × (Nat → Int32) × (Nat → Int64) × Int32 × (Nat → Int32) × (Nat → Int32) × (Nat → Int32)) := fX7_pass_L_L3 Fu nh nt ne ns b q Fu v1_beasts v1_seats v1_laws v1_inForce a2 a3 a4 a5 v37_height v37_answer a38 a39 v69_drawn a70 a71 a72 aL1 aL2 aL3 aL4 x3 0
set_option maxHeartbeats 4000000 in
set_option maxRecDepth 100000 in
theorem tX7_pass_L {G : GT} {b : Nat} {q nh nt ne ns : Nat} {c0 : Hp} {n : Nat} (hw : e_wf (kW75 q) n) {v1_meals : Int32} {v69_held : Int32} {v69_lastMinute : Int32} {Fu : Nat} {v1_beasts : Int32} {v1_seats : Int32} {v1_laws : Int32} {v1_inForce : Int32} {a2 : Nat → Int32} {a3 : Nat → Int32} {a4 : Nat → Int32} {a5 : Nat → Option Nat} {v37_height : Int32} {v37_answer : Int64} {a38 : Nat → Int32} {a39 : Nat → Int64} {v69_drawn : Int32} {a70 : Nat → Int32} {a71 : Nat → Int32} {a72 : Nat → Int32} {aL1 : Nat → Int32} {aL2 : Nat → Int32} {aL3 : Nat → Int32} {aL4 : Nat → Int32} {x3 : Int32} {R : Int32 × Int64 × (Nat → Int32) × (Nat → Int64) × Int32 × (Nat → Int32) × (Nat → Int32) × (Nat → Int32)} (hf : fX7_pass_L Fu nh nt ne ns b q v1_beasts v1_seats v1_laws v1_inForce a2 a3 a4 a5 v37_height v37_answer a38 a39 v69_drawn a70 a71 a72 aL1 aL2 aL3 aL4 x3 = some R) : E G b yX7_pass cX7_pass 6 none (e_rm 5 0 0) e_X0 (e_Z G b (pD none (e_ov (kW75 q) (wW75 G b q nh nt ne ns v1_beasts v1_meals v1_seats v1_laws v1_inForce a2 a3 a4 a5 R.1 R.2.1 R.2.2.1 R.2.2.2.1 v69_held v69_lastMinute R.2.2.2.2.1 R.2.2.2.2.2.1 R.2.2.2.2.2.2.1 R.2.2.2.2.2.2.2 aL1 aL2 aL3 aL4) c0) n) 0 0) 0 [(0, .ref (b + 69)), (1, .ref (b + 1)), (2, .ref (b + 37)), (3, .int x3)] [] (e_ov (kW75 q) (wW75 G b q nh nt ne ns v1_beasts v1_meals v1_seats v1_laws v1_inForce a2 a3 a4 a5 v37_height v37_answer a38 a39 v69_held v69_lastMinute v69_drawn a70 a71 a72 aL1 aL2 aL3 aL4) c0) n 0 0 := by
  unfold fX7_pass_L at hf
  refine E.iconst (v := 0) dX7_pass_0 (by decide) ?_
  refine E.istore (lv' := [(4, .int 0), (0, .ref (b + 69)), (1, .ref (b + 1)), (2, .ref (b + 37)), (3, .int x3)]) dX7_pass_1 (by decide) rfl ?_
  refine E.locals [1, 2, 3, 4, 0] rfl ?_
  exact tX7_pass_L_L3 hw _ hf
set_option maxRecDepth 100000 in
theorem mX7_pass_L {G : GT} {b : Nat} {q nh nt ne ns : Nat} {c0 : Hp} {n : Nat} (hw : e_wf (kW75 q) n) {v1_meals : Int32} {v69_held : Int32} {v69_lastMinute : Int32} {Fu : Nat} {v1_beasts : Int32} {v1_seats : Int32} {v1_laws : Int32} {v1_inForce : Int32} {a2 : Nat → Int32} {a3 : Nat → Int32} {a4 : Nat → Int32} {a5 : Nat → Option Nat} {v37_height : Int32} {v37_answer : Int64} {a38 : Nat → Int32} {a39 : Nat → Int64} {v69_drawn : Int32} {a70 : Nat → Int32} {a71 : Nat → Int32} {a72 : Nat → Int32} {aL1 : Nat → Int32} {aL2 : Nat → Int32} {aL3 : Nat → Int32} {aL4 : Nat → Int32} {x3 : Int32} {R : Int32 × Int64 × (Nat → Int32) × (Nat → Int64) × Int32 × (Nat → Int32) × (Nat → Int32) × (Nat → Int32)} (hf : fX7_pass_L Fu nh nt ne ns b q v1_beasts v1_seats v1_laws v1_inForce a2 a3 a4 a5 v37_height v37_answer a38 a39 v69_drawn a70 a71 a72 aL1 aL2 aL3 aL4 x3 = some R) : e_C G b yX7_pass cX7_pass 6 none 5 0 0 [.ref (b + 69), .ref (b + 1), .ref (b + 37), .int x3] (e_ov (kW75 q) (wW75 G b q nh nt ne ns v1_beasts v1_meals v1_seats v1_laws v1_inForce a2 a3 a4 a5 v37_height v37_answer a38 a39 v69_held v69_lastMinute v69_drawn a70 a71 a72 aL1 aL2 aL3 aL4) c0) n (pD none (e_ov (kW75 q) (wW75 G b q nh nt ne ns v1_beasts v1_meals v1_seats v1_laws v1_inForce a2 a3 a4 a5 R.1 R.2.1 R.2.2.1 R.2.2.2.1 v69_held v69_lastMinute R.2.2.2.2.1 R.2.2.2.2.2.1 R.2.2.2.2.2.2.1 R.2.2.2.2.2.2.2 aL1 aL2 aL3 aL4) c0) n) := e_C.of (by decide) (Nat.le_of_ble_eq_true rfl) (tX7_pass_L hw hf)
def fX7_hold_L_L38 (Fu : Nat) (nh : Nat) (nt : Nat) (ne : Nat) (ns : Nat) (b q : Nat) : Nat → Int32 → Int32 → Int32 → Int32 → (Nat → Int32) → (Nat → Int32) → (Nat → Int32) → (Nat → Option Nat) → Int32 → Int64 → (Nat → Int32) → (Nat → Int64) → Int32 → Int32 → Int32 → (Nat → Int32) → (Nat → Int32) → (Nat → Int32) → (Nat → Int32) → (Nat → Int32) → (Nat → Int32) → (Nat → Int32) → Int32 → Int32 → Option (Int32 × Int32 × Int64 × (Nat → Int32) × (Nat → Int64) × Int32 × Int32 × Int32 × (Nat → Int32) × (Nat → Int32) × (Nat → Int32))
  | 0, _, _, _, _, _, _, _, _, _, _, _, _, _, _, _, _, _, _, _, _, _, _, _, _ => none
  | k + 1, v1_beasts, v1_seats, v1_laws, v1_inForce, a2, a3, a4, a5, v37_height, v37_answer, a38, a39, v69_held, v69_lastMinute, v69_drawn, a70, a71, a72, aL1, aL2, aL3, aL4, x4, x5 => if (60 : Int32) ≤ (x5 : Int32) then (some (2, v37_height, v37_answer, a38, a39, v69_held, v69_lastMinute, v69_drawn, a70, a71, a72)) else ((fX7_pass_L Fu nh nt ne ns b q v1_beasts v1_seats v1_laws v1_inForce a2 a3 a4 a5 v37_height v37_answer a38 a39 v69_drawn a70 a71 a72 aL1 aL2 aL3 aL4 x5).bind fun r4 => (gd 0 2 (gd 0 6 (if ((r4.2.2.2.2.2.2.2 (0 : Int32).toNatClampNeg) : Int32) < ((a4 (0 : Int32).toNatClampNeg) : Int32) then (gd 1 2 (gd 0 6 (if ((a4 (0 : Int32).toNatClampNeg) : Int32) ≤ ((x4 - (r4.2.2.2.2.2.2.2 (1 : Int32).toNatClampNeg)) : Int32) then ((fX7_hold_L_L38 Fu nh nt ne ns b q k) v1_beasts v1_seats v1_laws v1_inForce a2 a3 a4 a5 r4.1 r4.2.1 r4.2.2.1 r4.2.2.2.1 v69_held x5 r4.2.2.2.2.1 r4.2.2.2.2.2.1 r4.2.2.2.2.2.2.1 r4.2.2.2.2.2.2.2 aL1 aL2 aL3 aL4 x4 (x5 + 1)) else (some (1, r4.1, r4.2.1, r4.2.2.1, r4.2.2.2.1, v69_held, x5, r4.2.2.2.2.1, r4.2.2.2.2.2.1, r4.2.2.2.2.2.2.1, r4.2.2.2.2.2.2.2))))) else (some (0, r4.1, r4.2.1, r4.2.2.1, r4.2.2.2.1, v69_held, x5, r4.2.2.2.2.1, r4.2.2.2.2.2.1, r4.2.2.2.2.2.2.1, r4.2.2.2.2.2.2.2))))))
set_option maxHeartbeats 4000000 in
set_option maxRecDepth 100000 in
theorem tX7_hold_L_L38 {G : GT} {b : Nat} {q nh nt ne ns : Nat} {c0 : Hp} {n : Nat} (hw : e_wf (kW75 q) n) {v1_meals : Int32} {Fu : Nat} : ∀ (k : Nat) {v1_beasts : Int32} {v1_seats : Int32} {v1_laws : Int32} {v1_inForce : Int32} {a2 : Nat → Int32} {a3 : Nat → Int32} {a4 : Nat → Int32} {a5 : Nat → Option Nat} {v37_height : Int32} {v37_answer : Int64} {a38 : Nat → Int32} {a39 : Nat → Int64} {v69_held : Int32} {v69_lastMinute : Int32} {v69_drawn : Int32} {a70 : Nat → Int32} {a71 : Nat → Int32} {a72 : Nat → Int32} {aL1 : Nat → Int32} {aL2 : Nat → Int32} {aL3 : Nat → Int32} {aL4 : Nat → Int32} {x4 : Int32} {x5 : Int32} {R : Int32 × Int32 × Int64 × (Nat → Int32) × (Nat → Int64) × Int32 × Int32 × Int32 × (Nat → Int32) × (Nat → Int32) × (Nat → Int32)}, fX7_hold_L_L38 Fu nh nt ne ns b q k v1_beasts v1_seats v1_laws v1_inForce a2 a3 a4 a5 v37_height v37_answer a38 a39 v69_held v69_lastMinute v69_drawn a70 a71 a72 aL1 aL2 aL3 aL4 x4 x5 = some R → E G b yX7_hold cX7_hold 6 (some .int) (e_rm 6 0 0) e_X0 (e_Z G b (pD (some (.int R.1)) (e_ov (kW75 q) (wW75 G b q nh nt ne ns v1_beasts v1_meals v1_seats v1_laws v1_inForce a2 a3 a4 a5 R.2.1 R.2.2.1 R.2.2.2.1 R.2.2.2.2.1 R.2.2.2.2.2.1 R.2.2.2.2.2.2.1 R.2.2.2.2.2.2.2.1 R.2.2.2.2.2.2.2.2.1 R.2.2.2.2.2.2.2.2.2.1 R.2.2.2.2.2.2.2.2.2.2 aL1 aL2 aL3 aL4) c0) n) 0 0) 38 [(0, .ref (b + 69)), (1, .ref (b + 1)), (2, .ref (b + 37)), (4, .int x4), (5, .int x5)] [] (e_ov (kW75 q) (wW75 G b q nh nt ne ns v1_beasts v1_meals v1_seats v1_laws v1_inForce a2 a3 a4 a5 v37_height v37_answer a38 a39 v69_held v69_lastMinute v69_drawn a70 a71 a72 aL1 aL2 aL3 aL4) c0) n 0 0 := by
  intro k
  induction k with
  | zero =>
    intro _ _ _ _ _ _ _ _ _ _ _ _ _ _ _ _ _ _ _ _ _ _ _ _ _ hf
    have hf : (none : Option (Int32 × Int32 × Int64 × (Nat → Int32) × (Nat → Int64) × Int32 × Int32 × Int32 × (Nat → Int32) × (Nat → Int32) × (Nat → Int32))) = some _ := hf
    cases hf
  | succ k ih =>
    intro v1_beasts v1_seats v1_laws v1_inForce a2 a3 a4 a5 v37_height v37_answer a38 a39 v69_held v69_lastMinute v69_drawn a70 a71 a72 aL1 aL2 aL3 aL4 x4 x5 R hf
    rw [fX7_hold_L_L38] at hf
    refine E.iload 4 dX7_hold_38 rfl ?_
    refine E.bipush (v := 60) dX7_hold_40 (by decide) ?_
    refine E.icmp_ge dX7_hold_42 (fun h => ?_) (fun h => ?_)
    · have hf := e_ift hf h
      refine E.iconst (v := 2) dX7_hold_102 (by decide) ?_
      cases hf
      exact E.iret dX7_hold_103 (Nat.le_refl _) (Nat.le_refl _) (pD_rf _ _ _)
    · have hf := e_iff hf h
      refine E.aload_n 0 dX7_hold_45 rfl ?_
      refine E.iload 4 dX7_hold_46 rfl ?_
      refine E.put (es' := (wW75 G b q nh nt ne ns v1_beasts v1_meals v1_seats v1_laws v1_inForce a2 a3 a4 a5 v37_height v37_answer a38 a39 v69_held x5 v69_drawn a70 a71 a72 aL1 aL2 aL3 aL4)) hw 8 69 dX7_hold_48 flX7_46 ftX7 rfl rfl rfl rfl rfl rfl (Nat.le_of_ble_eq_true rfl) rfl ?_
      refine E.aload_n 0 dX7_hold_51 rfl ?_
      refine E.aload_n 1 dX7_hold_52 rfl ?_
      refine E.aload_n 2 dX7_hold_53 rfl ?_
      refine E.iload 4 dX7_hold_54 rfl ?_
      obtain ⟨r4, hc4, hf⟩ := e_bind hf
      refine E.callVD [] dX7_hold_56 mlX7_49 ⟨hw.sub (p := 8) rfl, e_ov_get hw.1 (p := 8) rfl rfl⟩ rfl rfl (mX7_pass_L hw hc4) ⟨Nat.le_of_ble_eq_true rfl, Nat.le_of_ble_eq_true rfl⟩ rfl rfl (Nat.le_of_ble_eq_true rfl) ⟨Nat.le_refl _, Nat.le_refl _⟩ rfl ?_
      refine E.aload_n 0 dX7_hold_59 rfl ?_
      refine E.get hw 8 69 dX7_hold_60 flX7_18 rfl rfl rfl rfl ?_
      refine E.iconst (v := 0) dX7_hold_63 (by decide) ?_
      obtain ⟨g5, hf⟩ := gd_some hf
      refine E.iald hw 11 72 dX7_hold_64 rfl rfl g5 ?_
      refine E.aload_n 1 dX7_hold_65 rfl ?_
      refine E.getN hw 0 1 dX7_hold_66 fnX7_53 rfl rfl rfl rfl ?_
      refine E.iconst (v := 0) dX7_hold_69 (by decide) ?_
      obtain ⟨g6, hf⟩ := gd_some hf
      refine E.iald hw 3 4 dX7_hold_70 rfl rfl g6 ?_
      refine E.icmp_lt dX7_hold_71 (fun h => ?_) (fun h => ?_)
      · have hf := e_ift hf h
        refine E.iload 3 dX7_hold_76 rfl ?_
        refine E.aload_n 0 dX7_hold_78 rfl ?_
        refine E.get hw 8 69 dX7_hold_79 flX7_18 rfl rfl rfl rfl ?_
        refine E.iconst (v := 1) dX7_hold_82 (by decide) ?_
        obtain ⟨g7, hf⟩ := gd_some hf
        refine E.iald hw 11 72 dX7_hold_83 rfl rfl g7 ?_
        refine E.isub dX7_hold_84 ?_
        refine E.aload_n 1 dX7_hold_85 rfl ?_
        refine E.getN hw 0 1 dX7_hold_86 fnX7_53 rfl rfl rfl rfl ?_
        refine E.iconst (v := 0) dX7_hold_89 (by decide) ?_
        obtain ⟨g8, hf⟩ := gd_some hf
        refine E.iald hw 3 4 dX7_hold_90 rfl rfl g8 ?_
        refine E.icmp_ge dX7_hold_91 (fun h => ?_) (fun h => ?_)
        · have hf := e_ift hf h
          refine E.iinc (q := 4) (v := (x5 + 1)) (lv' := [(5, .int (x5 + 1)), (0, .ref (b + 69)), (1, .ref (b + 1)), (2, .ref (b + 37)), (4, .int x4)]) dX7_hold_96 rfl rfl (by decide) rfl ?_
          refine E.goto dX7_hold_99 ?_
          refine E.locals [1, 2, 3, 4, 0] rfl ?_
          exact ih hf
        · have hf := e_iff hf h
          refine E.iconst (v := 1) dX7_hold_94 (by decide) ?_
          cases hf
          exact E.iret dX7_hold_95 (Nat.le_refl _) (Nat.le_refl _) (pD_rf _ _ _)
      · have hf := e_iff hf h
        refine E.iconst (v := 0) dX7_hold_74 (by decide) ?_
        cases hf
        exact E.iret dX7_hold_75 (Nat.le_refl _) (Nat.le_refl _) (pD_rf _ _ _)
def fX7_hold_L (Fu : Nat) (nh : Nat) (nt : Nat) (ne : Nat) (ns : Nat) (b q : Nat) (v1_beasts : Int32) (v1_seats : Int32) (v1_laws : Int32) (v1_inForce : Int32) (a2 : Nat → Int32) (a3 : Nat → Int32) (a4 : Nat → Int32) (a5 : Nat → Option Nat) (v37_height : Int32) (v37_answer : Int64) (a38 : Nat → Int32) (a39 : Nat → Int64) (v69_held : Int32) (v69_lastMinute : Int32) (v69_drawn : Int32) (a70 : Nat → Int32) (a71 : Nat → Int32) (a72 : Nat → Int32) (aL1 : Nat → Int32) (aL2 : Nat → Int32) (aL3 : Nat → Int32) (aL4 : Nat → Int32) (x3 : Int32) : Option (Int32 × Int32 × Int64 × (Nat → Int32) × (Nat → Int64) × Int32 × Int32 × Int32 × (Nat → Int32) × (Nat → Int32) × (Nat → Int32)) := (fJ7_fill_53178 Fu 8 a70 (-1 : Int32)).bind fun r1 => ((fJ7_fill_53178 Fu 2 a72 0).bind fun r2 => ((fJ6_bitCount_0f7a4 v1_seats).bind fun r3 => (fX7_hold_L_L38 Fu nh nt ne ns b q Fu v1_beasts v1_seats v1_laws v1_inForce a2 a3 a4 a5 v37_height v37_answer a38 a39 1 v69_lastMinute x3 r1 a71 r2 aL1 aL2 aL3 aL4 r3 0)))
set_option maxHeartbeats 4000000 in
set_option maxRecDepth 100000 in
theorem tX7_hold_L {G : GT} {b : Nat} {q nh nt ne ns : Nat} {c0 : Hp} {n : Nat} (hw : e_wf (kW75 q) n) {v1_meals : Int32} {Fu : Nat} {v1_beasts : Int32} {v1_seats : Int32} {v1_laws : Int32} {v1_inForce : Int32} {a2 : Nat → Int32} {a3 : Nat → Int32} {a4 : Nat → Int32} {a5 : Nat → Option Nat} {v37_height : Int32} {v37_answer : Int64} {a38 : Nat → Int32} {a39 : Nat → Int64} {v69_held : Int32} {v69_lastMinute : Int32} {v69_drawn : Int32} {a70 : Nat → Int32} {a71 : Nat → Int32} {a72 : Nat → Int32} {aL1 : Nat → Int32} {aL2 : Nat → Int32} {aL3 : Nat → Int32} {aL4 : Nat → Int32} {x3 : Int32} {R : Int32 × Int32 × Int64 × (Nat → Int32) × (Nat → Int64) × Int32 × Int32 × Int32 × (Nat → Int32) × (Nat → Int32) × (Nat → Int32)} (hf : fX7_hold_L Fu nh nt ne ns b q v1_beasts v1_seats v1_laws v1_inForce a2 a3 a4 a5 v37_height v37_answer a38 a39 v69_held v69_lastMinute v69_drawn a70 a71 a72 aL1 aL2 aL3 aL4 x3 = some R) : E G b yX7_hold cX7_hold 6 (some .int) (e_rm 6 0 0) e_X0 (e_Z G b (pD (some (.int R.1)) (e_ov (kW75 q) (wW75 G b q nh nt ne ns v1_beasts v1_meals v1_seats v1_laws v1_inForce a2 a3 a4 a5 R.2.1 R.2.2.1 R.2.2.2.1 R.2.2.2.2.1 R.2.2.2.2.2.1 R.2.2.2.2.2.2.1 R.2.2.2.2.2.2.2.1 R.2.2.2.2.2.2.2.2.1 R.2.2.2.2.2.2.2.2.2.1 R.2.2.2.2.2.2.2.2.2.2 aL1 aL2 aL3 aL4) c0) n) 0 0) 0 [(0, .ref (b + 69)), (1, .ref (b + 1)), (2, .ref (b + 37)), (3, .int x3)] [] (e_ov (kW75 q) (wW75 G b q nh nt ne ns v1_beasts v1_meals v1_seats v1_laws v1_inForce a2 a3 a4 a5 v37_height v37_answer a38 a39 v69_held v69_lastMinute v69_drawn a70 a71 a72 aL1 aL2 aL3 aL4) c0) n 0 0 := by
  unfold fX7_hold_L at hf
  refine E.aload_n 0 dX7_hold_0 rfl ?_
  refine E.iconst (v := 1) dX7_hold_1 (by decide) ?_
  refine E.put (es' := (wW75 G b q nh nt ne ns v1_beasts v1_meals v1_seats v1_laws v1_inForce a2 a3 a4 a5 v37_height v37_answer a38 a39 1 v69_lastMinute v69_drawn a70 a71 a72 aL1 aL2 aL3 aL4)) hw 8 69 dX7_hold_2 flX7_21 ftX7 rfl rfl rfl rfl rfl rfl (Nat.le_of_ble_eq_true rfl) rfl ?_
  refine E.aload_n 0 dX7_hold_5 rfl ?_
  refine E.iload_n 3 dX7_hold_6 rfl ?_
  refine E.put (es' := (wW75 G b q nh nt ne ns v1_beasts v1_meals v1_seats v1_laws v1_inForce a2 a3 a4 a5 v37_height v37_answer a38 a39 1 v69_lastMinute x3 a70 a71 a72 aL1 aL2 aL3 aL4)) hw 8 69 dX7_hold_7 flX7_25 ftX7 rfl rfl rfl rfl rfl rfl (Nat.le_of_ble_eq_true rfl) rfl ?_
  refine E.aload_n 0 dX7_hold_10 rfl ?_
  refine E.get hw 8 69 dX7_hold_11 flX7_9 rfl rfl rfl rfl ?_
  refine E.iconst (v := -1) dX7_hold_14 (by decide) ?_
  obtain ⟨r1, hc1, hf⟩ := e_bind hf
  refine E.callSDs (es' := (wW75 G b q nh nt ne ns v1_beasts v1_meals v1_seats v1_laws v1_inForce a2 a3 a4 a5 v37_height v37_answer a38 a39 1 v69_lastMinute x3 r1 a71 a72 aL1 aL2 aL3 aL4)) [] [9] dX7_hold_15 mlX7_29 hw (mJ7_fill_53178 (hw.pick2 [9] rfl (by decide)) hc1) rfl rfl rfl rfl ⟨Nat.le_of_ble_eq_true rfl, Nat.le_of_ble_eq_true rfl⟩ rfl rfl (Nat.le_of_ble_eq_true rfl) ⟨Nat.le_refl _, Nat.le_refl _⟩ rfl ?_
  refine E.aload_n 0 dX7_hold_18 rfl ?_
  refine E.get hw 8 69 dX7_hold_19 flX7_18 rfl rfl rfl rfl ?_
  refine E.iconst (v := 0) dX7_hold_22 (by decide) ?_
  obtain ⟨r2, hc2, hf⟩ := e_bind hf
  refine E.callSDs (es' := (wW75 G b q nh nt ne ns v1_beasts v1_meals v1_seats v1_laws v1_inForce a2 a3 a4 a5 v37_height v37_answer a38 a39 1 v69_lastMinute x3 r1 a71 r2 aL1 aL2 aL3 aL4)) [] [11] dX7_hold_23 mlX7_29 hw (mJ7_fill_53178 (hw.pick2 [11] rfl (by decide)) hc2) rfl rfl rfl rfl ⟨Nat.le_of_ble_eq_true rfl, Nat.le_of_ble_eq_true rfl⟩ rfl rfl (Nat.le_of_ble_eq_true rfl) ⟨Nat.le_refl _, Nat.le_refl _⟩ rfl ?_
  refine E.aload_n 1 dX7_hold_26 rfl ?_
  refine E.getN hw 0 1 dX7_hold_27 fnX7_35 rfl rfl rfl rfl ?_
  obtain ⟨r3, hc3, hf⟩ := e_bind hf
  refine E.callSD [] dX7_hold_30 mlX7_40 (mJ6_bitCount_0f7a4 hc3) ⟨Nat.le_of_ble_eq_true rfl, Nat.le_of_ble_eq_true rfl⟩ rfl rfl (Nat.le_of_ble_eq_true rfl) ⟨Nat.le_refl _, Nat.le_refl _⟩ rfl ?_
  refine E.istore (lv' := [(4, .int r3), (0, .ref (b + 69)), (1, .ref (b + 1)), (2, .ref (b + 37)), (3, .int x3)]) dX7_hold_33 (by decide) rfl ?_
  refine E.iconst (v := 0) dX7_hold_35 (by decide) ?_
  refine E.istore (lv' := [(5, .int 0), (4, .int r3), (0, .ref (b + 69)), (1, .ref (b + 1)), (2, .ref (b + 37)), (3, .int x3)]) dX7_hold_36 (by decide) rfl ?_
  refine E.locals [2, 3, 4, 1, 0] rfl ?_
  exact tX7_hold_L_L38 hw _ hf
set_option maxRecDepth 100000 in
theorem mX7_hold_L {G : GT} {b : Nat} {q nh nt ne ns : Nat} {c0 : Hp} {n : Nat} (hw : e_wf (kW75 q) n) {v1_meals : Int32} {Fu : Nat} {v1_beasts : Int32} {v1_seats : Int32} {v1_laws : Int32} {v1_inForce : Int32} {a2 : Nat → Int32} {a3 : Nat → Int32} {a4 : Nat → Int32} {a5 : Nat → Option Nat} {v37_height : Int32} {v37_answer : Int64} {a38 : Nat → Int32} {a39 : Nat → Int64} {v69_held : Int32} {v69_lastMinute : Int32} {v69_drawn : Int32} {a70 : Nat → Int32} {a71 : Nat → Int32} {a72 : Nat → Int32} {aL1 : Nat → Int32} {aL2 : Nat → Int32} {aL3 : Nat → Int32} {aL4 : Nat → Int32} {x3 : Int32} {R : Int32 × Int32 × Int64 × (Nat → Int32) × (Nat → Int64) × Int32 × Int32 × Int32 × (Nat → Int32) × (Nat → Int32) × (Nat → Int32)} (hf : fX7_hold_L Fu nh nt ne ns b q v1_beasts v1_seats v1_laws v1_inForce a2 a3 a4 a5 v37_height v37_answer a38 a39 v69_held v69_lastMinute v69_drawn a70 a71 a72 aL1 aL2 aL3 aL4 x3 = some R) : e_C G b yX7_hold cX7_hold 6 (some .int) 6 0 0 [.ref (b + 69), .ref (b + 1), .ref (b + 37), .int x3] (e_ov (kW75 q) (wW75 G b q nh nt ne ns v1_beasts v1_meals v1_seats v1_laws v1_inForce a2 a3 a4 a5 v37_height v37_answer a38 a39 v69_held v69_lastMinute v69_drawn a70 a71 a72 aL1 aL2 aL3 aL4) c0) n (pD (some (.int R.1)) (e_ov (kW75 q) (wW75 G b q nh nt ne ns v1_beasts v1_meals v1_seats v1_laws v1_inForce a2 a3 a4 a5 R.2.1 R.2.2.1 R.2.2.2.1 R.2.2.2.2.1 R.2.2.2.2.2.1 R.2.2.2.2.2.2.1 R.2.2.2.2.2.2.2.1 R.2.2.2.2.2.2.2.2.1 R.2.2.2.2.2.2.2.2.2.1 R.2.2.2.2.2.2.2.2.2.2 aL1 aL2 aL3 aL4) c0) n) := e_C.of (by decide) (Nat.le_of_ble_eq_true rfl) (tX7_hold_L hw hf)
abbrev kW76 (q : Nat) : List Nat := [0, 1, 2, 3, 4, 5, 37, 38, 39, 42, 69, 70, 71, 72, 78, q, (q + 1), (q + 2), (q + 3), (q + 4)]
abbrev wW76 (G : GT) (b q nh nt ne ns : Nat) (v0_faultPlace : Int32) (v0_quashedRows : Int32) (v0_lastRefusal : Int32) (v1_beasts : Int32) (v1_meals : Int32) (v1_seats : Int32) (v1_laws : Int32) (v1_inForce : Int32) (a2 : Nat → Int32) (a3 : Nat → Int32) (a4 : Nat → Int32) (a5 : Nat → Option Nat) (v37_height : Int32) (v37_answer : Int64) (a38 : Nat → Int32) (a39 : Nat → Int64) (v42_beasts : Int32) (v42_seats : Int32) (v42_seated : Int32) (v42_quota : Int32) (v42_known : Int32) (v42_surveyed : Int32) (v42_steadyBench : Int32) (v42_steadyWays : Int32) (v42_steadySwing : Int64) (v69_held : Int32) (v69_lastMinute : Int32) (v69_drawn : Int32) (a70 : Nat → Int32) (a71 : Nat → Int32) (a72 : Nat → Int32) (a78 : Nat → Int32) (aL1 : Nat → Int32) (aL2 : Nat → Int32) (aL3 : Nat → Int32) (aL4 : Nat → Int32) : List va_E := [.inr (11, [.ref (b + 1), .ref (b + 10), .ref (b + 29), .ref (b + 30), .ref (b + 32), .ref (b + 37), .ref (b + 40), .ref (b + 42), .ref (b + 69), .ref (b + 73), .ref (b + 74), .ref (b + 76), .ref (b + 78), .int v0_faultPlace, .int v0_quashedRows, .int v0_lastRefusal]), .inr (10, [.ref (b + 2), .ref (b + 3), .ref (b + 4), .ref (b + 5), .ref (b + 6), .int v1_beasts, .int v1_meals, .int v1_seats, .int v1_laws, .int v1_inForce]), aI G 48 a2, aI G 8 a3, aI G 6 a4, aQ G 4 6 a5, .inr (0, [.ref (b + 38), .ref (b + 39), .int v37_height, .long v37_answer]), aI G 10 a38, aJ G 51 a39, .inr (1, [.ref (b + 43), .ref (b + 44), .ref (b + 45), .ref (b + 46), .ref (b + 47), .ref (b + 48), .ref (b + 49), .ref (b + 50), .ref (b + 67), .int v42_beasts, .int v42_seats, .int v42_seated, .int v42_quota, .int v42_known, .int v42_surveyed, .int v42_steadyBench, .int v42_steadyWays, .long v42_steadySwing]), .inr (7, [.ref (b + 70), .ref (b + 71), .ref (b + 72), .int v69_held, .int v69_lastMinute, .int v69_drawn]), aI G 8 a70, aI G 8 a71, aI G 2 a72, aI G 7 a78, .inr (5, [.ref (b + (q + 1)), .ref (b + (q + 2)), .ref (b + (q + 3)), .ref (b + (q + 4))]), aI G nh aL1, aI G nt aL2, aI G ne aL3, aI G ns aL4]
def fX11_sitting_L_L11 (Fu : Nat) (nh : Nat) (nt : Nat) (ne : Nat) (ns : Nat) (b q : Nat) (v0_lastRefusal : Int32) (v1_beasts : Int32) (v1_seats : Int32) (v1_laws : Int32) (v1_inForce : Int32) (a2 : Nat → Int32) (a3 : Nat → Int32) (a4 : Nat → Int32) (a5 : Nat → Option Nat) (v37_height : Int32) (v37_answer : Int64) (a38 : Nat → Int32) (a39 : Nat → Int64) (v42_known : Int32) (v69_held : Int32) (v69_lastMinute : Int32) (v69_drawn : Int32) (a70 : Nat → Int32) (a71 : Nat → Int32) (a72 : Nat → Int32) (a78 : Nat → Int32) (aL1 : Nat → Int32) (aL2 : Nat → Int32) (aL3 : Nat → Int32) (aL4 : Nat → Int32) : Option (Int32 × Int32 × Int32 × Int64 × (Nat → Int32) × (Nat → Int64) × Int32 × Int32 × Int32 × Int32 × (Nat → Int32) × (Nat → Int32) × (Nat → Int32) × (Nat → Int32)) := (fX11_refuse v0_lastRefusal a78 (-1 : Int32)).bind fun r3 => (some (r3.1, r3.2.1, v37_height, v37_answer, a38, a39, v42_known, v69_held, v69_lastMinute, v69_drawn, a70, a71, a72, r3.2.2))
set_option maxHeartbeats 4000000 in
set_option maxRecDepth 100000 in
theorem tX11_sitting_L_L11 {G : GT} {b : Nat} {q nh nt ne ns : Nat} {c0 : Hp} {n : Nat} (hw : e_wf (kW76 q) n) {v0_faultPlace : Int32} {v0_quashedRows : Int32} {v1_meals : Int32} {v42_beasts : Int32} {v42_seats : Int32} {v42_seated : Int32} {v42_quota : Int32} {v42_surveyed : Int32} {v42_steadyBench : Int32} {v42_steadyWays : Int32} {v42_steadySwing : Int64} {Fu : Nat} {v0_lastRefusal : Int32} {v1_beasts : Int32} {v1_seats : Int32} {v1_laws : Int32} {v1_inForce : Int32} {a2 : Nat → Int32} {a3 : Nat → Int32} {a4 : Nat → Int32} {a5 : Nat → Option Nat} {v37_height : Int32} {v37_answer : Int64} {a38 : Nat → Int32} {a39 : Nat → Int64} {v42_known : Int32} {v69_held : Int32} {v69_lastMinute : Int32} {v69_drawn : Int32} {a70 : Nat → Int32} {a71 : Nat → Int32} {a72 : Nat → Int32} {a78 : Nat → Int32} {aL1 : Nat → Int32} {aL2 : Nat → Int32} {aL3 : Nat → Int32} {aL4 : Nat → Int32} {R : Int32 × Int32 × Int32 × Int64 × (Nat → Int32) × (Nat → Int64) × Int32 × Int32 × Int32 × Int32 × (Nat → Int32) × (Nat → Int32) × (Nat → Int32) × (Nat → Int32)} (hf : fX11_sitting_L_L11 Fu nh nt ne ns b q v0_lastRefusal v1_beasts v1_seats v1_laws v1_inForce a2 a3 a4 a5 v37_height v37_answer a38 a39 v42_known v69_held v69_lastMinute v69_drawn a70 a71 a72 a78 aL1 aL2 aL3 aL4 = some R) : E G b yX11_sitting cX11_sitting 2 (some .int) (e_rm 7 0 0) e_X0 (e_Z G b (pD (some (.int R.1)) (e_ov (kW76 q) (wW76 G b q nh nt ne ns v0_faultPlace v0_quashedRows R.2.1 v1_beasts v1_meals v1_seats v1_laws v1_inForce a2 a3 a4 a5 R.2.2.1 R.2.2.2.1 R.2.2.2.2.1 R.2.2.2.2.2.1 v42_beasts v42_seats v42_seated v42_quota R.2.2.2.2.2.2.1 v42_surveyed v42_steadyBench v42_steadyWays v42_steadySwing R.2.2.2.2.2.2.2.1 R.2.2.2.2.2.2.2.2.1 R.2.2.2.2.2.2.2.2.2.1 R.2.2.2.2.2.2.2.2.2.2.1 R.2.2.2.2.2.2.2.2.2.2.2.1 R.2.2.2.2.2.2.2.2.2.2.2.2.1 R.2.2.2.2.2.2.2.2.2.2.2.2.2 aL1 aL2 aL3 aL4) c0) n) 0 0) 11 [(0, .ref (b + 0))] [] (e_ov (kW76 q) (wW76 G b q nh nt ne ns v0_faultPlace v0_quashedRows v0_lastRefusal v1_beasts v1_meals v1_seats v1_laws v1_inForce a2 a3 a4 a5 v37_height v37_answer a38 a39 v42_beasts v42_seats v42_seated v42_quota v42_known v42_surveyed v42_steadyBench v42_steadyWays v42_steadySwing v69_held v69_lastMinute v69_drawn a70 a71 a72 a78 aL1 aL2 aL3 aL4) c0) n 0 0 := by
  unfold fX11_sitting_L_L11 at hf
  refine E.aload_n 0 dX11_sitting_11 rfl ?_
  refine E.iconst (v := -1) dX11_sitting_12 (by decide) ?_
  obtain ⟨r3, hc3, hf⟩ := e_bind hf
  refine E.callVDs (es' := (wW76 G b q nh nt ne ns v0_faultPlace v0_quashedRows r3.2.1 v1_beasts v1_meals v1_seats v1_laws v1_inForce a2 a3 a4 a5 v37_height v37_answer a38 a39 v42_beasts v42_seats v42_seated v42_quota v42_known v42_surveyed v42_steadyBench v42_steadyWays v42_steadySwing v69_held v69_lastMinute v69_drawn a70 a71 a72 r3.2.2 aL1 aL2 aL3 aL4)) [] [0, 14] 0 0 dX11_sitting_13 mlX11_97 hw rfl rfl rfl rfl (mX11_refuse (hw.pick2 [0, 14] rfl (by decide)) hc3) rfl rfl rfl rfl ⟨Nat.le_of_ble_eq_true rfl, Nat.le_of_ble_eq_true rfl⟩ rfl rfl (Nat.le_of_ble_eq_true rfl) ⟨Nat.le_refl _, Nat.le_refl _⟩ rfl ?_
  cases hf
  exact E.iret dX11_sitting_16 (Nat.le_refl _) (Nat.le_refl _) (pD_rf _ _ _)
def fX11_sitting_L (Fu : Nat) (nh : Nat) (nt : Nat) (ne : Nat) (ns : Nat) (b q : Nat) (v0_lastRefusal : Int32) (v1_beasts : Int32) (v1_seats : Int32) (v1_laws : Int32) (v1_inForce : Int32) (a2 : Nat → Int32) (a3 : Nat → Int32) (a4 : Nat → Int32) (a5 : Nat → Option Nat) (v37_height : Int32) (v37_answer : Int64) (a38 : Nat → Int32) (a39 : Nat → Int64) (v42_known : Int32) (v69_held : Int32) (v69_lastMinute : Int32) (v69_drawn : Int32) (a70 : Nat → Int32) (a71 : Nat → Int32) (a72 : Nat → Int32) (a78 : Nat → Int32) (aL1 : Nat → Int32) (aL2 : Nat → Int32) (aL3 : Nat → Int32) (aL4 : Nat → Int32) (x1 : Int32) : Option (Int32 × Int32 × Int32 × Int64 × (Nat → Int32) × (Nat → Int64) × Int32 × Int32 × Int32 × Int32 × (Nat → Int32) × (Nat → Int32) × (Nat → Int32) × (Nat → Int32)) := if (x1 : Int32) < (0 : Int32) then (fX11_sitting_L_L11 Fu nh nt ne ns b q v0_lastRefusal v1_beasts v1_seats v1_laws v1_inForce a2 a3 a4 a5 v37_height v37_answer a38 a39 v42_known v69_held v69_lastMinute v69_drawn a70 a71 a72 a78 aL1 aL2 aL3 aL4) else (if (x1 : Int32) ≤ (1000000 : Int32) then ((fX7_hold_L Fu nh nt ne ns b q v1_beasts v1_seats v1_laws v1_inForce a2 a3 a4 a5 v37_height v37_answer a38 a39 v69_held v69_lastMinute v69_drawn a70 a71 a72 aL1 aL2 aL3 aL4 x1).bind fun r1 => ((fX11_accept v0_lastRefusal v42_known r1.1).bind fun r2 => (some (r2.1, r2.2.1, r1.2.1, r1.2.2.1, r1.2.2.2.1, r1.2.2.2.2.1, r2.2.2, r1.2.2.2.2.2.1, r1.2.2.2.2.2.2.1, r1.2.2.2.2.2.2.2.1, r1.2.2.2.2.2.2.2.2.1, r1.2.2.2.2.2.2.2.2.2.1, r1.2.2.2.2.2.2.2.2.2.2, a78)))) else (fX11_sitting_L_L11 Fu nh nt ne ns b q v0_lastRefusal v1_beasts v1_seats v1_laws v1_inForce a2 a3 a4 a5 v37_height v37_answer a38 a39 v42_known v69_held v69_lastMinute v69_drawn a70 a71 a72 a78 aL1 aL2 aL3 aL4))
set_option maxHeartbeats 4000000 in
set_option maxRecDepth 100000 in
theorem tX11_sitting_L {G : GT} {b : Nat} {q nh nt ne ns : Nat} {c0 : Hp} {n : Nat} (hw : e_wf (kW76 q) n) {v0_faultPlace : Int32} {v0_quashedRows : Int32} {v1_meals : Int32} {v42_beasts : Int32} {v42_seats : Int32} {v42_seated : Int32} {v42_quota : Int32} {v42_surveyed : Int32} {v42_steadyBench : Int32} {v42_steadyWays : Int32} {v42_steadySwing : Int64} {Fu : Nat} {v0_lastRefusal : Int32} {v1_beasts : Int32} {v1_seats : Int32} {v1_laws : Int32} {v1_inForce : Int32} {a2 : Nat → Int32} {a3 : Nat → Int32} {a4 : Nat → Int32} {a5 : Nat → Option Nat} {v37_height : Int32} {v37_answer : Int64} {a38 : Nat → Int32} {a39 : Nat → Int64} {v42_known : Int32} {v69_held : Int32} {v69_lastMinute : Int32} {v69_drawn : Int32} {a70 : Nat → Int32} {a71 : Nat → Int32} {a72 : Nat → Int32} {a78 : Nat → Int32} {aL1 : Nat → Int32} {aL2 : Nat → Int32} {aL3 : Nat → Int32} {aL4 : Nat → Int32} {x1 : Int32} {R : Int32 × Int32 × Int32 × Int64 × (Nat → Int32) × (Nat → Int64) × Int32 × Int32 × Int32 × Int32 × (Nat → Int32) × (Nat → Int32) × (Nat → Int32) × (Nat → Int32)} (hf : fX11_sitting_L Fu nh nt ne ns b q v0_lastRefusal v1_beasts v1_seats v1_laws v1_inForce a2 a3 a4 a5 v37_height v37_answer a38 a39 v42_known v69_held v69_lastMinute v69_drawn a70 a71 a72 a78 aL1 aL2 aL3 aL4 x1 = some R) : E G b yX11_sitting cX11_sitting 2 (some .int) (e_rm 7 0 0) e_X0 (e_Z G b (pD (some (.int R.1)) (e_ov (kW76 q) (wW76 G b q nh nt ne ns v0_faultPlace v0_quashedRows R.2.1 v1_beasts v1_meals v1_seats v1_laws v1_inForce a2 a3 a4 a5 R.2.2.1 R.2.2.2.1 R.2.2.2.2.1 R.2.2.2.2.2.1 v42_beasts v42_seats v42_seated v42_quota R.2.2.2.2.2.2.1 v42_surveyed v42_steadyBench v42_steadyWays v42_steadySwing R.2.2.2.2.2.2.2.1 R.2.2.2.2.2.2.2.2.1 R.2.2.2.2.2.2.2.2.2.1 R.2.2.2.2.2.2.2.2.2.2.1 R.2.2.2.2.2.2.2.2.2.2.2.1 R.2.2.2.2.2.2.2.2.2.2.2.2.1 R.2.2.2.2.2.2.2.2.2.2.2.2.2 aL1 aL2 aL3 aL4) c0) n) 0 0) 0 [(0, .ref (b + 0)), (1, .int x1)] [] (e_ov (kW76 q) (wW76 G b q nh nt ne ns v0_faultPlace v0_quashedRows v0_lastRefusal v1_beasts v1_meals v1_seats v1_laws v1_inForce a2 a3 a4 a5 v37_height v37_answer a38 a39 v42_beasts v42_seats v42_seated v42_quota v42_known v42_surveyed v42_steadyBench v42_steadyWays v42_steadySwing v69_held v69_lastMinute v69_drawn a70 a71 a72 a78 aL1 aL2 aL3 aL4) c0) n 0 0 := by
  unfold fX11_sitting_L at hf
  refine E.iload_n 1 dX11_sitting_0 rfl ?_
  refine E.if_lt dX11_sitting_1 (fun h => ?_) (fun h => ?_)
  · have hf := e_ift hf h
    refine E.locals [0] rfl ?_
    exact tX11_sitting_L_L11 hw hf
  · have hf := e_iff hf h
    refine E.iload_n 1 dX11_sitting_4 rfl ?_
    refine E.ldcw dX11_sitting_5 kX11_297 ?_
    refine E.icmp_le dX11_sitting_8 (fun h => ?_) (fun h => ?_)
    · have hf := e_ift hf h
      refine E.aload_n 0 dX11_sitting_17 rfl ?_
      refine E.aload_n 0 dX11_sitting_18 rfl ?_
      refine E.get hw 0 0 dX11_sitting_19 flX11_64 rfl rfl rfl rfl ?_
      refine E.aload_n 0 dX11_sitting_22 rfl ?_
      refine E.get hw 0 0 dX11_sitting_23 flX11_10 rfl rfl rfl rfl ?_
      refine E.aload_n 0 dX11_sitting_26 rfl ?_
      refine E.get hw 0 0 dX11_sitting_27 flX11_43 rfl rfl rfl rfl ?_
      refine E.iload_n 1 dX11_sitting_30 rfl ?_
      obtain ⟨r1, hc1, hf⟩ := e_bind hf
      refine E.callVDs (es' := (wW76 G b q nh nt ne ns v0_faultPlace v0_quashedRows v0_lastRefusal v1_beasts v1_meals v1_seats v1_laws v1_inForce a2 a3 a4 a5 r1.2.1 r1.2.2.1 r1.2.2.2.1 r1.2.2.2.2.1 v42_beasts v42_seats v42_seated v42_quota v42_known v42_surveyed v42_steadyBench v42_steadyWays v42_steadySwing r1.2.2.2.2.2.1 r1.2.2.2.2.2.2.1 r1.2.2.2.2.2.2.2.1 r1.2.2.2.2.2.2.2.2.1 r1.2.2.2.2.2.2.2.2.2.1 r1.2.2.2.2.2.2.2.2.2.2 a78 aL1 aL2 aL3 aL4)) [.ref (b + 0)] [1, 2, 3, 4, 5, 6, 7, 8, 10, 11, 12, 13, 15, 16, 17, 18, 19] 10 69 dX11_sitting_31 mlX11_346 hw rfl rfl rfl rfl (mX7_hold_L (hw.pick2 [1, 2, 3, 4, 5, 6, 7, 8, 10, 11, 12, 13, 15, 16, 17, 18, 19] rfl (by decide)) hc1) rfl rfl rfl rfl ⟨Nat.le_of_ble_eq_true rfl, Nat.le_of_ble_eq_true rfl⟩ rfl rfl (Nat.le_of_ble_eq_true rfl) ⟨Nat.le_refl _, Nat.le_refl _⟩ rfl ?_
      obtain ⟨r2, hc2, hf⟩ := e_bind hf
      refine E.callVDs (es' := (wW76 G b q nh nt ne ns v0_faultPlace v0_quashedRows r2.2.1 v1_beasts v1_meals v1_seats v1_laws v1_inForce a2 a3 a4 a5 r1.2.1 r1.2.2.1 r1.2.2.2.1 r1.2.2.2.2.1 v42_beasts v42_seats v42_seated v42_quota r2.2.2 v42_surveyed v42_steadyBench v42_steadyWays v42_steadySwing r1.2.2.2.2.2.1 r1.2.2.2.2.2.2.1 r1.2.2.2.2.2.2.2.1 r1.2.2.2.2.2.2.2.2.1 r1.2.2.2.2.2.2.2.2.2.1 r1.2.2.2.2.2.2.2.2.2.2 a78 aL1 aL2 aL3 aL4)) [] [0, 9] 0 0 dX11_sitting_34 mlX11_108 hw rfl rfl rfl rfl (mX11_accept (hw.pick2 [0, 9] rfl (by decide)) hc2) rfl rfl rfl rfl ⟨Nat.le_of_ble_eq_true rfl, Nat.le_of_ble_eq_true rfl⟩ rfl rfl (Nat.le_of_ble_eq_true rfl) ⟨Nat.le_refl _, Nat.le_refl _⟩ rfl ?_
      cases hf
      exact E.iret dX11_sitting_37 (Nat.le_refl _) (Nat.le_refl _) (pD_rf _ _ _)
    · have hf := e_iff hf h
      refine E.locals [0] rfl ?_
      exact tX11_sitting_L_L11 hw hf
set_option maxRecDepth 100000 in
theorem mX11_sitting_L {G : GT} {b : Nat} {q nh nt ne ns : Nat} {c0 : Hp} {n : Nat} (hw : e_wf (kW76 q) n) {v0_faultPlace : Int32} {v0_quashedRows : Int32} {v1_meals : Int32} {v42_beasts : Int32} {v42_seats : Int32} {v42_seated : Int32} {v42_quota : Int32} {v42_surveyed : Int32} {v42_steadyBench : Int32} {v42_steadyWays : Int32} {v42_steadySwing : Int64} {Fu : Nat} {v0_lastRefusal : Int32} {v1_beasts : Int32} {v1_seats : Int32} {v1_laws : Int32} {v1_inForce : Int32} {a2 : Nat → Int32} {a3 : Nat → Int32} {a4 : Nat → Int32} {a5 : Nat → Option Nat} {v37_height : Int32} {v37_answer : Int64} {a38 : Nat → Int32} {a39 : Nat → Int64} {v42_known : Int32} {v69_held : Int32} {v69_lastMinute : Int32} {v69_drawn : Int32} {a70 : Nat → Int32} {a71 : Nat → Int32} {a72 : Nat → Int32} {a78 : Nat → Int32} {aL1 : Nat → Int32} {aL2 : Nat → Int32} {aL3 : Nat → Int32} {aL4 : Nat → Int32} {x1 : Int32} {R : Int32 × Int32 × Int32 × Int64 × (Nat → Int32) × (Nat → Int64) × Int32 × Int32 × Int32 × Int32 × (Nat → Int32) × (Nat → Int32) × (Nat → Int32) × (Nat → Int32)} (hf : fX11_sitting_L Fu nh nt ne ns b q v0_lastRefusal v1_beasts v1_seats v1_laws v1_inForce a2 a3 a4 a5 v37_height v37_answer a38 a39 v42_known v69_held v69_lastMinute v69_drawn a70 a71 a72 a78 aL1 aL2 aL3 aL4 x1 = some R) : e_C G b yX11_sitting cX11_sitting 2 (some .int) 7 0 0 [.ref (b + 0), .int x1] (e_ov (kW76 q) (wW76 G b q nh nt ne ns v0_faultPlace v0_quashedRows v0_lastRefusal v1_beasts v1_meals v1_seats v1_laws v1_inForce a2 a3 a4 a5 v37_height v37_answer a38 a39 v42_beasts v42_seats v42_seated v42_quota v42_known v42_surveyed v42_steadyBench v42_steadyWays v42_steadySwing v69_held v69_lastMinute v69_drawn a70 a71 a72 a78 aL1 aL2 aL3 aL4) c0) n (pD (some (.int R.1)) (e_ov (kW76 q) (wW76 G b q nh nt ne ns v0_faultPlace v0_quashedRows R.2.1 v1_beasts v1_meals v1_seats v1_laws v1_inForce a2 a3 a4 a5 R.2.2.1 R.2.2.2.1 R.2.2.2.2.1 R.2.2.2.2.2.1 v42_beasts v42_seats v42_seated v42_quota R.2.2.2.2.2.2.1 v42_surveyed v42_steadyBench v42_steadyWays v42_steadySwing R.2.2.2.2.2.2.2.1 R.2.2.2.2.2.2.2.2.1 R.2.2.2.2.2.2.2.2.2.1 R.2.2.2.2.2.2.2.2.2.2.1 R.2.2.2.2.2.2.2.2.2.2.2.1 R.2.2.2.2.2.2.2.2.2.2.2.2.1 R.2.2.2.2.2.2.2.2.2.2.2.2.2 aL1 aL2 aL3 aL4) c0) n) := e_C.of (by decide) (Nat.le_of_ble_eq_true rfl) (tX11_sitting_L hw hf)
abbrev kW77 : List Nat := [0, 69, 70, 71]
abbrev wW77 (G : GT) (b  : Nat) (v0_faultPlace : Int32) (v0_quashedRows : Int32) (v0_lastRefusal : Int32) (v69_held : Int32) (v69_lastMinute : Int32) (v69_drawn : Int32) (a70 : Nat → Int32) (a71 : Nat → Int32) : List va_E := [.inr (11, [.ref (b + 1), .ref (b + 10), .ref (b + 29), .ref (b + 30), .ref (b + 32), .ref (b + 37), .ref (b + 40), .ref (b + 42), .ref (b + 69), .ref (b + 73), .ref (b + 74), .ref (b + 76), .ref (b + 78), .int v0_faultPlace, .int v0_quashedRows, .int v0_lastRefusal]), .inr (7, [.ref (b + 70), .ref (b + 71), .ref (b + 72), .int v69_held, .int v69_lastMinute, .int v69_drawn]), aI G 8 a70, aI G 8 a71]
def fX11_lay (v69_held : Int32) (v69_lastMinute : Int32) (a70 : Nat → Int32) (a71 : Nat → Int32) (x1 : Int32) (x2 : Int32) : Option (Int32) := (fX11_isEither x2).bind fun r1 => (if (r1 : Int32) = (0 : Int32) then (some ((-1 : Int32))) else (if (v69_held : Int32) = (0 : Int32) then (some ((-1 : Int32))) else (if (x1 : Int32) = ((-1 : Int32) : Int32) then (some (v69_lastMinute)) else (if (x1 : Int32) < (0 : Int32) then (some ((-1 : Int32))) else (if (8 : Int32) ≤ (x1 : Int32) then (some ((-1 : Int32))) else (gd x1 8 (if ((a70 (x1 : Int32).toNatClampNeg) : Int32) = ((-1 : Int32) : Int32) then (some ((-1 : Int32))) else (if (x2 : Int32) = (0 : Int32) then (gd x1 8 (some ((a70 (x1 : Int32).toNatClampNeg)))) else (gd x1 8 (some ((a71 (x1 : Int32).toNatClampNeg))))))))))))
set_option maxHeartbeats 4000000 in
set_option maxRecDepth 100000 in
theorem tX11_lay {G : GT} {b : Nat} {c0 : Hp} {n : Nat} (hw : e_wf (kW77) n) {v0_faultPlace : Int32} {v0_quashedRows : Int32} {v0_lastRefusal : Int32} {v69_drawn : Int32} {v69_held : Int32} {v69_lastMinute : Int32} {a70 : Nat → Int32} {a71 : Nat → Int32} {x1 : Int32} {x2 : Int32} {R : Int32} (hf : fX11_lay v69_held v69_lastMinute a70 a71 x1 x2 = some R) : E G b yX11_lay cX11_lay 3 (some .int) (e_rm 1 0 0) e_X0 (e_Z G b (pD (some (.int R)) (e_ov (kW77) (wW77 G b v0_faultPlace v0_quashedRows v0_lastRefusal v69_held v69_lastMinute v69_drawn a70 a71) c0) n) 0 0) 0 [(0, .ref (b + 0)), (1, .int x1), (2, .int x2)] [] (e_ov (kW77) (wW77 G b v0_faultPlace v0_quashedRows v0_lastRefusal v69_held v69_lastMinute v69_drawn a70 a71) c0) n 0 0 := by
  unfold fX11_lay at hf
  refine E.iload_n 2 dX11_lay_0 rfl ?_
  obtain ⟨r1, hc1, hf⟩ := e_bind hf
  refine E.callSD [] dX11_lay_1 mlX11_274 (mX11_isEither hc1) ⟨Nat.le_of_ble_eq_true rfl, Nat.le_of_ble_eq_true rfl⟩ rfl rfl (Nat.le_of_ble_eq_true rfl) ⟨Nat.le_refl _, Nat.le_refl _⟩ rfl ?_
  refine E.if_eq dX11_lay_4 (fun h => ?_) (fun h => ?_)
  · have hf := e_ift hf h
    refine E.iconst (v := -1) dX11_lay_17 (by decide) ?_
    cases hf
    exact E.iret dX11_lay_18 (Nat.le_refl _) (Nat.le_refl _) (pD_rf _ _ _)
  · have hf := e_iff hf h
    refine E.aload_n 0 dX11_lay_7 rfl ?_
    refine E.get hw 0 0 dX11_lay_8 flX11_64 rfl rfl rfl rfl ?_
    refine E.getN hw 1 69 dX11_lay_11 fnX11_350 rfl rfl rfl rfl ?_
    refine E.if_ne dX11_lay_14 (fun h => ?_) (fun h => ?_)
    · have hf := e_iff hf h
      refine E.iload_n 1 dX11_lay_19 rfl ?_
      refine E.iconst (v := -1) dX11_lay_20 (by decide) ?_
      refine E.icmp_ne dX11_lay_21 (fun h => ?_) (fun h => ?_)
      · have hf := e_iff hf h
        refine E.iload_n 1 dX11_lay_32 rfl ?_
        refine E.if_lt dX11_lay_33 (fun h => ?_) (fun h => ?_)
        · have hf := e_ift hf h
          refine E.iconst (v := -1) dX11_lay_55 (by decide) ?_
          cases hf
          exact E.iret dX11_lay_56 (Nat.le_refl _) (Nat.le_refl _) (pD_rf _ _ _)
        · have hf := e_iff hf h
          refine E.iload_n 1 dX11_lay_36 rfl ?_
          refine E.bipush (v := 8) dX11_lay_37 (by decide) ?_
          refine E.icmp_ge dX11_lay_39 (fun h => ?_) (fun h => ?_)
          · have hf := e_ift hf h
            refine E.iconst (v := -1) dX11_lay_55 (by decide) ?_
            cases hf
            exact E.iret dX11_lay_56 (Nat.le_refl _) (Nat.le_refl _) (pD_rf _ _ _)
          · have hf := e_iff hf h
            refine E.aload_n 0 dX11_lay_42 rfl ?_
            refine E.get hw 0 0 dX11_lay_43 flX11_64 rfl rfl rfl rfl ?_
            refine E.getN hw 1 69 dX11_lay_46 fnX11_357 rfl rfl rfl rfl ?_
            refine E.iload_n 1 dX11_lay_49 rfl ?_
            obtain ⟨g2, hf⟩ := gd_some hf
            refine E.iald hw 2 70 dX11_lay_50 rfl rfl g2 ?_
            refine E.iconst (v := -1) dX11_lay_51 (by decide) ?_
            refine E.icmp_ne dX11_lay_52 (fun h => ?_) (fun h => ?_)
            · have hf := e_iff hf h
              refine E.iload_n 2 dX11_lay_57 rfl ?_
              refine E.if_ne dX11_lay_58 (fun h => ?_) (fun h => ?_)
              · have hf := e_iff hf h
                refine E.aload_n 0 dX11_lay_73 rfl ?_
                refine E.get hw 0 0 dX11_lay_74 flX11_64 rfl rfl rfl rfl ?_
                refine E.getN hw 1 69 dX11_lay_77 fnX11_360 rfl rfl rfl rfl ?_
                refine E.iload_n 1 dX11_lay_80 rfl ?_
                obtain ⟨g3, hf⟩ := gd_some hf
                refine E.iald hw 3 71 dX11_lay_81 rfl rfl g3 ?_
                cases hf
                exact E.iret dX11_lay_82 (Nat.le_refl _) (Nat.le_refl _) (pD_rf _ _ _)
              · have hf := e_ift hf h
                refine E.aload_n 0 dX11_lay_61 rfl ?_
                refine E.get hw 0 0 dX11_lay_62 flX11_64 rfl rfl rfl rfl ?_
                refine E.getN hw 1 69 dX11_lay_65 fnX11_357 rfl rfl rfl rfl ?_
                refine E.iload_n 1 dX11_lay_68 rfl ?_
                obtain ⟨g4, hf⟩ := gd_some hf
                refine E.iald hw 2 70 dX11_lay_69 rfl rfl g4 ?_
                refine E.goto dX11_lay_70 ?_
                cases hf
                exact E.iret dX11_lay_82 (Nat.le_refl _) (Nat.le_refl _) (pD_rf _ _ _)
            · have hf := e_ift hf h
              refine E.iconst (v := -1) dX11_lay_55 (by decide) ?_
              cases hf
              exact E.iret dX11_lay_56 (Nat.le_refl _) (Nat.le_refl _) (pD_rf _ _ _)
      · have hf := e_ift hf h
        refine E.aload_n 0 dX11_lay_24 rfl ?_
        refine E.get hw 0 0 dX11_lay_25 flX11_64 rfl rfl rfl rfl ?_
        refine E.getN hw 1 69 dX11_lay_28 fnX11_354 rfl rfl rfl rfl ?_
        cases hf
        exact E.iret dX11_lay_31 (Nat.le_refl _) (Nat.le_refl _) (pD_rf _ _ _)
    · have hf := e_ift hf h
      refine E.iconst (v := -1) dX11_lay_17 (by decide) ?_
      cases hf
      exact E.iret dX11_lay_18 (Nat.le_refl _) (Nat.le_refl _) (pD_rf _ _ _)
set_option maxRecDepth 100000 in
theorem mX11_lay {G : GT} {b : Nat} {c0 : Hp} {n : Nat} (hw : e_wf (kW77) n) {v0_faultPlace : Int32} {v0_quashedRows : Int32} {v0_lastRefusal : Int32} {v69_drawn : Int32} {v69_held : Int32} {v69_lastMinute : Int32} {a70 : Nat → Int32} {a71 : Nat → Int32} {x1 : Int32} {x2 : Int32} {R : Int32} (hf : fX11_lay v69_held v69_lastMinute a70 a71 x1 x2 = some R) : e_C G b yX11_lay cX11_lay 3 (some .int) 1 0 0 [.ref (b + 0), .int x1, .int x2] (e_ov (kW77) (wW77 G b v0_faultPlace v0_quashedRows v0_lastRefusal v69_held v69_lastMinute v69_drawn a70 a71) c0) n (pD (some (.int R)) (e_ov (kW77) (wW77 G b v0_faultPlace v0_quashedRows v0_lastRefusal v69_held v69_lastMinute v69_drawn a70 a71) c0) n) := e_C.of (by decide) (Nat.le_of_ble_eq_true rfl) (tX11_lay hw hf)
