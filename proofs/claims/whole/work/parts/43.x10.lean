def fX2_drop_L4 (Fu : Nat) : Nat → Int32 → (Nat → Int32) → (Nat → Int32) → (Nat → Int32) → Int32 → Option (Int32 × (Nat → Int32) × (Nat → Int32) × (Nat → Int32))
  | 0, _, _, _, _, _ => none
  | k + 1, vT0_cases, aT1, aT2, aT3, x2 => if (vT0_cases : Int32) ≤ (x2 : Int32) then (some ((vT0_cases - 1), aT1, aT2, aT3)) else (gd x2 20 (gd (x2 - 1) 20 (gd x2 20 (gd (x2 - 1) 20 (gd x2 20 (gd (x2 - 1) 20 ((fX2_drop_L4 Fu k) vT0_cases (va_up aT1 ((x2 - 1) : Int32).toNatClampNeg (aT1 (x2 : Int32).toNatClampNeg)) (va_up aT2 ((x2 - 1) : Int32).toNatClampNeg (aT2 (x2 : Int32).toNatClampNeg)) (va_up aT3 ((x2 - 1) : Int32).toNatClampNeg (aT3 (x2 : Int32).toNatClampNeg)) (x2 + 1))))))))
set_option maxHeartbeats 4000000 in
set_option maxRecDepth 100000 in
theorem tX2_drop_L4 {G : GT} {b : Nat} {t : Nat} {c0 : Hp} {n : Nat} (hw : e_wf (kW20 t) n)  {Fu : Nat} : ∀ (k : Nat) {vT0_cases : Int32} {aT1 : Nat → Int32} {aT2 : Nat → Int32} {aT3 : Nat → Int32} {x2 : Int32} {R : Int32 × (Nat → Int32) × (Nat → Int32) × (Nat → Int32)}, fX2_drop_L4 Fu k vT0_cases aT1 aT2 aT3 x2 = some R → E G b yX2_drop cX2_drop 3 none (e_rm 0 0 0) e_X0 (e_Z G b (pD none (e_ov (kW20 t) (wW20 G b t R.1 R.2.1 R.2.2.1 R.2.2.2) c0) n) 0 0) 4 [(0, .ref (b + t)), (2, .int x2)] [] (e_ov (kW20 t) (wW20 G b t vT0_cases aT1 aT2 aT3) c0) n 0 0 := by
  intro k
  induction k with
  | zero =>
    intro _ _ _ _ _ _ hf
    have hf : (none : Option (Int32 × (Nat → Int32) × (Nat → Int32) × (Nat → Int32))) = some _ := hf
    cases hf
  | succ k ih =>
    intro vT0_cases aT1 aT2 aT3 x2 R hf
    rw [fX2_drop_L4] at hf
    refine E.iload_n 1 dX2_drop_4 rfl ?_
    refine E.aload_n 0 dX2_drop_5 rfl ?_
    refine E.get hw 0 t dX2_drop_6 flX2_27 rfl rfl rfl rfl ?_
    refine E.icmp_ge dX2_drop_9 (fun h => ?_) (fun h => ?_)
    · have hf := e_ift hf h
      refine E.aload_n 0 dX2_drop_60 rfl ?_
      refine E.dup dX2_drop_61 rfl ?_
      refine E.get hw 0 t dX2_drop_62 flX2_27 rfl rfl rfl rfl ?_
      refine E.iconst (v := 1) dX2_drop_65 (by decide) ?_
      refine E.isub dX2_drop_66 ?_
      refine E.put (es' := (wW20 G b t (vT0_cases - 1) aT1 aT2 aT3)) hw 0 t dX2_drop_67 flX2_27 ftX2 rfl rfl rfl rfl rfl rfl (Nat.le_of_ble_eq_true rfl) rfl ?_
      cases hf
      exact E.vret dX2_drop_70 (Nat.le_refl _) (Nat.le_refl _) (pD_rf _ _ _)
    · have hf := e_iff hf h
      refine E.aload_n 0 dX2_drop_12 rfl ?_
      refine E.get hw 0 t dX2_drop_13 flX2_9 rfl rfl rfl rfl ?_
      refine E.iload_n 1 dX2_drop_16 rfl ?_
      refine E.iconst (v := 1) dX2_drop_17 (by decide) ?_
      refine E.isub dX2_drop_18 ?_
      refine E.aload_n 0 dX2_drop_19 rfl ?_
      refine E.get hw 0 t dX2_drop_20 flX2_9 rfl rfl rfl rfl ?_
      refine E.iload_n 1 dX2_drop_23 rfl ?_
      obtain ⟨g1, hf⟩ := gd_some hf
      refine E.iald hw 1 (t + 1) dX2_drop_24 rfl rfl g1 ?_
      obtain ⟨g2, hf⟩ := gd_some hf
      refine E.iast (es' := (wW20 G b t vT0_cases (va_up aT1 ((x2 - 1) : Int32).toNatClampNeg (aT1 (x2 : Int32).toNatClampNeg)) aT2 aT3)) hw 1 (t + 1) dX2_drop_25 rfl rfl g2 rfl ?_
      refine E.aload_n 0 dX2_drop_26 rfl ?_
      refine E.get hw 0 t dX2_drop_27 flX2_15 rfl rfl rfl rfl ?_
      refine E.iload_n 1 dX2_drop_30 rfl ?_
      refine E.iconst (v := 1) dX2_drop_31 (by decide) ?_
      refine E.isub dX2_drop_32 ?_
      refine E.aload_n 0 dX2_drop_33 rfl ?_
      refine E.get hw 0 t dX2_drop_34 flX2_15 rfl rfl rfl rfl ?_
      refine E.iload_n 1 dX2_drop_37 rfl ?_
      obtain ⟨g3, hf⟩ := gd_some hf
      refine E.iald hw 2 (t + 2) dX2_drop_38 rfl rfl g3 ?_
      obtain ⟨g4, hf⟩ := gd_some hf
      refine E.iast (es' := (wW20 G b t vT0_cases (va_up aT1 ((x2 - 1) : Int32).toNatClampNeg (aT1 (x2 : Int32).toNatClampNeg)) (va_up aT2 ((x2 - 1) : Int32).toNatClampNeg (aT2 (x2 : Int32).toNatClampNeg)) aT3)) hw 2 (t + 2) dX2_drop_39 rfl rfl g4 rfl ?_
      refine E.aload_n 0 dX2_drop_40 rfl ?_
      refine E.get hw 0 t dX2_drop_41 flX2_18 rfl rfl rfl rfl ?_
      refine E.iload_n 1 dX2_drop_44 rfl ?_
      refine E.iconst (v := 1) dX2_drop_45 (by decide) ?_
      refine E.isub dX2_drop_46 ?_
      refine E.aload_n 0 dX2_drop_47 rfl ?_
      refine E.get hw 0 t dX2_drop_48 flX2_18 rfl rfl rfl rfl ?_
      refine E.iload_n 1 dX2_drop_51 rfl ?_
      obtain ⟨g5, hf⟩ := gd_some hf
      refine E.iald hw 3 (t + 3) dX2_drop_52 rfl rfl g5 ?_
      obtain ⟨g6, hf⟩ := gd_some hf
      refine E.iast (es' := (wW20 G b t vT0_cases (va_up aT1 ((x2 - 1) : Int32).toNatClampNeg (aT1 (x2 : Int32).toNatClampNeg)) (va_up aT2 ((x2 - 1) : Int32).toNatClampNeg (aT2 (x2 : Int32).toNatClampNeg)) (va_up aT3 ((x2 - 1) : Int32).toNatClampNeg (aT3 (x2 : Int32).toNatClampNeg)))) hw 3 (t + 3) dX2_drop_53 rfl rfl g6 rfl ?_
      refine E.iinc (q := 1) (v := (x2 + 1)) (lv' := [(2, .int (x2 + 1)), (0, .ref (b + t))]) dX2_drop_54 rfl rfl (by decide) rfl ?_
      refine E.goto dX2_drop_57 ?_
      refine E.locals [1, 0] rfl ?_
      exact ih hf
def fX2_drop (Fu : Nat) (vT0_cases : Int32) (aT1 : Nat → Int32) (aT2 : Nat → Int32) (aT3 : Nat → Int32) (x1 : Int32) : Option (Int32 × (Nat → Int32) × (Nat → Int32) × (Nat → Int32)) := fX2_drop_L4 Fu Fu vT0_cases aT1 aT2 aT3 (x1 + 1)
set_option maxHeartbeats 4000000 in
set_option maxRecDepth 100000 in
theorem tX2_drop {G : GT} {b : Nat} {t : Nat} {c0 : Hp} {n : Nat} (hw : e_wf (kW20 t) n)  {Fu : Nat} {vT0_cases : Int32} {aT1 : Nat → Int32} {aT2 : Nat → Int32} {aT3 : Nat → Int32} {x1 : Int32} {R : Int32 × (Nat → Int32) × (Nat → Int32) × (Nat → Int32)} (hf : fX2_drop Fu vT0_cases aT1 aT2 aT3 x1 = some R) : E G b yX2_drop cX2_drop 3 none (e_rm 0 0 0) e_X0 (e_Z G b (pD none (e_ov (kW20 t) (wW20 G b t R.1 R.2.1 R.2.2.1 R.2.2.2) c0) n) 0 0) 0 [(0, .ref (b + t)), (1, .int x1)] [] (e_ov (kW20 t) (wW20 G b t vT0_cases aT1 aT2 aT3) c0) n 0 0 := by
  unfold fX2_drop at hf
  refine E.iload_n 1 dX2_drop_0 rfl ?_
  refine E.iconst (v := 1) dX2_drop_1 (by decide) ?_
  refine E.iadd dX2_drop_2 ?_
  refine E.istore_n (lv' := [(2, .int (x1 + 1)), (0, .ref (b + t)), (1, .int x1)]) dX2_drop_3 (by decide) rfl ?_
  refine E.locals [1, 0] rfl ?_
  exact tX2_drop_L4 hw _ hf
set_option maxRecDepth 100000 in
theorem mX2_drop {G : GT} {b : Nat} {t : Nat} {c0 : Hp} {n : Nat} (hw : e_wf (kW20 t) n)  {Fu : Nat} {vT0_cases : Int32} {aT1 : Nat → Int32} {aT2 : Nat → Int32} {aT3 : Nat → Int32} {x1 : Int32} {R : Int32 × (Nat → Int32) × (Nat → Int32) × (Nat → Int32)} (hf : fX2_drop Fu vT0_cases aT1 aT2 aT3 x1 = some R) : e_C G b yX2_drop cX2_drop 3 none 0 0 0 [.ref (b + t), .int x1] (e_ov (kW20 t) (wW20 G b t vT0_cases aT1 aT2 aT3) c0) n (pD none (e_ov (kW20 t) (wW20 G b t R.1 R.2.1 R.2.2.1 R.2.2.2) c0) n) := e_C.of (by decide) (Nat.le_of_ble_eq_true rfl) (tX2_drop hw hf)
def fX11_annul_L18 (Fu : Nat) (v0_lastRefusal : Int32) (v6_cases : Int32) (a7 : Nat → Int32) (a8 : Nat → Int32) (a9 : Nat → Int32) (v42_known : Int32) (a78 : Nat → Int32) : Option (Int32 × Int32 × Int32 × (Nat → Int32) × (Nat → Int32) × (Nat → Int32) × Int32 × (Nat → Int32)) := (fX11_refuse v0_lastRefusal a78 (-2 : Int32)).bind fun r3 => (some (r3.1, r3.2.1, v6_cases, a7, a8, a9, v42_known, r3.2.2))
set_option maxHeartbeats 4000000 in
set_option maxRecDepth 100000 in
theorem tX11_annul_L18 {G : GT} {b : Nat} {c0 : Hp} {n : Nat} (hw : e_wf (kW66) n) {v0_faultPlace : Int32} {v0_quashedRows : Int32} {v1_beasts : Int32} {v1_meals : Int32} {v1_seats : Int32} {v1_laws : Int32} {v1_inForce : Int32} {v42_beasts : Int32} {v42_seats : Int32} {v42_seated : Int32} {v42_quota : Int32} {v42_surveyed : Int32} {v42_steadyBench : Int32} {v42_steadyWays : Int32} {v42_steadySwing : Int64} {Fu : Nat} {v0_lastRefusal : Int32} {v6_cases : Int32} {a7 : Nat → Int32} {a8 : Nat → Int32} {a9 : Nat → Int32} {v42_known : Int32} {a78 : Nat → Int32} {R : Int32 × Int32 × Int32 × (Nat → Int32) × (Nat → Int32) × (Nat → Int32) × Int32 × (Nat → Int32)} (hf : fX11_annul_L18 Fu v0_lastRefusal v6_cases a7 a8 a9 v42_known a78 = some R) : E G b yX11_annul cX11_annul 2 (some .int) (e_rm 2 0 0) e_X0 (e_Z G b (pD (some (.int R.1)) (e_ov (kW66) (wW66 G b v0_faultPlace v0_quashedRows R.2.1 v1_beasts v1_meals v1_seats v1_laws v1_inForce R.2.2.1 R.2.2.2.1 R.2.2.2.2.1 R.2.2.2.2.2.1 v42_beasts v42_seats v42_seated v42_quota R.2.2.2.2.2.2.1 v42_surveyed v42_steadyBench v42_steadyWays v42_steadySwing R.2.2.2.2.2.2.2) c0) n) 0 0) 18 [(0, .ref (b + 0))] [] (e_ov (kW66) (wW66 G b v0_faultPlace v0_quashedRows v0_lastRefusal v1_beasts v1_meals v1_seats v1_laws v1_inForce v6_cases a7 a8 a9 v42_beasts v42_seats v42_seated v42_quota v42_known v42_surveyed v42_steadyBench v42_steadyWays v42_steadySwing a78) c0) n 0 0 := by
  unfold fX11_annul_L18 at hf
  refine E.aload_n 0 dX11_annul_18 rfl ?_
  refine E.bipush (v := -2) dX11_annul_19 (by decide) ?_
  obtain ⟨r3, hc3, hf⟩ := e_bind hf
  refine E.callVDs (es' := (wW66 G b v0_faultPlace v0_quashedRows r3.2.1 v1_beasts v1_meals v1_seats v1_laws v1_inForce v6_cases a7 a8 a9 v42_beasts v42_seats v42_seated v42_quota v42_known v42_surveyed v42_steadyBench v42_steadyWays v42_steadySwing r3.2.2)) [] [0, 7] 0 0 dX11_annul_21 mlX11_97 hw rfl rfl rfl rfl (mX11_refuse (hw.pick2 [0, 7] rfl (by decide)) hc3) rfl rfl rfl rfl ⟨Nat.le_of_ble_eq_true rfl, Nat.le_of_ble_eq_true rfl⟩ rfl rfl (Nat.le_of_ble_eq_true rfl) ⟨Nat.le_refl _, Nat.le_refl _⟩ rfl ?_
  cases hf
  exact E.iret dX11_annul_24 (Nat.le_refl _) (Nat.le_refl _) (pD_rf _ _ _)
def fX11_annul (Fu : Nat) (v0_lastRefusal : Int32) (v6_cases : Int32) (a7 : Nat → Int32) (a8 : Nat → Int32) (a9 : Nat → Int32) (v42_known : Int32) (a78 : Nat → Int32) (x1 : Int32) : Option (Int32 × Int32 × Int32 × (Nat → Int32) × (Nat → Int32) × (Nat → Int32) × Int32 × (Nat → Int32)) := if (x1 : Int32) < (0 : Int32) then (fX11_annul_L18 Fu v0_lastRefusal v6_cases a7 a8 a9 v42_known a78) else (if (x1 : Int32) < (v6_cases : Int32) then ((fX2_drop Fu v6_cases a7 a8 a9 x1).bind fun r1 => ((fX11_accept v0_lastRefusal v42_known r1.1).bind fun r2 => (some (r2.1, r2.2.1, r1.1, r1.2.1, r1.2.2.1, r1.2.2.2, r2.2.2, a78)))) else (fX11_annul_L18 Fu v0_lastRefusal v6_cases a7 a8 a9 v42_known a78))
set_option maxHeartbeats 4000000 in
set_option maxRecDepth 100000 in
theorem tX11_annul {G : GT} {b : Nat} {c0 : Hp} {n : Nat} (hw : e_wf (kW66) n) {v0_faultPlace : Int32} {v0_quashedRows : Int32} {v1_beasts : Int32} {v1_meals : Int32} {v1_seats : Int32} {v1_laws : Int32} {v1_inForce : Int32} {v42_beasts : Int32} {v42_seats : Int32} {v42_seated : Int32} {v42_quota : Int32} {v42_surveyed : Int32} {v42_steadyBench : Int32} {v42_steadyWays : Int32} {v42_steadySwing : Int64} {Fu : Nat} {v0_lastRefusal : Int32} {v6_cases : Int32} {a7 : Nat → Int32} {a8 : Nat → Int32} {a9 : Nat → Int32} {v42_known : Int32} {a78 : Nat → Int32} {x1 : Int32} {R : Int32 × Int32 × Int32 × (Nat → Int32) × (Nat → Int32) × (Nat → Int32) × Int32 × (Nat → Int32)} (hf : fX11_annul Fu v0_lastRefusal v6_cases a7 a8 a9 v42_known a78 x1 = some R) : E G b yX11_annul cX11_annul 2 (some .int) (e_rm 2 0 0) e_X0 (e_Z G b (pD (some (.int R.1)) (e_ov (kW66) (wW66 G b v0_faultPlace v0_quashedRows R.2.1 v1_beasts v1_meals v1_seats v1_laws v1_inForce R.2.2.1 R.2.2.2.1 R.2.2.2.2.1 R.2.2.2.2.2.1 v42_beasts v42_seats v42_seated v42_quota R.2.2.2.2.2.2.1 v42_surveyed v42_steadyBench v42_steadyWays v42_steadySwing R.2.2.2.2.2.2.2) c0) n) 0 0) 0 [(0, .ref (b + 0)), (1, .int x1)] [] (e_ov (kW66) (wW66 G b v0_faultPlace v0_quashedRows v0_lastRefusal v1_beasts v1_meals v1_seats v1_laws v1_inForce v6_cases a7 a8 a9 v42_beasts v42_seats v42_seated v42_quota v42_known v42_surveyed v42_steadyBench v42_steadyWays v42_steadySwing a78) c0) n 0 0 := by
  unfold fX11_annul at hf
  refine E.iload_n 1 dX11_annul_0 rfl ?_
  refine E.if_lt dX11_annul_1 (fun h => ?_) (fun h => ?_)
  · have hf := e_ift hf h
    refine E.locals [0] rfl ?_
    exact tX11_annul_L18 hw hf
  · have hf := e_iff hf h
    refine E.iload_n 1 dX11_annul_4 rfl ?_
    refine E.aload_n 0 dX11_annul_5 rfl ?_
    refine E.get hw 0 0 dX11_annul_6 flX11_10 rfl rfl rfl rfl ?_
    refine E.getN hw 1 1 dX11_annul_9 fnX11_169 rfl rfl rfl rfl ?_
    refine E.getN hw 2 6 dX11_annul_12 fnX11_173 rfl rfl rfl rfl ?_
    refine E.icmp_lt dX11_annul_15 (fun h => ?_) (fun h => ?_)
    · have hf := e_ift hf h
      refine E.aload_n 0 dX11_annul_25 rfl ?_
      refine E.get hw 0 0 dX11_annul_26 flX11_10 rfl rfl rfl rfl ?_
      refine E.getN hw 1 1 dX11_annul_29 fnX11_169 rfl rfl rfl rfl ?_
      refine E.iload_n 1 dX11_annul_32 rfl ?_
      obtain ⟨r1, hc1, hf⟩ := e_bind hf
      refine E.callVDs (es' := (wW66 G b v0_faultPlace v0_quashedRows v0_lastRefusal v1_beasts v1_meals v1_seats v1_laws v1_inForce r1.1 r1.2.1 r1.2.2.1 r1.2.2.2 v42_beasts v42_seats v42_seated v42_quota v42_known v42_surveyed v42_steadyBench v42_steadyWays v42_steadySwing a78)) [] [2, 3, 4, 5] 2 6 dX11_annul_33 mlX11_314 hw rfl rfl rfl rfl (mX2_drop (hw.pick2 [2, 3, 4, 5] rfl (by decide)) hc1) rfl rfl rfl rfl ⟨Nat.le_of_ble_eq_true rfl, Nat.le_of_ble_eq_true rfl⟩ rfl rfl (Nat.le_of_ble_eq_true rfl) ⟨Nat.le_refl _, Nat.le_refl _⟩ rfl ?_
      refine E.aload_n 0 dX11_annul_36 rfl ?_
      refine E.aload_n 0 dX11_annul_37 rfl ?_
      refine E.get hw 0 0 dX11_annul_38 flX11_10 rfl rfl rfl rfl ?_
      refine E.getN hw 1 1 dX11_annul_41 fnX11_169 rfl rfl rfl rfl ?_
      refine E.getN hw 2 6 dX11_annul_44 fnX11_173 rfl rfl rfl rfl ?_
      obtain ⟨r2, hc2, hf⟩ := e_bind hf
      refine E.callVDs (es' := (wW66 G b v0_faultPlace v0_quashedRows r2.2.1 v1_beasts v1_meals v1_seats v1_laws v1_inForce r1.1 r1.2.1 r1.2.2.1 r1.2.2.2 v42_beasts v42_seats v42_seated v42_quota r2.2.2 v42_surveyed v42_steadyBench v42_steadyWays v42_steadySwing a78)) [] [0, 6] 0 0 dX11_annul_47 mlX11_108 hw rfl rfl rfl rfl (mX11_accept (hw.pick2 [0, 6] rfl (by decide)) hc2) rfl rfl rfl rfl ⟨Nat.le_of_ble_eq_true rfl, Nat.le_of_ble_eq_true rfl⟩ rfl rfl (Nat.le_of_ble_eq_true rfl) ⟨Nat.le_refl _, Nat.le_refl _⟩ rfl ?_
      cases hf
      exact E.iret dX11_annul_50 (Nat.le_refl _) (Nat.le_refl _) (pD_rf _ _ _)
    · have hf := e_iff hf h
      refine E.locals [0] rfl ?_
      exact tX11_annul_L18 hw hf
set_option maxRecDepth 100000 in
theorem mX11_annul {G : GT} {b : Nat} {c0 : Hp} {n : Nat} (hw : e_wf (kW66) n) {v0_faultPlace : Int32} {v0_quashedRows : Int32} {v1_beasts : Int32} {v1_meals : Int32} {v1_seats : Int32} {v1_laws : Int32} {v1_inForce : Int32} {v42_beasts : Int32} {v42_seats : Int32} {v42_seated : Int32} {v42_quota : Int32} {v42_surveyed : Int32} {v42_steadyBench : Int32} {v42_steadyWays : Int32} {v42_steadySwing : Int64} {Fu : Nat} {v0_lastRefusal : Int32} {v6_cases : Int32} {a7 : Nat → Int32} {a8 : Nat → Int32} {a9 : Nat → Int32} {v42_known : Int32} {a78 : Nat → Int32} {x1 : Int32} {R : Int32 × Int32 × Int32 × (Nat → Int32) × (Nat → Int32) × (Nat → Int32) × Int32 × (Nat → Int32)} (hf : fX11_annul Fu v0_lastRefusal v6_cases a7 a8 a9 v42_known a78 x1 = some R) : e_C G b yX11_annul cX11_annul 2 (some .int) 2 0 0 [.ref (b + 0), .int x1] (e_ov (kW66) (wW66 G b v0_faultPlace v0_quashedRows v0_lastRefusal v1_beasts v1_meals v1_seats v1_laws v1_inForce v6_cases a7 a8 a9 v42_beasts v42_seats v42_seated v42_quota v42_known v42_surveyed v42_steadyBench v42_steadyWays v42_steadySwing a78) c0) n (pD (some (.int R.1)) (e_ov (kW66) (wW66 G b v0_faultPlace v0_quashedRows R.2.1 v1_beasts v1_meals v1_seats v1_laws v1_inForce R.2.2.1 R.2.2.2.1 R.2.2.2.2.1 R.2.2.2.2.2.1 v42_beasts v42_seats v42_seated v42_quota R.2.2.2.2.2.2.1 v42_surveyed v42_steadyBench v42_steadyWays v42_steadySwing R.2.2.2.2.2.2.2) c0) n) := e_C.of (by decide) (Nat.le_of_ble_eq_true rfl) (tX11_annul hw hf)
def fX2_votedRight (aT1 : Nat → Int32) (aT2 : Nat → Int32) (aT3 : Nat → Int32) (x1 : Int32) : Option (Int32) := gd x1 20 (if ((aT1 (x1 : Int32).toNatClampNeg) : Int32) = (0 : Int32) then (gd x1 20 (some ((aT3 (x1 : Int32).toNatClampNeg)))) else (gd x1 20 (gd x1 20 (some (((aT2 (x1 : Int32).toNatClampNeg) &&& ((aT3 (x1 : Int32).toNatClampNeg) ^^^ (-1 : Int32))))))))
set_option maxHeartbeats 4000000 in
set_option maxRecDepth 100000 in
theorem tX2_votedRight {G : GT} {b : Nat} {t : Nat} {c0 : Hp} {n : Nat} (hw : e_wf (kW20 t) n) {vT0_cases : Int32} {aT1 : Nat → Int32} {aT2 : Nat → Int32} {aT3 : Nat → Int32} {x1 : Int32} {R : Int32} (hf : fX2_votedRight aT1 aT2 aT3 x1 = some R) : E G b yX2_votedRight cX2_votedRight 2 (some .int) (e_rm 0 0 0) e_X0 (e_Z G b (pD (some (.int R)) (e_ov (kW20 t) (wW20 G b t vT0_cases aT1 aT2 aT3) c0) n) 0 0) 0 [(0, .ref (b + t)), (1, .int x1)] [] (e_ov (kW20 t) (wW20 G b t vT0_cases aT1 aT2 aT3) c0) n 0 0 := by
  unfold fX2_votedRight at hf
  refine E.aload_n 0 dX2_votedRight_0 rfl ?_
  refine E.get hw 0 t dX2_votedRight_1 flX2_9 rfl rfl rfl rfl ?_
  refine E.iload_n 1 dX2_votedRight_4 rfl ?_
  obtain ⟨g1, hf⟩ := gd_some hf
  refine E.iald hw 1 (t + 1) dX2_votedRight_5 rfl rfl g1 ?_
  refine E.if_ne dX2_votedRight_6 (fun h => ?_) (fun h => ?_)
  · have hf := e_iff hf h
    refine E.aload_n 0 dX2_votedRight_18 rfl ?_
    refine E.get hw 0 t dX2_votedRight_19 flX2_15 rfl rfl rfl rfl ?_
    refine E.iload_n 1 dX2_votedRight_22 rfl ?_
    obtain ⟨g2, hf⟩ := gd_some hf
    refine E.iald hw 2 (t + 2) dX2_votedRight_23 rfl rfl g2 ?_
    refine E.aload_n 0 dX2_votedRight_24 rfl ?_
    refine E.get hw 0 t dX2_votedRight_25 flX2_18 rfl rfl rfl rfl ?_
    refine E.iload_n 1 dX2_votedRight_28 rfl ?_
    obtain ⟨g3, hf⟩ := gd_some hf
    refine E.iald hw 3 (t + 3) dX2_votedRight_29 rfl rfl g3 ?_
    refine E.iconst (v := -1) dX2_votedRight_30 (by decide) ?_
    refine E.ixor dX2_votedRight_31 ?_
    refine E.iand dX2_votedRight_32 ?_
    cases hf
    exact E.iret dX2_votedRight_33 (Nat.le_refl _) (Nat.le_refl _) (pD_rf _ _ _)
  · have hf := e_ift hf h
    refine E.aload_n 0 dX2_votedRight_9 rfl ?_
    refine E.get hw 0 t dX2_votedRight_10 flX2_18 rfl rfl rfl rfl ?_
    refine E.iload_n 1 dX2_votedRight_13 rfl ?_
    obtain ⟨g4, hf⟩ := gd_some hf
    refine E.iald hw 3 (t + 3) dX2_votedRight_14 rfl rfl g4 ?_
    refine E.goto dX2_votedRight_15 ?_
    cases hf
    exact E.iret dX2_votedRight_33 (Nat.le_refl _) (Nat.le_refl _) (pD_rf _ _ _)
set_option maxRecDepth 100000 in
theorem mX2_votedRight {G : GT} {b : Nat} {t : Nat} {c0 : Hp} {n : Nat} (hw : e_wf (kW20 t) n) {vT0_cases : Int32} {aT1 : Nat → Int32} {aT2 : Nat → Int32} {aT3 : Nat → Int32} {x1 : Int32} {R : Int32} (hf : fX2_votedRight aT1 aT2 aT3 x1 = some R) : e_C G b yX2_votedRight cX2_votedRight 2 (some .int) 0 0 0 [.ref (b + t), .int x1] (e_ov (kW20 t) (wW20 G b t vT0_cases aT1 aT2 aT3) c0) n (pD (some (.int R)) (e_ov (kW20 t) (wW20 G b t vT0_cases aT1 aT2 aT3) c0) n) := e_C.of (by decide) (Nat.le_of_ble_eq_true rfl) (tX2_votedRight hw hf)
def fX2_mostRight_L4 (Fu : Nat) : Nat → Int32 → (Nat → Int32) → (Nat → Int32) → (Nat → Int32) → Int32 → Int32 → Option (Int32)
  | 0, _, _, _, _, _, _ => none
  | k + 1, vT0_cases, aT1, aT2, aT3, x1, x2 => if (vT0_cases : Int32) ≤ (x2 : Int32) then (some (x1)) else ((fX2_votedRight aT1 aT2 aT3 x2).bind fun r1 => ((fJ6_bitCount_0f7a4 r1).bind fun r2 => (gd x2 20 ((fJ6_bitCount_0f7a4 (aT2 (x2 : Int32).toNatClampNeg)).bind fun r4 => (if ((2 * r2) : Int32) ≤ (r4 : Int32) then ((fX2_mostRight_L4 Fu k) vT0_cases aT1 aT2 aT3 x1 (x2 + 1)) else ((fX2_mostRight_L4 Fu k) vT0_cases aT1 aT2 aT3 (x1 + 1) (x2 + 1)))))))
set_option maxHeartbeats 4000000 in
set_option maxRecDepth 100000 in
theorem tX2_mostRight_L4 {G : GT} {b : Nat} {t : Nat} {c0 : Hp} {n : Nat} (hw : e_wf (kW20 t) n)  {Fu : Nat} : ∀ (k : Nat) {vT0_cases : Int32} {aT1 : Nat → Int32} {aT2 : Nat → Int32} {aT3 : Nat → Int32} {x1 : Int32} {x2 : Int32} {R : Int32}, fX2_mostRight_L4 Fu k vT0_cases aT1 aT2 aT3 x1 x2 = some R → E G b yX2_mostRight cX2_mostRight 3 (some .int) (e_rm 1 0 0) e_X0 (e_Z G b (pD (some (.int R)) (e_ov (kW20 t) (wW20 G b t vT0_cases aT1 aT2 aT3) c0) n) 0 0) 4 [(0, .ref (b + t)), (1, .int x1), (2, .int x2)] [] (e_ov (kW20 t) (wW20 G b t vT0_cases aT1 aT2 aT3) c0) n 0 0 := by
  intro k
  induction k with
  | zero =>
    intro _ _ _ _ _ _ _ hf
    have hf : (none : Option (Int32)) = some _ := hf
    cases hf
  | succ k ih =>
    intro vT0_cases aT1 aT2 aT3 x1 x2 R hf
    rw [fX2_mostRight_L4] at hf
    refine E.iload_n 2 dX2_mostRight_4 rfl ?_
    refine E.aload_n 0 dX2_mostRight_5 rfl ?_
    refine E.get hw 0 t dX2_mostRight_6 flX2_27 rfl rfl rfl rfl ?_
    refine E.icmp_ge dX2_mostRight_9 (fun h => ?_) (fun h => ?_)
    · have hf := e_ift hf h
      refine E.iload_n 1 dX2_mostRight_43 rfl ?_
      cases hf
      exact E.iret dX2_mostRight_44 (Nat.le_refl _) (Nat.le_refl _) (pD_rf _ _ _)
    · have hf := e_iff hf h
      refine E.iconst (v := 2) dX2_mostRight_12 (by decide) ?_
      refine E.aload_n 0 dX2_mostRight_13 rfl ?_
      refine E.iload_n 2 dX2_mostRight_14 rfl ?_
      obtain ⟨r1, hc1, hf⟩ := e_bind hf
      refine E.callVD [.int 2] dX2_mostRight_15 mlX2_31 ⟨hw.sub (p := 0) rfl, e_ov_get hw.1 (p := 0) rfl rfl⟩ rfl rfl (mX2_votedRight hw hc1) ⟨Nat.le_of_ble_eq_true rfl, Nat.le_of_ble_eq_true rfl⟩ rfl rfl (Nat.le_of_ble_eq_true rfl) ⟨Nat.le_refl _, Nat.le_refl _⟩ rfl ?_
      obtain ⟨r2, hc2, hf⟩ := e_bind hf
      refine E.callSD [.int 2] dX2_mostRight_18 mlX2_35 (mJ6_bitCount_0f7a4 hc2) ⟨Nat.le_of_ble_eq_true rfl, Nat.le_of_ble_eq_true rfl⟩ rfl rfl (Nat.le_of_ble_eq_true rfl) ⟨Nat.le_refl _, Nat.le_refl _⟩ rfl ?_
      refine E.imul dX2_mostRight_21 ?_
      refine E.aload_n 0 dX2_mostRight_22 rfl ?_
      refine E.get hw 0 t dX2_mostRight_23 flX2_15 rfl rfl rfl rfl ?_
      refine E.iload_n 2 dX2_mostRight_26 rfl ?_
      obtain ⟨g3, hf⟩ := gd_some hf
      refine E.iald hw 2 (t + 2) dX2_mostRight_27 rfl rfl g3 ?_
      obtain ⟨r4, hc4, hf⟩ := e_bind hf
      refine E.callSD [.int (2 * r2)] dX2_mostRight_28 mlX2_35 (mJ6_bitCount_0f7a4 hc4) ⟨Nat.le_of_ble_eq_true rfl, Nat.le_of_ble_eq_true rfl⟩ rfl rfl (Nat.le_of_ble_eq_true rfl) ⟨Nat.le_refl _, Nat.le_refl _⟩ rfl ?_
      refine E.icmp_le dX2_mostRight_31 (fun h => ?_) (fun h => ?_)
      · have hf := e_ift hf h
        refine E.iinc (q := 2) (v := (x2 + 1)) (lv' := [(2, .int (x2 + 1)), (0, .ref (b + t)), (1, .int x1)]) dX2_mostRight_37 rfl rfl (by decide) rfl ?_
        refine E.goto dX2_mostRight_40 ?_
        refine E.locals [1, 2, 0] rfl ?_
        exact ih hf
      · have hf := e_iff hf h
        refine E.iinc (q := 1) (v := (x1 + 1)) (lv' := [(1, .int (x1 + 1)), (0, .ref (b + t)), (2, .int x2)]) dX2_mostRight_34 rfl rfl (by decide) rfl ?_
        refine E.iinc (q := 2) (v := (x2 + 1)) (lv' := [(2, .int (x2 + 1)), (1, .int (x1 + 1)), (0, .ref (b + t))]) dX2_mostRight_37 rfl rfl (by decide) rfl ?_
        refine E.goto dX2_mostRight_40 ?_
        refine E.locals [2, 1, 0] rfl ?_
        exact ih hf
def fX2_mostRight (Fu : Nat) (vT0_cases : Int32) (aT1 : Nat → Int32) (aT2 : Nat → Int32) (aT3 : Nat → Int32) : Option (Int32) := fX2_mostRight_L4 Fu Fu vT0_cases aT1 aT2 aT3 0 0
set_option maxHeartbeats 4000000 in
set_option maxRecDepth 100000 in
theorem tX2_mostRight {G : GT} {b : Nat} {t : Nat} {c0 : Hp} {n : Nat} (hw : e_wf (kW20 t) n)  {Fu : Nat} {vT0_cases : Int32} {aT1 : Nat → Int32} {aT2 : Nat → Int32} {aT3 : Nat → Int32} {R : Int32} (hf : fX2_mostRight Fu vT0_cases aT1 aT2 aT3 = some R) : E G b yX2_mostRight cX2_mostRight 3 (some .int) (e_rm 1 0 0) e_X0 (e_Z G b (pD (some (.int R)) (e_ov (kW20 t) (wW20 G b t vT0_cases aT1 aT2 aT3) c0) n) 0 0) 0 [(0, .ref (b + t))] [] (e_ov (kW20 t) (wW20 G b t vT0_cases aT1 aT2 aT3) c0) n 0 0 := by
  unfold fX2_mostRight at hf
  refine E.iconst (v := 0) dX2_mostRight_0 (by decide) ?_
  refine E.istore_n (lv' := [(1, .int 0), (0, .ref (b + t))]) dX2_mostRight_1 (by decide) rfl ?_
  refine E.iconst (v := 0) dX2_mostRight_2 (by decide) ?_
  refine E.istore_n (lv' := [(2, .int 0), (1, .int 0), (0, .ref (b + t))]) dX2_mostRight_3 (by decide) rfl ?_
  refine E.locals [2, 1, 0] rfl ?_
  exact tX2_mostRight_L4 hw _ hf
set_option maxRecDepth 100000 in
theorem mX2_mostRight {G : GT} {b : Nat} {t : Nat} {c0 : Hp} {n : Nat} (hw : e_wf (kW20 t) n)  {Fu : Nat} {vT0_cases : Int32} {aT1 : Nat → Int32} {aT2 : Nat → Int32} {aT3 : Nat → Int32} {R : Int32} (hf : fX2_mostRight Fu vT0_cases aT1 aT2 aT3 = some R) : e_C G b yX2_mostRight cX2_mostRight 3 (some .int) 1 0 0 [.ref (b + t)] (e_ov (kW20 t) (wW20 G b t vT0_cases aT1 aT2 aT3) c0) n (pD (some (.int R)) (e_ov (kW20 t) (wW20 G b t vT0_cases aT1 aT2 aT3) c0) n) := e_C.of (by decide) (Nat.le_of_ble_eq_true rfl) (tX2_mostRight hw hf)
def fX2_times_L44 (Fu : Nat) (k6 : Int32 → (Nat → Int32) → (Nat → Int32) → (Nat → Int32) → Int32 → Int32 → Int32 → Int32 → Int32 → Option (Int32)) (vT0_cases : Int32) (aT1 : Nat → Int32) (aT2 : Nat → Int32) (aT3 : Nat → Int32) (x1 : Int32) (x2 : Int32) (x3 : Int32) (x4 : Int32) (x5 : Int32) (s0 : Int32) : Option (Int32) := if (x5 : Int32) = (x3 : Int32) then (k6 vT0_cases aT1 aT2 aT3 x1 x2 x3 x4 (x5 + 1)) else (if ((((s0 : Int32) >>> ((x1 : Int32) &&& 31)) &&& 1) : Int32) = (1 : Int32) then (k6 vT0_cases aT1 aT2 aT3 x1 x2 x3 (x4 + 1) (x5 + 1)) else (k6 vT0_cases aT1 aT2 aT3 x1 x2 x3 x4 (x5 + 1)))
set_option maxHeartbeats 4000000 in
set_option maxRecDepth 100000 in
theorem tX2_times_L44 {G : GT} {b : Nat} {t : Nat} {c0 : Hp} {n : Nat} (hw : e_wf (kW20 t) n)  {Fu : Nat} {k6 : Int32 → (Nat → Int32) → (Nat → Int32) → (Nat → Int32) → Int32 → Int32 → Int32 → Int32 → Int32 → Option (Int32)} (hk6 : ∀ {vT0_cases : Int32} {aT1 : Nat → Int32} {aT2 : Nat → Int32} {aT3 : Nat → Int32} {x1 : Int32} {x2 : Int32} {x3 : Int32} {x4 : Int32} {x5 : Int32} {R : Int32}, k6 vT0_cases aT1 aT2 aT3 x1 x2 x3 x4 x5 = some R → E G b yX2_times cX2_times 7 (some .int) (e_rm 1 0 0) e_X0 (e_Z G b (pD (some (.int R)) (e_ov (kW20 t) (wW20 G b t vT0_cases aT1 aT2 aT3) c0) n) 0 0) 6 [(0, .ref (b + t)), (1, .int x1), (2, .int x2), (3, .int x3), (4, .int x4), (5, .int x5)] [] (e_ov (kW20 t) (wW20 G b t vT0_cases aT1 aT2 aT3) c0) n 0 0) {vT0_cases : Int32} {aT1 : Nat → Int32} {aT2 : Nat → Int32} {aT3 : Nat → Int32} {x1 : Int32} {x2 : Int32} {x3 : Int32} {x4 : Int32} {x5 : Int32} {s0 : Int32} {R : Int32} (hf : fX2_times_L44 Fu k6 vT0_cases aT1 aT2 aT3 x1 x2 x3 x4 x5 s0 = some R) : E G b yX2_times cX2_times 7 (some .int) (e_rm 1 0 0) e_X0 (e_Z G b (pD (some (.int R)) (e_ov (kW20 t) (wW20 G b t vT0_cases aT1 aT2 aT3) c0) n) 0 0) 44 [(0, .ref (b + t)), (1, .int x1), (2, .int x2), (3, .int x3), (4, .int x4), (5, .int x5)] [.int s0] (e_ov (kW20 t) (wW20 G b t vT0_cases aT1 aT2 aT3) c0) n 0 0 := by
  unfold fX2_times_L44 at hf
  refine E.istore (lv' := [(6, .int s0), (0, .ref (b + t)), (1, .int x1), (2, .int x2), (3, .int x3), (4, .int x4), (5, .int x5)]) dX2_times_44 (by decide) rfl ?_
  refine E.iload 6 dX2_times_46 rfl ?_
  refine E.iload_n 4 dX2_times_48 rfl ?_
  refine E.icmp_eq dX2_times_49 (fun h => ?_) (fun h => ?_)
  · have hf := e_ift hf h
    refine E.iinc (q := 6) (v := (x5 + 1)) (lv' := [(5, .int (x5 + 1)), (6, .int s0), (0, .ref (b + t)), (1, .int x1), (2, .int x2), (3, .int x3), (4, .int x4)]) dX2_times_65 rfl rfl (by decide) rfl ?_
    refine E.goto dX2_times_68 ?_
    refine E.locals [2, 3, 4, 5, 6, 0] rfl ?_
    exact hk6 hf
  · have hf := e_iff hf h
    refine E.iload 0 dX2_times_52 rfl ?_
    refine E.iload_n 2 dX2_times_54 rfl ?_
    refine E.ishr dX2_times_55 ?_
    refine E.iconst (v := 1) dX2_times_56 (by decide) ?_
    refine E.iand dX2_times_57 ?_
    refine E.iconst (v := 1) dX2_times_58 (by decide) ?_
    refine E.icmp_ne dX2_times_59 (fun h => ?_) (fun h => ?_)
    · have hf := e_iff hf h
      refine E.iinc (q := 6) (v := (x5 + 1)) (lv' := [(5, .int (x5 + 1)), (6, .int s0), (0, .ref (b + t)), (1, .int x1), (2, .int x2), (3, .int x3), (4, .int x4)]) dX2_times_65 rfl rfl (by decide) rfl ?_
      refine E.goto dX2_times_68 ?_
      refine E.locals [2, 3, 4, 5, 6, 0] rfl ?_
      exact hk6 hf
    · have hf := e_ift hf h
      refine E.iinc (q := 5) (v := (x4 + 1)) (lv' := [(4, .int (x4 + 1)), (6, .int s0), (0, .ref (b + t)), (1, .int x1), (2, .int x2), (3, .int x3), (5, .int x5)]) dX2_times_62 rfl rfl (by decide) rfl ?_
      refine E.iinc (q := 6) (v := (x5 + 1)) (lv' := [(5, .int (x5 + 1)), (4, .int (x4 + 1)), (6, .int s0), (0, .ref (b + t)), (1, .int x1), (2, .int x2), (3, .int x3)]) dX2_times_65 rfl rfl (by decide) rfl ?_
      refine E.goto dX2_times_68 ?_
      refine E.locals [3, 4, 5, 6, 1, 0] rfl ?_
      exact hk6 hf
def fX2_times_L6 (Fu : Nat) : Nat → Int32 → (Nat → Int32) → (Nat → Int32) → (Nat → Int32) → Int32 → Int32 → Int32 → Int32 → Int32 → Option (Int32)
  | 0, _, _, _, _, _, _, _, _, _ => none
  | k + 1, vT0_cases, aT1, aT2, aT3, x1, x2, x3, x4, x5 => if (vT0_cases : Int32) ≤ (x5 : Int32) then (some (x4)) else (if (x2 : Int32) = (0 : Int32) then ((fX2_votedRight aT1 aT2 aT3 x5).bind fun r3 => (fX2_times_L44 Fu (fX2_times_L6 Fu k) vT0_cases aT1 aT2 aT3 x1 x2 x3 x4 x5 r3)) else (gd x5 20 ((fX2_votedRight aT1 aT2 aT3 x5).bind fun r2 => (fX2_times_L44 Fu (fX2_times_L6 Fu k) vT0_cases aT1 aT2 aT3 x1 x2 x3 x4 x5 ((aT2 (x5 : Int32).toNatClampNeg) &&& (r2 ^^^ (-1 : Int32)))))))
set_option maxHeartbeats 4000000 in
set_option maxRecDepth 100000 in
theorem tX2_times_L6 {G : GT} {b : Nat} {t : Nat} {c0 : Hp} {n : Nat} (hw : e_wf (kW20 t) n)  {Fu : Nat} : ∀ (k : Nat) {vT0_cases : Int32} {aT1 : Nat → Int32} {aT2 : Nat → Int32} {aT3 : Nat → Int32} {x1 : Int32} {x2 : Int32} {x3 : Int32} {x4 : Int32} {x5 : Int32} {R : Int32}, fX2_times_L6 Fu k vT0_cases aT1 aT2 aT3 x1 x2 x3 x4 x5 = some R → E G b yX2_times cX2_times 7 (some .int) (e_rm 1 0 0) e_X0 (e_Z G b (pD (some (.int R)) (e_ov (kW20 t) (wW20 G b t vT0_cases aT1 aT2 aT3) c0) n) 0 0) 6 [(0, .ref (b + t)), (1, .int x1), (2, .int x2), (3, .int x3), (4, .int x4), (5, .int x5)] [] (e_ov (kW20 t) (wW20 G b t vT0_cases aT1 aT2 aT3) c0) n 0 0 := by
  intro k
  induction k with
  | zero =>
    intro _ _ _ _ _ _ _ _ _ _ hf
    have hf : (none : Option (Int32)) = some _ := hf
    cases hf
  | succ k ih =>
    intro vT0_cases aT1 aT2 aT3 x1 x2 x3 x4 x5 R hf
    rw [fX2_times_L6] at hf
    refine E.iload 5 dX2_times_6 rfl ?_
    refine E.aload_n 0 dX2_times_8 rfl ?_
    refine E.get hw 0 t dX2_times_9 flX2_27 rfl rfl rfl rfl ?_
    refine E.icmp_ge dX2_times_12 (fun h => ?_) (fun h => ?_)
    · have hf := e_ift hf h
      refine E.iload 4 dX2_times_71 rfl ?_
      cases hf
      exact E.iret dX2_times_73 (Nat.le_refl _) (Nat.le_refl _) (pD_rf _ _ _)
    · have hf := e_iff hf h
      refine E.iload_n 2 dX2_times_15 rfl ?_
      refine E.if_ne dX2_times_16 (fun h => ?_) (fun h => ?_)
      · have hf := e_iff hf h
        refine E.aload_n 0 dX2_times_28 rfl ?_
        refine E.get hw 0 t dX2_times_29 flX2_15 rfl rfl rfl rfl ?_
        refine E.iload 5 dX2_times_32 rfl ?_
        obtain ⟨g1, hf⟩ := gd_some hf
        refine E.iald hw 2 (t + 2) dX2_times_34 rfl rfl g1 ?_
        refine E.aload_n 0 dX2_times_35 rfl ?_
        refine E.iload 5 dX2_times_36 rfl ?_
        obtain ⟨r2, hc2, hf⟩ := e_bind hf
        refine E.callVD [.int (aT2 (x5 : Int32).toNatClampNeg)] dX2_times_38 mlX2_31 ⟨hw.sub (p := 0) rfl, e_ov_get hw.1 (p := 0) rfl rfl⟩ rfl rfl (mX2_votedRight hw hc2) ⟨Nat.le_of_ble_eq_true rfl, Nat.le_of_ble_eq_true rfl⟩ rfl rfl (Nat.le_of_ble_eq_true rfl) ⟨Nat.le_refl _, Nat.le_refl _⟩ rfl ?_
        refine E.iconst (v := -1) dX2_times_41 (by decide) ?_
        refine E.ixor dX2_times_42 ?_
        refine E.iand dX2_times_43 ?_
        exact tX2_times_L44 hw ih hf
      · have hf := e_ift hf h
        refine E.aload_n 0 dX2_times_19 rfl ?_
        refine E.iload 5 dX2_times_20 rfl ?_
        obtain ⟨r3, hc3, hf⟩ := e_bind hf
        refine E.callVD [] dX2_times_22 mlX2_31 ⟨hw.sub (p := 0) rfl, e_ov_get hw.1 (p := 0) rfl rfl⟩ rfl rfl (mX2_votedRight hw hc3) ⟨Nat.le_of_ble_eq_true rfl, Nat.le_of_ble_eq_true rfl⟩ rfl rfl (Nat.le_of_ble_eq_true rfl) ⟨Nat.le_refl _, Nat.le_refl _⟩ rfl ?_
        refine E.goto dX2_times_25 ?_
        exact tX2_times_L44 hw ih hf
def fX2_times (Fu : Nat) (vT0_cases : Int32) (aT1 : Nat → Int32) (aT2 : Nat → Int32) (aT3 : Nat → Int32) (x1 : Int32) (x2 : Int32) (x3 : Int32) : Option (Int32) := fX2_times_L6 Fu Fu vT0_cases aT1 aT2 aT3 x1 x2 x3 0 0
set_option maxHeartbeats 4000000 in
set_option maxRecDepth 100000 in
theorem tX2_times {G : GT} {b : Nat} {t : Nat} {c0 : Hp} {n : Nat} (hw : e_wf (kW20 t) n)  {Fu : Nat} {vT0_cases : Int32} {aT1 : Nat → Int32} {aT2 : Nat → Int32} {aT3 : Nat → Int32} {x1 : Int32} {x2 : Int32} {x3 : Int32} {R : Int32} (hf : fX2_times Fu vT0_cases aT1 aT2 aT3 x1 x2 x3 = some R) : E G b yX2_times cX2_times 7 (some .int) (e_rm 1 0 0) e_X0 (e_Z G b (pD (some (.int R)) (e_ov (kW20 t) (wW20 G b t vT0_cases aT1 aT2 aT3) c0) n) 0 0) 0 [(0, .ref (b + t)), (1, .int x1), (2, .int x2), (3, .int x3)] [] (e_ov (kW20 t) (wW20 G b t vT0_cases aT1 aT2 aT3) c0) n 0 0 := by
  unfold fX2_times at hf
  refine E.iconst (v := 0) dX2_times_0 (by decide) ?_
  refine E.istore (lv' := [(4, .int 0), (0, .ref (b + t)), (1, .int x1), (2, .int x2), (3, .int x3)]) dX2_times_1 (by decide) rfl ?_
  refine E.iconst (v := 0) dX2_times_3 (by decide) ?_
  refine E.istore (lv' := [(5, .int 0), (4, .int 0), (0, .ref (b + t)), (1, .int x1), (2, .int x2), (3, .int x3)]) dX2_times_4 (by decide) rfl ?_
  refine E.locals [2, 3, 4, 5, 1, 0] rfl ?_
  exact tX2_times_L6 hw _ hf
set_option maxRecDepth 100000 in
theorem mX2_times {G : GT} {b : Nat} {t : Nat} {c0 : Hp} {n : Nat} (hw : e_wf (kW20 t) n)  {Fu : Nat} {vT0_cases : Int32} {aT1 : Nat → Int32} {aT2 : Nat → Int32} {aT3 : Nat → Int32} {x1 : Int32} {x2 : Int32} {x3 : Int32} {R : Int32} (hf : fX2_times Fu vT0_cases aT1 aT2 aT3 x1 x2 x3 = some R) : e_C G b yX2_times cX2_times 7 (some .int) 1 0 0 [.ref (b + t), .int x1, .int x2, .int x3] (e_ov (kW20 t) (wW20 G b t vT0_cases aT1 aT2 aT3) c0) n (pD (some (.int R)) (e_ov (kW20 t) (wW20 G b t vT0_cases aT1 aT2 aT3) c0) n) := e_C.of (by decide) (Nat.le_of_ble_eq_true rfl) (tX2_times hw hf)
abbrev kW67 : List Nat := [0, 1, 6, 7, 8, 9]
abbrev wW67 (G : GT) (b  : Nat) (v0_faultPlace : Int32) (v0_quashedRows : Int32) (v0_lastRefusal : Int32) (v1_beasts : Int32) (v1_meals : Int32) (v1_seats : Int32) (v1_laws : Int32) (v1_inForce : Int32) (v6_cases : Int32) (a7 : Nat → Int32) (a8 : Nat → Int32) (a9 : Nat → Int32) : List va_E := [.inr (11, [.ref (b + 1), .ref (b + 10), .ref (b + 29), .ref (b + 30), .ref (b + 32), .ref (b + 37), .ref (b + 40), .ref (b + 42), .ref (b + 69), .ref (b + 73), .ref (b + 74), .ref (b + 76), .ref (b + 78), .int v0_faultPlace, .int v0_quashedRows, .int v0_lastRefusal]), .inr (10, [.ref (b + 2), .ref (b + 3), .ref (b + 4), .ref (b + 5), .ref (b + 6), .int v1_beasts, .int v1_meals, .int v1_seats, .int v1_laws, .int v1_inForce]), .inr (2, [.ref (b + 7), .ref (b + 8), .ref (b + 9), .int v6_cases]), aI G 20 a7, aI G 20 a8, aI G 20 a9]
def fX11_right_L20 (Fu : Nat) (v6_cases : Int32) (a7 : Nat → Int32) (a8 : Nat → Int32) (a9 : Nat → Int32) (x1 : Int32) (x2 : Int32) : Option (Int32) := if (x1 : Int32) < (0 : Int32) then (some ((-1 : Int32))) else (if (8 : Int32) ≤ (x1 : Int32) then (some ((-1 : Int32))) else ((fX11_isEither x2).bind fun r2 => (if (r2 : Int32) = (0 : Int32) then (some ((-1 : Int32))) else ((fX2_times Fu v6_cases a7 a8 a9 x1 x2 (-1 : Int32)).bind fun r3 => (some (r3))))))
set_option maxHeartbeats 4000000 in
set_option maxRecDepth 100000 in
theorem tX11_right_L20 {G : GT} {b : Nat} {c0 : Hp} {n : Nat} (hw : e_wf (kW67) n) {v0_faultPlace : Int32} {v0_quashedRows : Int32} {v0_lastRefusal : Int32} {v1_beasts : Int32} {v1_meals : Int32} {v1_seats : Int32} {v1_laws : Int32} {v1_inForce : Int32} {Fu : Nat} {v6_cases : Int32} {a7 : Nat → Int32} {a8 : Nat → Int32} {a9 : Nat → Int32} {x1 : Int32} {x2 : Int32} {R : Int32} (hf : fX11_right_L20 Fu v6_cases a7 a8 a9 x1 x2 = some R) : E G b yX11_right cX11_right 3 (some .int) (e_rm 2 0 0) e_X0 (e_Z G b (pD (some (.int R)) (e_ov (kW67) (wW67 G b v0_faultPlace v0_quashedRows v0_lastRefusal v1_beasts v1_meals v1_seats v1_laws v1_inForce v6_cases a7 a8 a9) c0) n) 0 0) 20 [(0, .ref (b + 0)), (1, .int x1), (2, .int x2)] [] (e_ov (kW67) (wW67 G b v0_faultPlace v0_quashedRows v0_lastRefusal v1_beasts v1_meals v1_seats v1_laws v1_inForce v6_cases a7 a8 a9) c0) n 0 0 := by
  unfold fX11_right_L20 at hf
  refine E.iload_n 1 dX11_right_20 rfl ?_
  refine E.if_lt dX11_right_21 (fun h => ?_) (fun h => ?_)
  · have hf := e_ift hf h
    refine E.iconst (v := -1) dX11_right_37 (by decide) ?_
    cases hf
    exact E.iret dX11_right_38 (Nat.le_refl _) (Nat.le_refl _) (pD_rf _ _ _)
  · have hf := e_iff hf h
    refine E.iload_n 1 dX11_right_24 rfl ?_
    refine E.bipush (v := 8) dX11_right_25 (by decide) ?_
    refine E.icmp_ge dX11_right_27 (fun h => ?_) (fun h => ?_)
    · have hf := e_ift hf h
      refine E.iconst (v := -1) dX11_right_37 (by decide) ?_
      cases hf
      exact E.iret dX11_right_38 (Nat.le_refl _) (Nat.le_refl _) (pD_rf _ _ _)
    · have hf := e_iff hf h
      refine E.iload_n 2 dX11_right_30 rfl ?_
      obtain ⟨r2, hc2, hf⟩ := e_bind hf
      refine E.callSD [] dX11_right_31 mlX11_274 (mX11_isEither hc2) ⟨Nat.le_of_ble_eq_true rfl, Nat.le_of_ble_eq_true rfl⟩ rfl rfl (Nat.le_of_ble_eq_true rfl) ⟨Nat.le_refl _, Nat.le_refl _⟩ rfl ?_
      refine E.if_ne dX11_right_34 (fun h => ?_) (fun h => ?_)
      · have hf := e_iff hf h
        refine E.aload_n 0 dX11_right_39 rfl ?_
        refine E.get hw 0 0 dX11_right_40 flX11_10 rfl rfl rfl rfl ?_
        refine E.getN hw 1 1 dX11_right_43 fnX11_169 rfl rfl rfl rfl ?_
        refine E.iload_n 1 dX11_right_46 rfl ?_
        refine E.iload_n 2 dX11_right_47 rfl ?_
        refine E.iconst (v := -1) dX11_right_48 (by decide) ?_
        obtain ⟨r3, hc3, hf⟩ := e_bind hf
        refine E.callVDs (es' := (wW67 G b v0_faultPlace v0_quashedRows v0_lastRefusal v1_beasts v1_meals v1_seats v1_laws v1_inForce v6_cases a7 a8 a9)) [] [2, 3, 4, 5] 2 6 dX11_right_49 mlX11_320 hw rfl rfl rfl rfl (mX2_times (hw.pick2 [2, 3, 4, 5] rfl (by decide)) hc3) rfl rfl rfl rfl ⟨Nat.le_of_ble_eq_true rfl, Nat.le_of_ble_eq_true rfl⟩ rfl rfl (Nat.le_of_ble_eq_true rfl) ⟨Nat.le_refl _, Nat.le_refl _⟩ rfl ?_
        cases hf
        exact E.iret dX11_right_52 (Nat.le_refl _) (Nat.le_refl _) (pD_rf _ _ _)
      · have hf := e_ift hf h
        refine E.iconst (v := -1) dX11_right_37 (by decide) ?_
        cases hf
        exact E.iret dX11_right_38 (Nat.le_refl _) (Nat.le_refl _) (pD_rf _ _ _)
def fX11_right (Fu : Nat) (v6_cases : Int32) (a7 : Nat → Int32) (a8 : Nat → Int32) (a9 : Nat → Int32) (x1 : Int32) (x2 : Int32) : Option (Int32) := if (x1 : Int32) = ((-1 : Int32) : Int32) then (if (x2 : Int32) = (0 : Int32) then ((fX2_mostRight Fu v6_cases a7 a8 a9).bind fun r1 => (some (r1))) else (fX11_right_L20 Fu v6_cases a7 a8 a9 x1 x2)) else (fX11_right_L20 Fu v6_cases a7 a8 a9 x1 x2)
set_option maxHeartbeats 4000000 in
set_option maxRecDepth 100000 in
theorem tX11_right {G : GT} {b : Nat} {c0 : Hp} {n : Nat} (hw : e_wf (kW67) n) {v0_faultPlace : Int32} {v0_quashedRows : Int32} {v0_lastRefusal : Int32} {v1_beasts : Int32} {v1_meals : Int32} {v1_seats : Int32} {v1_laws : Int32} {v1_inForce : Int32} {Fu : Nat} {v6_cases : Int32} {a7 : Nat → Int32} {a8 : Nat → Int32} {a9 : Nat → Int32} {x1 : Int32} {x2 : Int32} {R : Int32} (hf : fX11_right Fu v6_cases a7 a8 a9 x1 x2 = some R) : E G b yX11_right cX11_right 3 (some .int) (e_rm 2 0 0) e_X0 (e_Z G b (pD (some (.int R)) (e_ov (kW67) (wW67 G b v0_faultPlace v0_quashedRows v0_lastRefusal v1_beasts v1_meals v1_seats v1_laws v1_inForce v6_cases a7 a8 a9) c0) n) 0 0) 0 [(0, .ref (b + 0)), (1, .int x1), (2, .int x2)] [] (e_ov (kW67) (wW67 G b v0_faultPlace v0_quashedRows v0_lastRefusal v1_beasts v1_meals v1_seats v1_laws v1_inForce v6_cases a7 a8 a9) c0) n 0 0 := by
  unfold fX11_right at hf
  refine E.iload_n 1 dX11_right_0 rfl ?_
  refine E.iconst (v := -1) dX11_right_1 (by decide) ?_
  refine E.icmp_ne dX11_right_2 (fun h => ?_) (fun h => ?_)
  · have hf := e_iff hf h
    exact tX11_right_L20 hw hf
  · have hf := e_ift hf h
    refine E.iload_n 2 dX11_right_5 rfl ?_
    refine E.if_ne dX11_right_6 (fun h => ?_) (fun h => ?_)
    · have hf := e_iff hf h
      exact tX11_right_L20 hw hf
    · have hf := e_ift hf h
      refine E.aload_n 0 dX11_right_9 rfl ?_
      refine E.get hw 0 0 dX11_right_10 flX11_10 rfl rfl rfl rfl ?_
      refine E.getN hw 1 1 dX11_right_13 fnX11_169 rfl rfl rfl rfl ?_
      obtain ⟨r1, hc1, hf⟩ := e_bind hf
      refine E.callVDs (es' := (wW67 G b v0_faultPlace v0_quashedRows v0_lastRefusal v1_beasts v1_meals v1_seats v1_laws v1_inForce v6_cases a7 a8 a9)) [] [2, 3, 4, 5] 2 6 dX11_right_16 mlX11_317 hw rfl rfl rfl rfl (mX2_mostRight (hw.pick2 [2, 3, 4, 5] rfl (by decide)) hc1) rfl rfl rfl rfl ⟨Nat.le_of_ble_eq_true rfl, Nat.le_of_ble_eq_true rfl⟩ rfl rfl (Nat.le_of_ble_eq_true rfl) ⟨Nat.le_refl _, Nat.le_refl _⟩ rfl ?_
      cases hf
      exact E.iret dX11_right_19 (Nat.le_refl _) (Nat.le_refl _) (pD_rf _ _ _)
set_option maxRecDepth 100000 in
theorem mX11_right {G : GT} {b : Nat} {c0 : Hp} {n : Nat} (hw : e_wf (kW67) n) {v0_faultPlace : Int32} {v0_quashedRows : Int32} {v0_lastRefusal : Int32} {v1_beasts : Int32} {v1_meals : Int32} {v1_seats : Int32} {v1_laws : Int32} {v1_inForce : Int32} {Fu : Nat} {v6_cases : Int32} {a7 : Nat → Int32} {a8 : Nat → Int32} {a9 : Nat → Int32} {x1 : Int32} {x2 : Int32} {R : Int32} (hf : fX11_right Fu v6_cases a7 a8 a9 x1 x2 = some R) : e_C G b yX11_right cX11_right 3 (some .int) 2 0 0 [.ref (b + 0), .int x1, .int x2] (e_ov (kW67) (wW67 G b v0_faultPlace v0_quashedRows v0_lastRefusal v1_beasts v1_meals v1_seats v1_laws v1_inForce v6_cases a7 a8 a9) c0) n (pD (some (.int R)) (e_ov (kW67) (wW67 G b v0_faultPlace v0_quashedRows v0_lastRefusal v1_beasts v1_meals v1_seats v1_laws v1_inForce v6_cases a7 a8 a9) c0) n) := e_C.of (by decide) (Nat.le_of_ble_eq_true rfl) (tX11_right hw hf)
abbrev kW68 (t : Nat) : List Nat := [t, (t + 2), (t + 3)]
abbrev wW68 (G : GT) (b t : Nat) (vT0_cases : Int32) (aT2 : Nat → Int32) (aT3 : Nat → Int32) : List va_E := [.inr (2, [.ref (b + (t + 1)), .ref (b + (t + 2)), .ref (b + (t + 3)), .int vT0_cases]), aI G 20 aT2, aI G 20 aT3]
def fX2_together_L93 (Fu : Nat) (k6 : Int32 → (Nat → Int32) → (Nat → Int32) → Int32 → Int32 → Int32 → Int32 → Int32 → Option (Int32)) (vT0_cases : Int32) (aT2 : Nat → Int32) (aT3 : Nat → Int32) (x1 : Int32) (x2 : Int32) (x3 : Int32) (x4 : Int32) (x5 : Int32) : Option (Int32) := k6 vT0_cases aT2 aT3 x1 x2 x3 (x4 + 1) (x5 + 1)
set_option maxHeartbeats 4000000 in
set_option maxRecDepth 100000 in
theorem tX2_together_L93 {G : GT} {b : Nat} {t : Nat} {c0 : Hp} {n : Nat} (hw : e_wf (kW68 t) n)  {Fu : Nat} {k6 : Int32 → (Nat → Int32) → (Nat → Int32) → Int32 → Int32 → Int32 → Int32 → Int32 → Option (Int32)} (hk6 : ∀ {vT0_cases : Int32} {aT2 : Nat → Int32} {aT3 : Nat → Int32} {x1 : Int32} {x2 : Int32} {x3 : Int32} {x4 : Int32} {x5 : Int32} {R : Int32}, k6 vT0_cases aT2 aT3 x1 x2 x3 x4 x5 = some R → E G b yX2_together cX2_together 8 (some .int) (e_rm 0 0 0) e_X0 (e_Z G b (pD (some (.int R)) (e_ov (kW68 t) (wW68 G b t vT0_cases aT2 aT3) c0) n) 0 0) 6 [(0, .ref (b + t)), (1, .int x1), (2, .int x2), (3, .int x3), (4, .int x4), (5, .int x5)] [] (e_ov (kW68 t) (wW68 G b t vT0_cases aT2 aT3) c0) n 0 0) {vT0_cases : Int32} {aT2 : Nat → Int32} {aT3 : Nat → Int32} {x1 : Int32} {x2 : Int32} {x3 : Int32} {x4 : Int32} {x5 : Int32} {R : Int32} (hf : fX2_together_L93 Fu k6 vT0_cases aT2 aT3 x1 x2 x3 x4 x5 = some R) : E G b yX2_together cX2_together 8 (some .int) (e_rm 0 0 0) e_X0 (e_Z G b (pD (some (.int R)) (e_ov (kW68 t) (wW68 G b t vT0_cases aT2 aT3) c0) n) 0 0) 93 [(0, .ref (b + t)), (1, .int x1), (2, .int x2), (3, .int x3), (4, .int x4), (5, .int x5)] [] (e_ov (kW68 t) (wW68 G b t vT0_cases aT2 aT3) c0) n 0 0 := by
  unfold fX2_together_L93 at hf
  refine E.iinc (q := 4) (v := (x4 + 1)) (lv' := [(4, .int (x4 + 1)), (0, .ref (b + t)), (1, .int x1), (2, .int x2), (3, .int x3), (5, .int x5)]) dX2_together_93 rfl rfl (by decide) rfl ?_
  refine E.iinc (q := 5) (v := (x5 + 1)) (lv' := [(5, .int (x5 + 1)), (4, .int (x4 + 1)), (0, .ref (b + t)), (1, .int x1), (2, .int x2), (3, .int x3)]) dX2_together_96 rfl rfl (by decide) rfl ?_
  refine E.goto dX2_together_99 ?_
  refine E.locals [2, 3, 4, 5, 1, 0] rfl ?_
  exact hk6 hf
def fX2_together_L77 (Fu : Nat) (k6 : Int32 → (Nat → Int32) → (Nat → Int32) → Int32 → Int32 → Int32 → Int32 → Int32 → Option (Int32)) (vT0_cases : Int32) (aT2 : Nat → Int32) (aT3 : Nat → Int32) (x1 : Int32) (x2 : Int32) (x3 : Int32) (x4 : Int32) (x5 : Int32) (x6 : Int32) (s0 : Int32) : Option (Int32) := if (x6 : Int32) = (0 : Int32) then (k6 vT0_cases aT2 aT3 x1 x2 x3 x4 (x5 + 1)) else (if (s0 : Int32) = (0 : Int32) then (if (x3 : Int32) = (0 : Int32) then (fX2_together_L93 Fu k6 vT0_cases aT2 aT3 x1 x2 x3 x4 x5) else (k6 vT0_cases aT2 aT3 x1 x2 x3 x4 (x5 + 1))) else (fX2_together_L93 Fu k6 vT0_cases aT2 aT3 x1 x2 x3 x4 x5))
set_option maxHeartbeats 4000000 in
set_option maxRecDepth 100000 in
theorem tX2_together_L77 {G : GT} {b : Nat} {t : Nat} {c0 : Hp} {n : Nat} (hw : e_wf (kW68 t) n)  {Fu : Nat} {k6 : Int32 → (Nat → Int32) → (Nat → Int32) → Int32 → Int32 → Int32 → Int32 → Int32 → Option (Int32)} (hk6 : ∀ {vT0_cases : Int32} {aT2 : Nat → Int32} {aT3 : Nat → Int32} {x1 : Int32} {x2 : Int32} {x3 : Int32} {x4 : Int32} {x5 : Int32} {R : Int32}, k6 vT0_cases aT2 aT3 x1 x2 x3 x4 x5 = some R → E G b yX2_together cX2_together 8 (some .int) (e_rm 0 0 0) e_X0 (e_Z G b (pD (some (.int R)) (e_ov (kW68 t) (wW68 G b t vT0_cases aT2 aT3) c0) n) 0 0) 6 [(0, .ref (b + t)), (1, .int x1), (2, .int x2), (3, .int x3), (4, .int x4), (5, .int x5)] [] (e_ov (kW68 t) (wW68 G b t vT0_cases aT2 aT3) c0) n 0 0) {vT0_cases : Int32} {aT2 : Nat → Int32} {aT3 : Nat → Int32} {x1 : Int32} {x2 : Int32} {x3 : Int32} {x4 : Int32} {x5 : Int32} {x6 : Int32} {s0 : Int32} {R : Int32} (hf : fX2_together_L77 Fu k6 vT0_cases aT2 aT3 x1 x2 x3 x4 x5 x6 s0 = some R) : E G b yX2_together cX2_together 8 (some .int) (e_rm 0 0 0) e_X0 (e_Z G b (pD (some (.int R)) (e_ov (kW68 t) (wW68 G b t vT0_cases aT2 aT3) c0) n) 0 0) 77 [(0, .ref (b + t)), (1, .int x1), (2, .int x2), (3, .int x3), (4, .int x4), (5, .int x5), (6, .int x6)] [.int s0] (e_ov (kW68 t) (wW68 G b t vT0_cases aT2 aT3) c0) n 0 0 := by
  unfold fX2_together_L77 at hf
  refine E.istore (lv' := [(7, .int s0), (0, .ref (b + t)), (1, .int x1), (2, .int x2), (3, .int x3), (4, .int x4), (5, .int x5), (6, .int x6)]) dX2_together_77 (by decide) rfl ?_
  refine E.iload 7 dX2_together_79 rfl ?_
  refine E.if_eq dX2_together_81 (fun h => ?_) (fun h => ?_)
  · have hf := e_ift hf h
    refine E.iinc (q := 6) (v := (x5 + 1)) (lv' := [(5, .int (x5 + 1)), (7, .int s0), (0, .ref (b + t)), (1, .int x1), (2, .int x2), (3, .int x3), (4, .int x4), (6, .int x6)]) dX2_together_96 rfl rfl (by decide) rfl ?_
    refine E.goto dX2_together_99 ?_
    refine E.locals [2, 3, 4, 5, 6, 0] rfl ?_
    exact hk6 hf
  · have hf := e_iff hf h
    refine E.iload 0 dX2_together_84 rfl ?_
    refine E.if_ne dX2_together_86 (fun h => ?_) (fun h => ?_)
    · have hf := e_iff hf h
      refine E.locals [1, 2, 3, 4, 5, 6] rfl ?_
      exact tX2_together_L93 hw hk6 hf
    · have hf := e_ift hf h
      refine E.iload_n 4 dX2_together_89 rfl ?_
      refine E.if_ne dX2_together_90 (fun h => ?_) (fun h => ?_)
      · have hf := e_iff hf h
        refine E.iinc (q := 6) (v := (x5 + 1)) (lv' := [(5, .int (x5 + 1)), (7, .int s0), (0, .ref (b + t)), (1, .int x1), (2, .int x2), (3, .int x3), (4, .int x4), (6, .int x6)]) dX2_together_96 rfl rfl (by decide) rfl ?_
        refine E.goto dX2_together_99 ?_
        refine E.locals [2, 3, 4, 5, 6, 0] rfl ?_
        exact hk6 hf
      · have hf := e_ift hf h
        refine E.locals [1, 2, 3, 4, 5, 6] rfl ?_
        exact tX2_together_L93 hw hk6 hf
def fX2_together_L45 (Fu : Nat) (k6 : Int32 → (Nat → Int32) → (Nat → Int32) → Int32 → Int32 → Int32 → Int32 → Int32 → Option (Int32)) (vT0_cases : Int32) (aT2 : Nat → Int32) (aT3 : Nat → Int32) (x1 : Int32) (x2 : Int32) (x3 : Int32) (x4 : Int32) (x5 : Int32) (s0 : Int32) : Option (Int32) := gd x5 20 (gd x5 20 (if (((((aT3 (x5 : Int32).toNatClampNeg) : Int32) >>> ((x1 : Int32) &&& 31)) &&& 1) : Int32) = (((((aT3 (x5 : Int32).toNatClampNeg) : Int32) >>> ((x2 : Int32) &&& 31)) &&& 1) : Int32) then (fX2_together_L77 Fu k6 vT0_cases aT2 aT3 x1 x2 x3 x4 x5 s0 1) else (fX2_together_L77 Fu k6 vT0_cases aT2 aT3 x1 x2 x3 x4 x5 s0 0)))
set_option maxHeartbeats 4000000 in
set_option maxRecDepth 100000 in
theorem tX2_together_L45 {G : GT} {b : Nat} {t : Nat} {c0 : Hp} {n : Nat} (hw : e_wf (kW68 t) n)  {Fu : Nat} {k6 : Int32 → (Nat → Int32) → (Nat → Int32) → Int32 → Int32 → Int32 → Int32 → Int32 → Option (Int32)} (hk6 : ∀ {vT0_cases : Int32} {aT2 : Nat → Int32} {aT3 : Nat → Int32} {x1 : Int32} {x2 : Int32} {x3 : Int32} {x4 : Int32} {x5 : Int32} {R : Int32}, k6 vT0_cases aT2 aT3 x1 x2 x3 x4 x5 = some R → E G b yX2_together cX2_together 8 (some .int) (e_rm 0 0 0) e_X0 (e_Z G b (pD (some (.int R)) (e_ov (kW68 t) (wW68 G b t vT0_cases aT2 aT3) c0) n) 0 0) 6 [(0, .ref (b + t)), (1, .int x1), (2, .int x2), (3, .int x3), (4, .int x4), (5, .int x5)] [] (e_ov (kW68 t) (wW68 G b t vT0_cases aT2 aT3) c0) n 0 0) {vT0_cases : Int32} {aT2 : Nat → Int32} {aT3 : Nat → Int32} {x1 : Int32} {x2 : Int32} {x3 : Int32} {x4 : Int32} {x5 : Int32} {s0 : Int32} {R : Int32} (hf : fX2_together_L45 Fu k6 vT0_cases aT2 aT3 x1 x2 x3 x4 x5 s0 = some R) : E G b yX2_together cX2_together 8 (some .int) (e_rm 0 0 0) e_X0 (e_Z G b (pD (some (.int R)) (e_ov (kW68 t) (wW68 G b t vT0_cases aT2 aT3) c0) n) 0 0) 45 [(0, .ref (b + t)), (1, .int x1), (2, .int x2), (3, .int x3), (4, .int x4), (5, .int x5)] [.int s0] (e_ov (kW68 t) (wW68 G b t vT0_cases aT2 aT3) c0) n 0 0 := by
  unfold fX2_together_L45 at hf
  refine E.istore (lv' := [(6, .int s0), (0, .ref (b + t)), (1, .int x1), (2, .int x2), (3, .int x3), (4, .int x4), (5, .int x5)]) dX2_together_45 (by decide) rfl ?_
  refine E.aload_n 1 dX2_together_47 rfl ?_
  refine E.get hw 0 t dX2_together_48 flX2_18 rfl rfl rfl rfl ?_
  refine E.iload 6 dX2_together_51 rfl ?_
  obtain ⟨g3, hf⟩ := gd_some hf
  refine E.iald hw 2 (t + 3) dX2_together_53 rfl rfl g3 ?_
  refine E.iload_n 2 dX2_together_54 rfl ?_
  refine E.ishr dX2_together_55 ?_
  refine E.iconst (v := 1) dX2_together_56 (by decide) ?_
  refine E.iand dX2_together_57 ?_
  refine E.aload_n 1 dX2_together_58 rfl ?_
  refine E.get hw 0 t dX2_together_59 flX2_18 rfl rfl rfl rfl ?_
  refine E.iload 6 dX2_together_62 rfl ?_
  obtain ⟨g4, hf⟩ := gd_some hf
  refine E.iald hw 2 (t + 3) dX2_together_64 rfl rfl g4 ?_
  refine E.iload_n 3 dX2_together_65 rfl ?_
  refine E.ishr dX2_together_66 ?_
  refine E.iconst (v := 1) dX2_together_67 (by decide) ?_
  refine E.iand dX2_together_68 ?_
  refine E.icmp_ne dX2_together_69 (fun h => ?_) (fun h => ?_)
  · have hf := e_iff hf h
    refine E.iconst (v := 0) dX2_together_76 (by decide) ?_
    refine E.locals [1, 2, 3, 4, 5, 6, 0] rfl ?_
    exact tX2_together_L77 hw hk6 hf
  · have hf := e_ift hf h
    refine E.iconst (v := 1) dX2_together_72 (by decide) ?_
    refine E.goto dX2_together_73 ?_
    refine E.locals [1, 2, 3, 4, 5, 6, 0] rfl ?_
    exact tX2_together_L77 hw hk6 hf
def fX2_together_L6 (Fu : Nat) : Nat → Int32 → (Nat → Int32) → (Nat → Int32) → Int32 → Int32 → Int32 → Int32 → Int32 → Option (Int32)
  | 0, _, _, _, _, _, _, _, _ => none
  | k + 1, vT0_cases, aT2, aT3, x1, x2, x3, x4, x5 => if (vT0_cases : Int32) ≤ (x5 : Int32) then (some (x4)) else (gd x5 20 (gd x5 20 (if ((((((aT2 (x5 : Int32).toNatClampNeg) : Int32) >>> ((x1 : Int32) &&& 31)) &&& (((aT2 (x5 : Int32).toNatClampNeg) : Int32) >>> ((x2 : Int32) &&& 31))) &&& 1) : Int32) = (1 : Int32) then (fX2_together_L45 Fu (fX2_together_L6 Fu k) vT0_cases aT2 aT3 x1 x2 x3 x4 x5 1) else (fX2_together_L45 Fu (fX2_together_L6 Fu k) vT0_cases aT2 aT3 x1 x2 x3 x4 x5 0))))
set_option maxHeartbeats 4000000 in
set_option maxRecDepth 100000 in
theorem tX2_together_L6 {G : GT} {b : Nat} {t : Nat} {c0 : Hp} {n : Nat} (hw : e_wf (kW68 t) n)  {Fu : Nat} : ∀ (k : Nat) {vT0_cases : Int32} {aT2 : Nat → Int32} {aT3 : Nat → Int32} {x1 : Int32} {x2 : Int32} {x3 : Int32} {x4 : Int32} {x5 : Int32} {R : Int32}, fX2_together_L6 Fu k vT0_cases aT2 aT3 x1 x2 x3 x4 x5 = some R → E G b yX2_together cX2_together 8 (some .int) (e_rm 0 0 0) e_X0 (e_Z G b (pD (some (.int R)) (e_ov (kW68 t) (wW68 G b t vT0_cases aT2 aT3) c0) n) 0 0) 6 [(0, .ref (b + t)), (1, .int x1), (2, .int x2), (3, .int x3), (4, .int x4), (5, .int x5)] [] (e_ov (kW68 t) (wW68 G b t vT0_cases aT2 aT3) c0) n 0 0 := by
  intro k
  induction k with
  | zero =>
    intro _ _ _ _ _ _ _ _ _ hf
    have hf : (none : Option (Int32)) = some _ := hf
    cases hf
  | succ k ih =>
    intro vT0_cases aT2 aT3 x1 x2 x3 x4 x5 R hf
    rw [fX2_together_L6] at hf
    refine E.iload 5 dX2_together_6 rfl ?_
    refine E.aload_n 0 dX2_together_8 rfl ?_
    refine E.get hw 0 t dX2_together_9 flX2_27 rfl rfl rfl rfl ?_
    refine E.icmp_ge dX2_together_12 (fun h => ?_) (fun h => ?_)
    · have hf := e_ift hf h
      refine E.iload 4 dX2_together_102 rfl ?_
      cases hf
      exact E.iret dX2_together_104 (Nat.le_refl _) (Nat.le_refl _) (pD_rf _ _ _)
    · have hf := e_iff hf h
      refine E.aload_n 0 dX2_together_15 rfl ?_
      refine E.get hw 0 t dX2_together_16 flX2_15 rfl rfl rfl rfl ?_
      refine E.iload 5 dX2_together_19 rfl ?_
      obtain ⟨g1, hf⟩ := gd_some hf
      refine E.iald hw 1 (t + 2) dX2_together_21 rfl rfl g1 ?_
      refine E.iload_n 1 dX2_together_22 rfl ?_
      refine E.ishr dX2_together_23 ?_
      refine E.aload_n 0 dX2_together_24 rfl ?_
      refine E.get hw 0 t dX2_together_25 flX2_15 rfl rfl rfl rfl ?_
      refine E.iload 5 dX2_together_28 rfl ?_
      obtain ⟨g2, hf⟩ := gd_some hf
      refine E.iald hw 1 (t + 2) dX2_together_30 rfl rfl g2 ?_
      refine E.iload_n 2 dX2_together_31 rfl ?_
      refine E.ishr dX2_together_32 ?_
      refine E.iand dX2_together_33 ?_
      refine E.iconst (v := 1) dX2_together_34 (by decide) ?_
      refine E.iand dX2_together_35 ?_
      refine E.iconst (v := 1) dX2_together_36 (by decide) ?_
      refine E.icmp_ne dX2_together_37 (fun h => ?_) (fun h => ?_)
      · have hf := e_iff hf h
        refine E.iconst (v := 0) dX2_together_44 (by decide) ?_
        exact tX2_together_L45 hw ih hf
      · have hf := e_ift hf h
        refine E.iconst (v := 1) dX2_together_40 (by decide) ?_
        refine E.goto dX2_together_41 ?_
        exact tX2_together_L45 hw ih hf
def fX2_together (Fu : Nat) (vT0_cases : Int32) (aT2 : Nat → Int32) (aT3 : Nat → Int32) (x1 : Int32) (x2 : Int32) (x3 : Int32) : Option (Int32) := fX2_together_L6 Fu Fu vT0_cases aT2 aT3 x1 x2 x3 0 0
set_option maxHeartbeats 4000000 in
set_option maxRecDepth 100000 in
theorem tX2_together {G : GT} {b : Nat} {t : Nat} {c0 : Hp} {n : Nat} (hw : e_wf (kW68 t) n)  {Fu : Nat} {vT0_cases : Int32} {aT2 : Nat → Int32} {aT3 : Nat → Int32} {x1 : Int32} {x2 : Int32} {x3 : Int32} {R : Int32} (hf : fX2_together Fu vT0_cases aT2 aT3 x1 x2 x3 = some R) : E G b yX2_together cX2_together 8 (some .int) (e_rm 0 0 0) e_X0 (e_Z G b (pD (some (.int R)) (e_ov (kW68 t) (wW68 G b t vT0_cases aT2 aT3) c0) n) 0 0) 0 [(0, .ref (b + t)), (1, .int x1), (2, .int x2), (3, .int x3)] [] (e_ov (kW68 t) (wW68 G b t vT0_cases aT2 aT3) c0) n 0 0 := by
  unfold fX2_together at hf
  refine E.iconst (v := 0) dX2_together_0 (by decide) ?_
  refine E.istore (lv' := [(4, .int 0), (0, .ref (b + t)), (1, .int x1), (2, .int x2), (3, .int x3)]) dX2_together_1 (by decide) rfl ?_
  refine E.iconst (v := 0) dX2_together_3 (by decide) ?_
  refine E.istore (lv' := [(5, .int 0), (4, .int 0), (0, .ref (b + t)), (1, .int x1), (2, .int x2), (3, .int x3)]) dX2_together_4 (by decide) rfl ?_
  refine E.locals [2, 3, 4, 5, 1, 0] rfl ?_
  exact tX2_together_L6 hw _ hf
set_option maxRecDepth 100000 in
theorem mX2_together {G : GT} {b : Nat} {t : Nat} {c0 : Hp} {n : Nat} (hw : e_wf (kW68 t) n)  {Fu : Nat} {vT0_cases : Int32} {aT2 : Nat → Int32} {aT3 : Nat → Int32} {x1 : Int32} {x2 : Int32} {x3 : Int32} {R : Int32} (hf : fX2_together Fu vT0_cases aT2 aT3 x1 x2 x3 = some R) : e_C G b yX2_together cX2_together 8 (some .int) 0 0 0 [.ref (b + t), .int x1, .int x2, .int x3] (e_ov (kW68 t) (wW68 G b t vT0_cases aT2 aT3) c0) n (pD (some (.int R)) (e_ov (kW68 t) (wW68 G b t vT0_cases aT2 aT3) c0) n) := e_C.of (by decide) (Nat.le_of_ble_eq_true rfl) (tX2_together hw hf)
abbrev kW69 : List Nat := [0, 1, 6, 8, 9]
abbrev wW69 (G : GT) (b  : Nat) (v0_faultPlace : Int32) (v0_quashedRows : Int32) (v0_lastRefusal : Int32) (v1_beasts : Int32) (v1_meals : Int32) (v1_seats : Int32) (v1_laws : Int32) (v1_inForce : Int32) (v6_cases : Int32) (a8 : Nat → Int32) (a9 : Nat → Int32) : List va_E := [.inr (11, [.ref (b + 1), .ref (b + 10), .ref (b + 29), .ref (b + 30), .ref (b + 32), .ref (b + 37), .ref (b + 40), .ref (b + 42), .ref (b + 69), .ref (b + 73), .ref (b + 74), .ref (b + 76), .ref (b + 78), .int v0_faultPlace, .int v0_quashedRows, .int v0_lastRefusal]), .inr (10, [.ref (b + 2), .ref (b + 3), .ref (b + 4), .ref (b + 5), .ref (b + 6), .int v1_beasts, .int v1_meals, .int v1_seats, .int v1_laws, .int v1_inForce]), .inr (2, [.ref (b + 7), .ref (b + 8), .ref (b + 9), .int v6_cases]), aI G 20 a8, aI G 20 a9]
def fX11_agree_L60 (Fu : Nat) (v6_cases : Int32) (a8 : Nat → Int32) (a9 : Nat → Int32) (s0 : Int32) (s1 : Int32) (s2 : Int32) : Option (Int32) := (fX2_together Fu v6_cases a8 a9 s2 s1 s0).bind fun r2 => (some (r2))
set_option maxHeartbeats 4000000 in
set_option maxRecDepth 100000 in
theorem tX11_agree_L60 {G : GT} {b : Nat} {c0 : Hp} {n : Nat} (hw : e_wf (kW69) n) {v0_faultPlace : Int32} {v0_quashedRows : Int32} {v0_lastRefusal : Int32} {v1_beasts : Int32} {v1_meals : Int32} {v1_seats : Int32} {v1_laws : Int32} {v1_inForce : Int32} {Fu : Nat} {v6_cases : Int32} {a8 : Nat → Int32} {a9 : Nat → Int32} {s0 : Int32} {s1 : Int32} {s2 : Int32} {R : Int32} (hf : fX11_agree_L60 Fu v6_cases a8 a9 s0 s1 s2 = some R) : E G b yX11_agree cX11_agree 5 (some .int) (e_rm 1 0 0) e_X0 (e_Z G b (pD (some (.int R)) (e_ov (kW69) (wW69 G b v0_faultPlace v0_quashedRows v0_lastRefusal v1_beasts v1_meals v1_seats v1_laws v1_inForce v6_cases a8 a9) c0) n) 0 0) 60 [] [.int s0, .int s1, .int s2, .ref (b + 6)] (e_ov (kW69) (wW69 G b v0_faultPlace v0_quashedRows v0_lastRefusal v1_beasts v1_meals v1_seats v1_laws v1_inForce v6_cases a8 a9) c0) n 0 0 := by
  unfold fX11_agree_L60 at hf
  obtain ⟨r2, hc2, hf⟩ := e_bind hf
  refine E.callVDs (es' := (wW69 G b v0_faultPlace v0_quashedRows v0_lastRefusal v1_beasts v1_meals v1_seats v1_laws v1_inForce v6_cases a8 a9)) [] [2, 3, 4] 2 6 dX11_agree_60 mlX11_323 hw rfl rfl rfl rfl (mX2_together (hw.pick2 [2, 3, 4] rfl (by decide)) hc2) rfl rfl rfl rfl ⟨Nat.le_of_ble_eq_true rfl, Nat.le_of_ble_eq_true rfl⟩ rfl rfl (Nat.le_of_ble_eq_true rfl) ⟨Nat.le_refl _, Nat.le_refl _⟩ rfl ?_
  cases hf
  exact E.iret dX11_agree_63 (Nat.le_refl _) (Nat.le_refl _) (pD_rf _ _ _)
def fX11_agree_L25 (Fu : Nat) (v6_cases : Int32) (a8 : Nat → Int32) (a9 : Nat → Int32) (x1 : Int32) (x2 : Int32) (x3 : Int32) (s0 : Int32) : Option (Int32) := if (s0 : Int32) = (0 : Int32) then (some ((-1 : Int32))) else ((fX11_isEither x3).bind fun r1 => (if (r1 : Int32) = (0 : Int32) then (some ((-1 : Int32))) else (if (x3 : Int32) = (1 : Int32) then (fX11_agree_L60 Fu v6_cases a8 a9 1 x2 x1) else (fX11_agree_L60 Fu v6_cases a8 a9 0 x2 x1))))
set_option maxHeartbeats 4000000 in
set_option maxRecDepth 100000 in
theorem tX11_agree_L25 {G : GT} {b : Nat} {c0 : Hp} {n : Nat} (hw : e_wf (kW69) n) {v0_faultPlace : Int32} {v0_quashedRows : Int32} {v0_lastRefusal : Int32} {v1_beasts : Int32} {v1_meals : Int32} {v1_seats : Int32} {v1_laws : Int32} {v1_inForce : Int32} {Fu : Nat} {v6_cases : Int32} {a8 : Nat → Int32} {a9 : Nat → Int32} {x1 : Int32} {x2 : Int32} {x3 : Int32} {s0 : Int32} {R : Int32} (hf : fX11_agree_L25 Fu v6_cases a8 a9 x1 x2 x3 s0 = some R) : E G b yX11_agree cX11_agree 5 (some .int) (e_rm 1 0 0) e_X0 (e_Z G b (pD (some (.int R)) (e_ov (kW69) (wW69 G b v0_faultPlace v0_quashedRows v0_lastRefusal v1_beasts v1_meals v1_seats v1_laws v1_inForce v6_cases a8 a9) c0) n) 0 0) 25 [(0, .ref (b + 0)), (1, .int x1), (2, .int x2), (3, .int x3)] [.int s0] (e_ov (kW69) (wW69 G b v0_faultPlace v0_quashedRows v0_lastRefusal v1_beasts v1_meals v1_seats v1_laws v1_inForce v6_cases a8 a9) c0) n 0 0 := by
  unfold fX11_agree_L25 at hf
  refine E.istore (lv' := [(4, .int s0), (0, .ref (b + 0)), (1, .int x1), (2, .int x2), (3, .int x3)]) dX11_agree_25 (by decide) rfl ?_
  refine E.iload 0 dX11_agree_27 rfl ?_
  refine E.if_eq dX11_agree_29 (fun h => ?_) (fun h => ?_)
  · have hf := e_ift hf h
    refine E.iconst (v := -1) dX11_agree_39 (by decide) ?_
    cases hf
    exact E.iret dX11_agree_40 (Nat.le_refl _) (Nat.le_refl _) (pD_rf _ _ _)
  · have hf := e_iff hf h
    refine E.iload_n 4 dX11_agree_32 rfl ?_
    obtain ⟨r1, hc1, hf⟩ := e_bind hf
    refine E.callSD [] dX11_agree_33 mlX11_274 (mX11_isEither hc1) ⟨Nat.le_of_ble_eq_true rfl, Nat.le_of_ble_eq_true rfl⟩ rfl rfl (Nat.le_of_ble_eq_true rfl) ⟨Nat.le_refl _, Nat.le_refl _⟩ rfl ?_
    refine E.if_ne dX11_agree_36 (fun h => ?_) (fun h => ?_)
    · have hf := e_iff hf h
      refine E.aload_n 1 dX11_agree_41 rfl ?_
      refine E.get hw 0 0 dX11_agree_42 flX11_10 rfl rfl rfl rfl ?_
      refine E.getN hw 1 1 dX11_agree_45 fnX11_169 rfl rfl rfl rfl ?_
      refine E.iload_n 2 dX11_agree_48 rfl ?_
      refine E.iload_n 3 dX11_agree_49 rfl ?_
      refine E.iload_n 4 dX11_agree_50 rfl ?_
      refine E.iconst (v := 1) dX11_agree_51 (by decide) ?_
      refine E.icmp_ne dX11_agree_52 (fun h => ?_) (fun h => ?_)
      · have hf := e_iff hf h
        refine E.iconst (v := 0) dX11_agree_59 (by decide) ?_
        refine E.locals [] rfl ?_
        exact tX11_agree_L60 hw hf
      · have hf := e_ift hf h
        refine E.iconst (v := 1) dX11_agree_55 (by decide) ?_
        refine E.goto dX11_agree_56 ?_
        refine E.locals [] rfl ?_
        exact tX11_agree_L60 hw hf
    · have hf := e_ift hf h
      refine E.iconst (v := -1) dX11_agree_39 (by decide) ?_
      cases hf
      exact E.iret dX11_agree_40 (Nat.le_refl _) (Nat.le_refl _) (pD_rf _ _ _)
def fX11_agree_L24 (Fu : Nat) (v6_cases : Int32) (a8 : Nat → Int32) (a9 : Nat → Int32) (x1 : Int32) (x2 : Int32) (x3 : Int32) : Option (Int32) := fX11_agree_L25 Fu v6_cases a8 a9 x1 x2 x3 0
set_option maxHeartbeats 4000000 in
set_option maxRecDepth 100000 in
theorem tX11_agree_L24 {G : GT} {b : Nat} {c0 : Hp} {n : Nat} (hw : e_wf (kW69) n) {v0_faultPlace : Int32} {v0_quashedRows : Int32} {v0_lastRefusal : Int32} {v1_beasts : Int32} {v1_meals : Int32} {v1_seats : Int32} {v1_laws : Int32} {v1_inForce : Int32} {Fu : Nat} {v6_cases : Int32} {a8 : Nat → Int32} {a9 : Nat → Int32} {x1 : Int32} {x2 : Int32} {x3 : Int32} {R : Int32} (hf : fX11_agree_L24 Fu v6_cases a8 a9 x1 x2 x3 = some R) : E G b yX11_agree cX11_agree 5 (some .int) (e_rm 1 0 0) e_X0 (e_Z G b (pD (some (.int R)) (e_ov (kW69) (wW69 G b v0_faultPlace v0_quashedRows v0_lastRefusal v1_beasts v1_meals v1_seats v1_laws v1_inForce v6_cases a8 a9) c0) n) 0 0) 24 [(0, .ref (b + 0)), (1, .int x1), (2, .int x2), (3, .int x3)] [] (e_ov (kW69) (wW69 G b v0_faultPlace v0_quashedRows v0_lastRefusal v1_beasts v1_meals v1_seats v1_laws v1_inForce v6_cases a8 a9) c0) n 0 0 := by
  unfold fX11_agree_L24 at hf
  refine E.iconst (v := 0) dX11_agree_24 (by decide) ?_
  exact tX11_agree_L25 hw hf
def fX11_agree (Fu : Nat) (v6_cases : Int32) (a8 : Nat → Int32) (a9 : Nat → Int32) (x1 : Int32) (x2 : Int32) (x3 : Int32) : Option (Int32) := if (x1 : Int32) < (0 : Int32) then (fX11_agree_L24 Fu v6_cases a8 a9 x1 x2 x3) else (if (8 : Int32) ≤ (x1 : Int32) then (fX11_agree_L24 Fu v6_cases a8 a9 x1 x2 x3) else (if (x2 : Int32) < (0 : Int32) then (fX11_agree_L24 Fu v6_cases a8 a9 x1 x2 x3) else (if (8 : Int32) ≤ (x2 : Int32) then (fX11_agree_L24 Fu v6_cases a8 a9 x1 x2 x3) else (fX11_agree_L25 Fu v6_cases a8 a9 x1 x2 x3 1))))
set_option maxHeartbeats 4000000 in
set_option maxRecDepth 100000 in
theorem tX11_agree {G : GT} {b : Nat} {c0 : Hp} {n : Nat} (hw : e_wf (kW69) n) {v0_faultPlace : Int32} {v0_quashedRows : Int32} {v0_lastRefusal : Int32} {v1_beasts : Int32} {v1_meals : Int32} {v1_seats : Int32} {v1_laws : Int32} {v1_inForce : Int32} {Fu : Nat} {v6_cases : Int32} {a8 : Nat → Int32} {a9 : Nat → Int32} {x1 : Int32} {x2 : Int32} {x3 : Int32} {R : Int32} (hf : fX11_agree Fu v6_cases a8 a9 x1 x2 x3 = some R) : E G b yX11_agree cX11_agree 5 (some .int) (e_rm 1 0 0) e_X0 (e_Z G b (pD (some (.int R)) (e_ov (kW69) (wW69 G b v0_faultPlace v0_quashedRows v0_lastRefusal v1_beasts v1_meals v1_seats v1_laws v1_inForce v6_cases a8 a9) c0) n) 0 0) 0 [(0, .ref (b + 0)), (1, .int x1), (2, .int x2), (3, .int x3)] [] (e_ov (kW69) (wW69 G b v0_faultPlace v0_quashedRows v0_lastRefusal v1_beasts v1_meals v1_seats v1_laws v1_inForce v6_cases a8 a9) c0) n 0 0 := by
  unfold fX11_agree at hf
  refine E.iload_n 1 dX11_agree_0 rfl ?_
  refine E.if_lt dX11_agree_1 (fun h => ?_) (fun h => ?_)
  · have hf := e_ift hf h
    exact tX11_agree_L24 hw hf
  · have hf := e_iff hf h
    refine E.iload_n 1 dX11_agree_4 rfl ?_
    refine E.bipush (v := 8) dX11_agree_5 (by decide) ?_
    refine E.icmp_ge dX11_agree_7 (fun h => ?_) (fun h => ?_)
    · have hf := e_ift hf h
      exact tX11_agree_L24 hw hf
    · have hf := e_iff hf h
      refine E.iload_n 2 dX11_agree_10 rfl ?_
      refine E.if_lt dX11_agree_11 (fun h => ?_) (fun h => ?_)
      · have hf := e_ift hf h
        exact tX11_agree_L24 hw hf
      · have hf := e_iff hf h
        refine E.iload_n 2 dX11_agree_14 rfl ?_
        refine E.bipush (v := 8) dX11_agree_15 (by decide) ?_
        refine E.icmp_ge dX11_agree_17 (fun h => ?_) (fun h => ?_)
        · have hf := e_ift hf h
          exact tX11_agree_L24 hw hf
        · have hf := e_iff hf h
          refine E.iconst (v := 1) dX11_agree_20 (by decide) ?_
          refine E.goto dX11_agree_21 ?_
          exact tX11_agree_L25 hw hf
set_option maxRecDepth 100000 in
theorem mX11_agree {G : GT} {b : Nat} {c0 : Hp} {n : Nat} (hw : e_wf (kW69) n) {v0_faultPlace : Int32} {v0_quashedRows : Int32} {v0_lastRefusal : Int32} {v1_beasts : Int32} {v1_meals : Int32} {v1_seats : Int32} {v1_laws : Int32} {v1_inForce : Int32} {Fu : Nat} {v6_cases : Int32} {a8 : Nat → Int32} {a9 : Nat → Int32} {x1 : Int32} {x2 : Int32} {x3 : Int32} {R : Int32} (hf : fX11_agree Fu v6_cases a8 a9 x1 x2 x3 = some R) : e_C G b yX11_agree cX11_agree 5 (some .int) 1 0 0 [.ref (b + 0), .int x1, .int x2, .int x3] (e_ov (kW69) (wW69 G b v0_faultPlace v0_quashedRows v0_lastRefusal v1_beasts v1_meals v1_seats v1_laws v1_inForce v6_cases a8 a9) c0) n (pD (some (.int R)) (e_ov (kW69) (wW69 G b v0_faultPlace v0_quashedRows v0_lastRefusal v1_beasts v1_meals v1_seats v1_laws v1_inForce v6_cases a8 a9) c0) n) := e_C.of (by decide) (Nat.le_of_ble_eq_true rfl) (tX11_agree hw hf)
def fX3_commonDivisor_L9 (Fu : Nat) : Nat → Int64 → Int64 → Int32 → Option (Int64)
  | 0, _, _, _ => none
  | k + 1, x4, x6, x8 => if (1000 : Int32) ≤ (x8 : Int32) then (some (x4)) else (if (x6 : Int64) = (0 : Int64) then (some (x4)) else (gzl x6 ((fX3_commonDivisor_L9 Fu k) x6 (x4 - x4 / x6 * x6) (x8 + 1))))
set_option maxHeartbeats 4000000 in
set_option maxRecDepth 100000 in
theorem tX3_commonDivisor_L9 {G : GT} {b : Nat} {c : Hp} {n : Nat} {Fu : Nat} : ∀ (k : Nat) {x4 : Int64} {x6 : Int64} {x8 : Int32} {R : Int64}, fX3_commonDivisor_L9 Fu k x4 x6 x8 = some R → E G b yX3_commonDivisor cX3_commonDivisor 11 (some .long) (e_rm 0 0 0) e_X0 (e_Z G b (pD (some (.long R)) c n) 0 0) 9 [(4, .long x4), (6, .long x6), (8, .int x8)] [] c n 0 0 := by
  intro k
  induction k with
  | zero =>
    intro _ _ _ _ hf
    have hf : (none : Option (Int64)) = some _ := hf
    cases hf
  | succ k ih =>
    intro x4 x6 x8 R hf
    rw [fX3_commonDivisor_L9] at hf
    refine E.iload 2 dX3_commonDivisor_9 rfl ?_
    refine E.sipush (v := 1000) dX3_commonDivisor_11 (by decide) ?_
    refine E.icmp_ge dX3_commonDivisor_14 (fun h => ?_) (fun h => ?_)
    · have hf := e_ift hf h
      refine E.lload 0 dX3_commonDivisor_45 rfl ?_
      cases hf
      exact E.lret dX3_commonDivisor_47 (Nat.le_refl _) (Nat.le_refl _) (pD_rf _ _ _)
    · have hf := e_iff hf h
      refine E.lload 1 dX3_commonDivisor_17 rfl ?_
      refine E.lconst (v := 0) dX3_commonDivisor_19 (by decide) ?_
      refine E.lc_eq dX3_commonDivisor_20 dX3_commonDivisor_21 (fun h => ?_) (fun h => ?_)
      · have hf := e_ift hf h
        refine E.lload 0 dX3_commonDivisor_45 rfl ?_
        cases hf
        exact E.lret dX3_commonDivisor_47 (Nat.le_refl _) (Nat.le_refl _) (pD_rf _ _ _)
      · have hf := e_iff hf h
        refine E.lload 0 dX3_commonDivisor_24 rfl ?_
        refine E.lload 1 dX3_commonDivisor_26 rfl ?_
        obtain ⟨g1, hf⟩ := gzl_some hf
        refine E.lrem dX3_commonDivisor_28 g1 ?_
        refine E.lstore (lv' := [(9, .long (x4 - x4 / x6 * x6)), (4, .long x4), (6, .long x6), (8, .int x8)]) dX3_commonDivisor_29 (by decide) rfl ?_
        refine E.lload 2 dX3_commonDivisor_31 rfl ?_
        refine E.lstore (lv' := [(4, .long x6), (9, .long (x4 - x4 / x6 * x6)), (6, .long x6), (8, .int x8)]) dX3_commonDivisor_33 (by decide) rfl ?_
        refine E.lload 1 dX3_commonDivisor_35 rfl ?_
        refine E.lstore (lv' := [(6, .long (x4 - x4 / x6 * x6)), (4, .long x6), (9, .long (x4 - x4 / x6 * x6)), (8, .int x8)]) dX3_commonDivisor_37 (by decide) rfl ?_
        refine E.iinc (q := 3) (v := (x8 + 1)) (lv' := [(8, .int (x8 + 1)), (6, .long (x4 - x4 / x6 * x6)), (4, .long x6), (9, .long (x4 - x4 / x6 * x6))]) dX3_commonDivisor_39 rfl rfl (by decide) rfl ?_
        refine E.goto dX3_commonDivisor_42 ?_
        refine E.locals [2, 1, 0] rfl ?_
        exact ih hf
def fX3_commonDivisor (Fu : Nat) (x0 : Int64) (x2 : Int64) : Option (Int64) := fX3_commonDivisor_L9 Fu Fu x0 x2 0
set_option maxHeartbeats 4000000 in
set_option maxRecDepth 100000 in
theorem tX3_commonDivisor {G : GT} {b : Nat} {c : Hp} {n : Nat} {Fu : Nat} {x0 : Int64} {x2 : Int64} {R : Int64} (hf : fX3_commonDivisor Fu x0 x2 = some R) : E G b yX3_commonDivisor cX3_commonDivisor 11 (some .long) (e_rm 0 0 0) e_X0 (e_Z G b (pD (some (.long R)) c n) 0 0) 0 [(0, .long x0), (2, .long x2)] [] c n 0 0 := by
  unfold fX3_commonDivisor at hf
  refine E.lload_n 0 dX3_commonDivisor_0 rfl ?_
  refine E.lstore (lv' := [(4, .long x0), (0, .long x0), (2, .long x2)]) dX3_commonDivisor_1 (by decide) rfl ?_
  refine E.lload_n 2 dX3_commonDivisor_3 rfl ?_
  refine E.lstore (lv' := [(6, .long x2), (4, .long x0), (0, .long x0), (2, .long x2)]) dX3_commonDivisor_4 (by decide) rfl ?_
  refine E.iconst (v := 0) dX3_commonDivisor_6 (by decide) ?_
  refine E.istore (lv' := [(8, .int 0), (6, .long x2), (4, .long x0), (0, .long x0), (2, .long x2)]) dX3_commonDivisor_7 (by decide) rfl ?_
  refine E.locals [2, 1, 0] rfl ?_
  exact tX3_commonDivisor_L9 _ hf
set_option maxRecDepth 100000 in
theorem mX3_commonDivisor {G : GT} {b : Nat} {c : Hp} {n : Nat} {Fu : Nat} {x0 : Int64} {x2 : Int64} {R : Int64} (hf : fX3_commonDivisor Fu x0 x2 = some R) : e_C G b yX3_commonDivisor cX3_commonDivisor 11 (some .long) 0 0 0 [.long x0, .long x2] c n (pD (some (.long R)) c n) := e_C.of (by decide) (Nat.le_of_ble_eq_true rfl) (tX3_commonDivisor hf)
abbrev kW70 : List Nat := [1, 4, 6, 7, 8, 9, 73]
abbrev wW70 (G : GT) (b  : Nat) (v1_beasts : Int32) (v1_meals : Int32) (v1_seats : Int32) (v1_laws : Int32) (v1_inForce : Int32) (a4 : Nat → Int32) (v6_cases : Int32) (a7 : Nat → Int32) (a8 : Nat → Int32) (a9 : Nat → Int32) (v73_upper : Int64) (v73_lower : Int64) : List va_E := [.inr (10, [.ref (b + 2), .ref (b + 3), .ref (b + 4), .ref (b + 5), .ref (b + 6), .int v1_beasts, .int v1_meals, .int v1_seats, .int v1_laws, .int v1_inForce]), aI G 6 a4, .inr (2, [.ref (b + 7), .ref (b + 8), .ref (b + 9), .int v6_cases]), aI G 20 a7, aI G 20 a8, aI G 20 a9, .inr (3, [.long v73_upper, .long v73_lower])]
def fX3_weigh_L121 (Fu : Nat) (k20 : (Nat → Int32) → Int32 → (Nat → Int32) → (Nat → Int32) → (Nat → Int32) → Int64 → Int64 → Int32 → Int32 → Int32 → Int64 → Int64 → Int32 → Option (Int64 × Int64)) (a4 : Nat → Int32) (v6_cases : Int32) (a7 : Nat → Int32) (a8 : Nat → Int32) (a9 : Nat → Int32) (v73_upper : Int64) (v73_lower : Int64) (x2 : Int32) (x3 : Int32) (x4 : Int32) (x5 : Int64) (x9 : Int32) (s0 : Int64) (s1 : Int64) : Option (Int64 × Int64) := k20 a4 v6_cases a7 a8 a9 v73_upper v73_lower x2 x3 x4 x5 (s1 * s0) (x9 + 1)
set_option maxHeartbeats 4000000 in
set_option maxRecDepth 100000 in
theorem tX3_weigh_L121 {G : GT} {b : Nat} {c0 : Hp} {n : Nat} (hw : e_wf (kW70) n) {v1_beasts : Int32} {v1_meals : Int32} {v1_seats : Int32} {v1_laws : Int32} {v1_inForce : Int32} {Fu : Nat} {k20 : (Nat → Int32) → Int32 → (Nat → Int32) → (Nat → Int32) → (Nat → Int32) → Int64 → Int64 → Int32 → Int32 → Int32 → Int64 → Int64 → Int32 → Option (Int64 × Int64)} (hk20 : ∀ {a4 : Nat → Int32} {v6_cases : Int32} {a7 : Nat → Int32} {a8 : Nat → Int32} {a9 : Nat → Int32} {v73_upper : Int64} {v73_lower : Int64} {x2 : Int32} {x3 : Int32} {x4 : Int32} {x5 : Int64} {x7 : Int64} {x9 : Int32} {R : Int64 × Int64}, k20 a4 v6_cases a7 a8 a9 v73_upper v73_lower x2 x3 x4 x5 x7 x9 = some R → E G b yX3_weigh cX3_weigh 13 none (e_rm 2 0 0) e_X0 (e_Z G b (pD none (e_ov (kW70) (wW70 G b v1_beasts v1_meals v1_seats v1_laws v1_inForce a4 v6_cases a7 a8 a9 R.1 R.2) c0) n) 0 0) 20 [(0, .ref (b + 73)), (1, .ref (b + 1)), (2, .int x2), (3, .int x3), (4, .int x4), (5, .long x5), (7, .long x7), (9, .int x9)] [] (e_ov (kW70) (wW70 G b v1_beasts v1_meals v1_seats v1_laws v1_inForce a4 v6_cases a7 a8 a9 v73_upper v73_lower) c0) n 0 0) {a4 : Nat → Int32} {v6_cases : Int32} {a7 : Nat → Int32} {a8 : Nat → Int32} {a9 : Nat → Int32} {v73_upper : Int64} {v73_lower : Int64} {x2 : Int32} {x3 : Int32} {x4 : Int32} {x5 : Int64} {x9 : Int32} {s0 : Int64} {s1 : Int64} {R : Int64 × Int64} (hf : fX3_weigh_L121 Fu k20 a4 v6_cases a7 a8 a9 v73_upper v73_lower x2 x3 x4 x5 x9 s0 s1 = some R) : E G b yX3_weigh cX3_weigh 13 none (e_rm 2 0 0) e_X0 (e_Z G b (pD none (e_ov (kW70) (wW70 G b v1_beasts v1_meals v1_seats v1_laws v1_inForce a4 v6_cases a7 a8 a9 R.1 R.2) c0) n) 0 0) 121 [(0, .ref (b + 73)), (1, .ref (b + 1)), (2, .int x2), (3, .int x3), (4, .int x4), (5, .long x5), (9, .int x9)] [.long s0, .long s1] (e_ov (kW70) (wW70 G b v1_beasts v1_meals v1_seats v1_laws v1_inForce a4 v6_cases a7 a8 a9 v73_upper v73_lower) c0) n 0 0 := by
  unfold fX3_weigh_L121 at hf
  refine E.lmul dX3_weigh_121 ?_
  refine E.lstore (lv' := [(7, .long (s1 * s0)), (0, .ref (b + 73)), (1, .ref (b + 1)), (2, .int x2), (3, .int x3), (4, .int x4), (5, .long x5), (9, .int x9)]) dX3_weigh_122 (by decide) rfl ?_
  refine E.iinc (q := 7) (v := (x9 + 1)) (lv' := [(9, .int (x9 + 1)), (7, .long (s1 * s0)), (0, .ref (b + 73)), (1, .ref (b + 1)), (2, .int x2), (3, .int x3), (4, .int x4), (5, .long x5)]) dX3_weigh_124 rfl rfl (by decide) rfl ?_
  refine E.goto dX3_weigh_127 ?_
  refine E.locals [2, 3, 4, 5, 6, 7, 1, 0] rfl ?_
  exact hk20 hf
def fX3_weigh_L102 (Fu : Nat) (k20 : (Nat → Int32) → Int32 → (Nat → Int32) → (Nat → Int32) → (Nat → Int32) → Int64 → Int64 → Int32 → Int32 → Int32 → Int64 → Int64 → Int32 → Option (Int64 × Int64)) (a4 : Nat → Int32) (v6_cases : Int32) (a7 : Nat → Int32) (a8 : Nat → Int32) (a9 : Nat → Int32) (v73_upper : Int64) (v73_lower : Int64) (x2 : Int32) (x3 : Int32) (x4 : Int32) (x7 : Int64) (x9 : Int32) (x10 : Int32) (x11 : Int32) (x12 : Int32) (s0 : Int64) (s1 : Int64) : Option (Int64 × Int64) := if (x12 : Int32) = (0 : Int32) then (fX3_weigh_L121 Fu k20 a4 v6_cases a7 a8 a9 v73_upper v73_lower x2 x3 x4 (s1 * s0) x9 ((x10 : Int32).toInt64) x7) else (fX3_weigh_L121 Fu k20 a4 v6_cases a7 a8 a9 v73_upper v73_lower x2 x3 x4 (s1 * s0) x9 ((x11 : Int32).toInt64) x7)
set_option maxHeartbeats 4000000 in
set_option maxRecDepth 100000 in
theorem tX3_weigh_L102 {G : GT} {b : Nat} {c0 : Hp} {n : Nat} (hw : e_wf (kW70) n) {v1_beasts : Int32} {v1_meals : Int32} {v1_seats : Int32} {v1_laws : Int32} {v1_inForce : Int32} {Fu : Nat} {k20 : (Nat → Int32) → Int32 → (Nat → Int32) → (Nat → Int32) → (Nat → Int32) → Int64 → Int64 → Int32 → Int32 → Int32 → Int64 → Int64 → Int32 → Option (Int64 × Int64)} (hk20 : ∀ {a4 : Nat → Int32} {v6_cases : Int32} {a7 : Nat → Int32} {a8 : Nat → Int32} {a9 : Nat → Int32} {v73_upper : Int64} {v73_lower : Int64} {x2 : Int32} {x3 : Int32} {x4 : Int32} {x5 : Int64} {x7 : Int64} {x9 : Int32} {R : Int64 × Int64}, k20 a4 v6_cases a7 a8 a9 v73_upper v73_lower x2 x3 x4 x5 x7 x9 = some R → E G b yX3_weigh cX3_weigh 13 none (e_rm 2 0 0) e_X0 (e_Z G b (pD none (e_ov (kW70) (wW70 G b v1_beasts v1_meals v1_seats v1_laws v1_inForce a4 v6_cases a7 a8 a9 R.1 R.2) c0) n) 0 0) 20 [(0, .ref (b + 73)), (1, .ref (b + 1)), (2, .int x2), (3, .int x3), (4, .int x4), (5, .long x5), (7, .long x7), (9, .int x9)] [] (e_ov (kW70) (wW70 G b v1_beasts v1_meals v1_seats v1_laws v1_inForce a4 v6_cases a7 a8 a9 v73_upper v73_lower) c0) n 0 0) {a4 : Nat → Int32} {v6_cases : Int32} {a7 : Nat → Int32} {a8 : Nat → Int32} {a9 : Nat → Int32} {v73_upper : Int64} {v73_lower : Int64} {x2 : Int32} {x3 : Int32} {x4 : Int32} {x7 : Int64} {x9 : Int32} {x10 : Int32} {x11 : Int32} {x12 : Int32} {s0 : Int64} {s1 : Int64} {R : Int64 × Int64} (hf : fX3_weigh_L102 Fu k20 a4 v6_cases a7 a8 a9 v73_upper v73_lower x2 x3 x4 x7 x9 x10 x11 x12 s0 s1 = some R) : E G b yX3_weigh cX3_weigh 13 none (e_rm 2 0 0) e_X0 (e_Z G b (pD none (e_ov (kW70) (wW70 G b v1_beasts v1_meals v1_seats v1_laws v1_inForce a4 v6_cases a7 a8 a9 R.1 R.2) c0) n) 0 0) 102 [(0, .ref (b + 73)), (1, .ref (b + 1)), (2, .int x2), (3, .int x3), (4, .int x4), (7, .long x7), (9, .int x9), (10, .int x10), (11, .int x11), (12, .int x12)] [.long s0, .long s1] (e_ov (kW70) (wW70 G b v1_beasts v1_meals v1_seats v1_laws v1_inForce a4 v6_cases a7 a8 a9 v73_upper v73_lower) c0) n 0 0 := by
  unfold fX3_weigh_L102 at hf
  refine E.lmul dX3_weigh_102 ?_
  refine E.lstore (lv' := [(5, .long (s1 * s0)), (0, .ref (b + 73)), (1, .ref (b + 1)), (2, .int x2), (3, .int x3), (4, .int x4), (7, .long x7), (9, .int x9), (10, .int x10), (11, .int x11), (12, .int x12)]) dX3_weigh_103 (by decide) rfl ?_
  refine E.lload 6 dX3_weigh_105 rfl ?_
  refine E.iload 10 dX3_weigh_107 rfl ?_
  refine E.if_eq dX3_weigh_109 (fun h => ?_) (fun h => ?_)
  · have hf := e_ift hf h
    refine E.iload 8 dX3_weigh_118 rfl ?_
    refine E.i2l dX3_weigh_120 ?_
    refine E.locals [1, 2, 3, 4, 5, 0, 7] rfl ?_
    exact tX3_weigh_L121 hw hk20 hf
  · have hf := e_iff hf h
    refine E.iload 9 dX3_weigh_112 rfl ?_
    refine E.i2l dX3_weigh_114 ?_
    refine E.goto dX3_weigh_115 ?_
    refine E.locals [1, 2, 3, 4, 5, 0, 7] rfl ?_
    exact tX3_weigh_L121 hw hk20 hf
def fX3_weigh_L84 (Fu : Nat) (k20 : (Nat → Int32) → Int32 → (Nat → Int32) → (Nat → Int32) → (Nat → Int32) → Int64 → Int64 → Int32 → Int32 → Int32 → Int64 → Int64 → Int32 → Option (Int64 × Int64)) (a4 : Nat → Int32) (v6_cases : Int32) (a7 : Nat → Int32) (a8 : Nat → Int32) (a9 : Nat → Int32) (v73_upper : Int64) (v73_lower : Int64) (x2 : Int32) (x3 : Int32) (x4 : Int32) (x5 : Int64) (x7 : Int64) (x9 : Int32) (x10 : Int32) (x11 : Int32) (s0 : Int32) : Option (Int64 × Int64) := if (s0 : Int32) = (0 : Int32) then (fX3_weigh_L102 Fu k20 a4 v6_cases a7 a8 a9 v73_upper v73_lower x2 x3 x4 x7 x9 x10 x11 s0 ((x11 : Int32).toInt64) x5) else (fX3_weigh_L102 Fu k20 a4 v6_cases a7 a8 a9 v73_upper v73_lower x2 x3 x4 x7 x9 x10 x11 s0 ((x10 : Int32).toInt64) x5)
set_option maxHeartbeats 4000000 in
set_option maxRecDepth 100000 in
theorem tX3_weigh_L84 {G : GT} {b : Nat} {c0 : Hp} {n : Nat} (hw : e_wf (kW70) n) {v1_beasts : Int32} {v1_meals : Int32} {v1_seats : Int32} {v1_laws : Int32} {v1_inForce : Int32} {Fu : Nat} {k20 : (Nat → Int32) → Int32 → (Nat → Int32) → (Nat → Int32) → (Nat → Int32) → Int64 → Int64 → Int32 → Int32 → Int32 → Int64 → Int64 → Int32 → Option (Int64 × Int64)} (hk20 : ∀ {a4 : Nat → Int32} {v6_cases : Int32} {a7 : Nat → Int32} {a8 : Nat → Int32} {a9 : Nat → Int32} {v73_upper : Int64} {v73_lower : Int64} {x2 : Int32} {x3 : Int32} {x4 : Int32} {x5 : Int64} {x7 : Int64} {x9 : Int32} {R : Int64 × Int64}, k20 a4 v6_cases a7 a8 a9 v73_upper v73_lower x2 x3 x4 x5 x7 x9 = some R → E G b yX3_weigh cX3_weigh 13 none (e_rm 2 0 0) e_X0 (e_Z G b (pD none (e_ov (kW70) (wW70 G b v1_beasts v1_meals v1_seats v1_laws v1_inForce a4 v6_cases a7 a8 a9 R.1 R.2) c0) n) 0 0) 20 [(0, .ref (b + 73)), (1, .ref (b + 1)), (2, .int x2), (3, .int x3), (4, .int x4), (5, .long x5), (7, .long x7), (9, .int x9)] [] (e_ov (kW70) (wW70 G b v1_beasts v1_meals v1_seats v1_laws v1_inForce a4 v6_cases a7 a8 a9 v73_upper v73_lower) c0) n 0 0) {a4 : Nat → Int32} {v6_cases : Int32} {a7 : Nat → Int32} {a8 : Nat → Int32} {a9 : Nat → Int32} {v73_upper : Int64} {v73_lower : Int64} {x2 : Int32} {x3 : Int32} {x4 : Int32} {x5 : Int64} {x7 : Int64} {x9 : Int32} {x10 : Int32} {x11 : Int32} {s0 : Int32} {R : Int64 × Int64} (hf : fX3_weigh_L84 Fu k20 a4 v6_cases a7 a8 a9 v73_upper v73_lower x2 x3 x4 x5 x7 x9 x10 x11 s0 = some R) : E G b yX3_weigh cX3_weigh 13 none (e_rm 2 0 0) e_X0 (e_Z G b (pD none (e_ov (kW70) (wW70 G b v1_beasts v1_meals v1_seats v1_laws v1_inForce a4 v6_cases a7 a8 a9 R.1 R.2) c0) n) 0 0) 84 [(0, .ref (b + 73)), (1, .ref (b + 1)), (2, .int x2), (3, .int x3), (4, .int x4), (5, .long x5), (7, .long x7), (9, .int x9), (10, .int x10), (11, .int x11)] [.int s0] (e_ov (kW70) (wW70 G b v1_beasts v1_meals v1_seats v1_laws v1_inForce a4 v6_cases a7 a8 a9 v73_upper v73_lower) c0) n 0 0 := by
  unfold fX3_weigh_L84 at hf
  refine E.istore (lv' := [(12, .int s0), (0, .ref (b + 73)), (1, .ref (b + 1)), (2, .int x2), (3, .int x3), (4, .int x4), (5, .long x5), (7, .long x7), (9, .int x9), (10, .int x10), (11, .int x11)]) dX3_weigh_84 (by decide) rfl ?_
  refine E.lload 6 dX3_weigh_86 rfl ?_
  refine E.iload 0 dX3_weigh_88 rfl ?_
  refine E.if_eq dX3_weigh_90 (fun h => ?_) (fun h => ?_)
  · have hf := e_ift hf h
    refine E.iload 10 dX3_weigh_99 rfl ?_
    refine E.i2l dX3_weigh_101 ?_
    refine E.locals [1, 2, 3, 4, 5, 7, 8, 9, 10, 0] rfl ?_
    exact tX3_weigh_L102 hw hk20 hf
  · have hf := e_iff hf h
    refine E.iload 9 dX3_weigh_93 rfl ?_
    refine E.i2l dX3_weigh_95 ?_
    refine E.goto dX3_weigh_96 ?_
    refine E.locals [1, 2, 3, 4, 5, 7, 8, 9, 10, 0] rfl ?_
    exact tX3_weigh_L102 hw hk20 hf
def fX3_weigh_L20 (Fu : Nat) : Nat → (Nat → Int32) → Int32 → (Nat → Int32) → (Nat → Int32) → (Nat → Int32) → Int64 → Int64 → Int32 → Int32 → Int32 → Int64 → Int64 → Int32 → Option (Int64 × Int64)
  | 0, _, _, _, _, _, _, _, _, _, _, _, _, _ => none
  | k + 1, a4, v6_cases, a7, a8, a9, v73_upper, v73_lower, x2, x3, x4, x5, x7, x9 => if (8 : Int32) ≤ (x9 : Int32) then ((fX3_commonDivisor Fu x5 (x5 + x7)).bind fun r2 => (gzl (if (r2 : Int64) < 1 then 1 else r2) (gzl (if (r2 : Int64) < 1 then 1 else r2) (some ((x5 / (if (r2 : Int64) < 1 then 1 else r2)), ((x5 + x7) / (if (r2 : Int64) < 1 then 1 else r2))))))) else (if ((((x2 : Int32) >>> ((x9 : Int32) &&& 31)) &&& 1) : Int32) = (1 : Int32) then ((fX2_times Fu v6_cases a7 a8 a9 x9 0 x4).bind fun r5 => ((fX2_times Fu v6_cases a7 a8 a9 x9 1 x4).bind fun r6 => (if ((((x3 : Int32) >>> ((x9 : Int32) &&& 31)) &&& 1) : Int32) = (1 : Int32) then (fX3_weigh_L84 Fu (fX3_weigh_L20 Fu k) a4 v6_cases a7 a8 a9 v73_upper v73_lower x2 x3 x4 x5 x7 x9 (r5 + 1) (r6 + 1) 1) else (fX3_weigh_L84 Fu (fX3_weigh_L20 Fu k) a4 v6_cases a7 a8 a9 v73_upper v73_lower x2 x3 x4 x5 x7 x9 (r5 + 1) (r6 + 1) 0)))) else ((fX3_weigh_L20 Fu k) a4 v6_cases a7 a8 a9 v73_upper v73_lower x2 x3 x4 x5 x7 (x9 + 1)))
set_option maxHeartbeats 4000000 in
set_option maxRecDepth 100000 in
theorem tX3_weigh_L20 {G : GT} {b : Nat} {c0 : Hp} {n : Nat} (hw : e_wf (kW70) n) {v1_beasts : Int32} {v1_meals : Int32} {v1_seats : Int32} {v1_laws : Int32} {v1_inForce : Int32} {Fu : Nat} : ∀ (k : Nat) {a4 : Nat → Int32} {v6_cases : Int32} {a7 : Nat → Int32} {a8 : Nat → Int32} {a9 : Nat → Int32} {v73_upper : Int64} {v73_lower : Int64} {x2 : Int32} {x3 : Int32} {x4 : Int32} {x5 : Int64} {x7 : Int64} {x9 : Int32} {R : Int64 × Int64}, fX3_weigh_L20 Fu k a4 v6_cases a7 a8 a9 v73_upper v73_lower x2 x3 x4 x5 x7 x9 = some R → E G b yX3_weigh cX3_weigh 13 none (e_rm 2 0 0) e_X0 (e_Z G b (pD none (e_ov (kW70) (wW70 G b v1_beasts v1_meals v1_seats v1_laws v1_inForce a4 v6_cases a7 a8 a9 R.1 R.2) c0) n) 0 0) 20 [(0, .ref (b + 73)), (1, .ref (b + 1)), (2, .int x2), (3, .int x3), (4, .int x4), (5, .long x5), (7, .long x7), (9, .int x9)] [] (e_ov (kW70) (wW70 G b v1_beasts v1_meals v1_seats v1_laws v1_inForce a4 v6_cases a7 a8 a9 v73_upper v73_lower) c0) n 0 0 := by
  intro k
  induction k with
  | zero =>
    intro _ _ _ _ _ _ _ _ _ _ _ _ _ _ hf
    have hf : (none : Option (Int64 × Int64)) = some _ := hf
    cases hf
  | succ k ih =>
    intro a4 v6_cases a7 a8 a9 v73_upper v73_lower x2 x3 x4 x5 x7 x9 R hf
    rw [fX3_weigh_L20] at hf
    refine E.iload 7 dX3_weigh_20 rfl ?_
    refine E.bipush (v := 8) dX3_weigh_22 (by decide) ?_
    refine E.icmp_ge dX3_weigh_24 (fun h => ?_) (fun h => ?_)
    · have hf := e_ift hf h
      refine E.lconst (v := 1) dX3_weigh_130 (by decide) ?_
      refine E.lload 5 dX3_weigh_131 rfl ?_
      refine E.lload 5 dX3_weigh_133 rfl ?_
      refine E.lload 6 dX3_weigh_135 rfl ?_
      refine E.ladd dX3_weigh_137 ?_
      obtain ⟨r2, hc2, hf⟩ := e_bind hf
      refine E.callSD [.long 1] dX3_weigh_138 mlX3_33 (mX3_commonDivisor hc2) ⟨Nat.le_of_ble_eq_true rfl, Nat.le_of_ble_eq_true rfl⟩ rfl rfl (Nat.le_of_ble_eq_true rfl) ⟨Nat.le_refl _, Nat.le_refl _⟩ rfl ?_
      refine E.mmax_long dX3_weigh_141 mmX3_37 ⟨Nat.le_of_ble_eq_true rfl, Nat.le_of_ble_eq_true rfl⟩ ⟨Nat.le_refl _, Nat.le_refl _⟩ ?_
      refine E.lstore (lv' := [(9, .long (if (r2 : Int64) < 1 then 1 else r2)), (0, .ref (b + 73)), (1, .ref (b + 1)), (2, .int x2), (3, .int x3), (4, .int x4), (5, .long x5), (7, .long x7)]) dX3_weigh_144 (by decide) rfl ?_
      refine E.aload_n 1 dX3_weigh_146 rfl ?_
      refine E.lload 6 dX3_weigh_147 rfl ?_
      refine E.lload 0 dX3_weigh_149 rfl ?_
      obtain ⟨g3, hf⟩ := gzl_some hf
      refine E.ldiv dX3_weigh_151 g3 ?_
      refine E.put (es' := (wW70 G b v1_beasts v1_meals v1_seats v1_laws v1_inForce a4 v6_cases a7 a8 a9 (x5 / (if (r2 : Int64) < 1 then 1 else r2)) v73_lower)) hw 6 73 dX3_weigh_152 flX3_42 ftX3 rfl rfl rfl rfl rfl rfl (Nat.le_of_ble_eq_true rfl) rfl ?_
      refine E.aload_n 1 dX3_weigh_155 rfl ?_
      refine E.lload 6 dX3_weigh_156 rfl ?_
      refine E.lload 7 dX3_weigh_158 rfl ?_
      refine E.ladd dX3_weigh_160 ?_
      refine E.lload 0 dX3_weigh_161 rfl ?_
      obtain ⟨g4, hf⟩ := gzl_some hf
      refine E.ldiv dX3_weigh_163 g4 ?_
      refine E.put (es' := (wW70 G b v1_beasts v1_meals v1_seats v1_laws v1_inForce a4 v6_cases a7 a8 a9 (x5 / (if (r2 : Int64) < 1 then 1 else r2)) ((x5 + x7) / (if (r2 : Int64) < 1 then 1 else r2)))) hw 6 73 dX3_weigh_164 flX3_9 ftX3 rfl rfl rfl rfl rfl rfl (Nat.le_of_ble_eq_true rfl) rfl ?_
      cases hf
      exact E.vret dX3_weigh_167 (Nat.le_refl _) (Nat.le_refl _) (pD_rf _ _ _)
    · have hf := e_iff hf h
      refine E.iload_n 2 dX3_weigh_27 rfl ?_
      refine E.iload 7 dX3_weigh_28 rfl ?_
      refine E.ishr dX3_weigh_30 ?_
      refine E.iconst (v := 1) dX3_weigh_31 (by decide) ?_
      refine E.iand dX3_weigh_32 ?_
      refine E.iconst (v := 1) dX3_weigh_33 (by decide) ?_
      refine E.icmp_ne dX3_weigh_34 (fun h => ?_) (fun h => ?_)
      · have hf := e_iff hf h
        refine E.iinc (q := 7) (v := (x9 + 1)) (lv' := [(9, .int (x9 + 1)), (0, .ref (b + 73)), (1, .ref (b + 1)), (2, .int x2), (3, .int x3), (4, .int x4), (5, .long x5), (7, .long x7)]) dX3_weigh_124 rfl rfl (by decide) rfl ?_
        refine E.goto dX3_weigh_127 ?_
        refine E.locals [1, 2, 3, 4, 5, 6, 7, 0] rfl ?_
        exact ih hf
      · have hf := e_ift hf h
        refine E.aload_n 1 dX3_weigh_37 rfl ?_
        refine E.getN hw 0 1 dX3_weigh_38 fnX3_23 rfl rfl rfl rfl ?_
        refine E.iload 7 dX3_weigh_41 rfl ?_
        refine E.iconst (v := 0) dX3_weigh_43 (by decide) ?_
        refine E.iload 4 dX3_weigh_44 rfl ?_
        obtain ⟨r5, hc5, hf⟩ := e_bind hf
        refine E.callVDs (es' := (wW70 G b v1_beasts v1_meals v1_seats v1_laws v1_inForce a4 v6_cases a7 a8 a9 v73_upper v73_lower)) [] [2, 3, 4, 5] 2 6 dX3_weigh_46 mlX3_27 hw rfl rfl rfl rfl (mX2_times (hw.pick2 [2, 3, 4, 5] rfl (by decide)) hc5) rfl rfl rfl rfl ⟨Nat.le_of_ble_eq_true rfl, Nat.le_of_ble_eq_true rfl⟩ rfl rfl (Nat.le_of_ble_eq_true rfl) ⟨Nat.le_refl _, Nat.le_refl _⟩ rfl ?_
        refine E.iconst (v := 1) dX3_weigh_49 (by decide) ?_
        refine E.iadd dX3_weigh_50 ?_
        refine E.istore (lv' := [(10, .int (r5 + 1)), (0, .ref (b + 73)), (1, .ref (b + 1)), (2, .int x2), (3, .int x3), (4, .int x4), (5, .long x5), (7, .long x7), (9, .int x9)]) dX3_weigh_51 (by decide) rfl ?_
        refine E.aload_n 2 dX3_weigh_53 rfl ?_
        refine E.getN hw 0 1 dX3_weigh_54 fnX3_23 rfl rfl rfl rfl ?_
        refine E.iload 8 dX3_weigh_57 rfl ?_
        refine E.iconst (v := 1) dX3_weigh_59 (by decide) ?_
        refine E.iload 5 dX3_weigh_60 rfl ?_
        obtain ⟨r6, hc6, hf⟩ := e_bind hf
        refine E.callVDs (es' := (wW70 G b v1_beasts v1_meals v1_seats v1_laws v1_inForce a4 v6_cases a7 a8 a9 v73_upper v73_lower)) [] [2, 3, 4, 5] 2 6 dX3_weigh_62 mlX3_27 hw rfl rfl rfl rfl (mX2_times (hw.pick2 [2, 3, 4, 5] rfl (by decide)) hc6) rfl rfl rfl rfl ⟨Nat.le_of_ble_eq_true rfl, Nat.le_of_ble_eq_true rfl⟩ rfl rfl (Nat.le_of_ble_eq_true rfl) ⟨Nat.le_refl _, Nat.le_refl _⟩ rfl ?_
        refine E.iconst (v := 1) dX3_weigh_65 (by decide) ?_
        refine E.iadd dX3_weigh_66 ?_
        refine E.istore (lv' := [(11, .int (r6 + 1)), (10, .int (r5 + 1)), (0, .ref (b + 73)), (1, .ref (b + 1)), (2, .int x2), (3, .int x3), (4, .int x4), (5, .long x5), (7, .long x7), (9, .int x9)]) dX3_weigh_67 (by decide) rfl ?_
        refine E.iload_n 5 dX3_weigh_69 rfl ?_
        refine E.iload 9 dX3_weigh_70 rfl ?_
        refine E.ishr dX3_weigh_72 ?_
        refine E.iconst (v := 1) dX3_weigh_73 (by decide) ?_
        refine E.iand dX3_weigh_74 ?_
        refine E.iconst (v := 1) dX3_weigh_75 (by decide) ?_
        refine E.icmp_ne dX3_weigh_76 (fun h => ?_) (fun h => ?_)
        · have hf := e_iff hf h
          refine E.iconst (v := 0) dX3_weigh_83 (by decide) ?_
          refine E.locals [2, 3, 4, 5, 6, 7, 8, 9, 1, 0] rfl ?_
          exact tX3_weigh_L84 hw ih hf
        · have hf := e_ift hf h
          refine E.iconst (v := 1) dX3_weigh_79 (by decide) ?_
          refine E.goto dX3_weigh_80 ?_
          refine E.locals [2, 3, 4, 5, 6, 7, 8, 9, 1, 0] rfl ?_
          exact tX3_weigh_L84 hw ih hf
def fX3_weigh (Fu : Nat) (a4 : Nat → Int32) (v6_cases : Int32) (a7 : Nat → Int32) (a8 : Nat → Int32) (a9 : Nat → Int32) (v73_upper : Int64) (v73_lower : Int64) (x2 : Int32) (x3 : Int32) (x4 : Int32) : Option (Int64 × Int64) := gd 5 6 (fX3_weigh_L20 Fu Fu a4 v6_cases a7 a8 a9 v73_upper v73_lower x2 x3 x4 (((a4 (5 : Int32).toNatClampNeg) : Int32).toInt64) (100 - (((a4 (5 : Int32).toNatClampNeg) : Int32).toInt64)) 0)
set_option maxHeartbeats 4000000 in
set_option maxRecDepth 100000 in
theorem tX3_weigh {G : GT} {b : Nat} {c0 : Hp} {n : Nat} (hw : e_wf (kW70) n) {v1_beasts : Int32} {v1_meals : Int32} {v1_seats : Int32} {v1_laws : Int32} {v1_inForce : Int32} {Fu : Nat} {a4 : Nat → Int32} {v6_cases : Int32} {a7 : Nat → Int32} {a8 : Nat → Int32} {a9 : Nat → Int32} {v73_upper : Int64} {v73_lower : Int64} {x2 : Int32} {x3 : Int32} {x4 : Int32} {R : Int64 × Int64} (hf : fX3_weigh Fu a4 v6_cases a7 a8 a9 v73_upper v73_lower x2 x3 x4 = some R) : E G b yX3_weigh cX3_weigh 13 none (e_rm 2 0 0) e_X0 (e_Z G b (pD none (e_ov (kW70) (wW70 G b v1_beasts v1_meals v1_seats v1_laws v1_inForce a4 v6_cases a7 a8 a9 R.1 R.2) c0) n) 0 0) 0 [(0, .ref (b + 73)), (1, .ref (b + 1)), (2, .int x2), (3, .int x3), (4, .int x4)] [] (e_ov (kW70) (wW70 G b v1_beasts v1_meals v1_seats v1_laws v1_inForce a4 v6_cases a7 a8 a9 v73_upper v73_lower) c0) n 0 0 := by
  unfold fX3_weigh at hf
  refine E.aload_n 1 dX3_weigh_0 rfl ?_
  refine E.getN hw 0 1 dX3_weigh_1 fnX3_15 rfl rfl rfl rfl ?_
  refine E.iconst (v := 5) dX3_weigh_4 (by decide) ?_
  obtain ⟨g1, hf⟩ := gd_some hf
  refine E.iald hw 1 4 dX3_weigh_5 rfl rfl g1 ?_
  refine E.i2l dX3_weigh_6 ?_
  refine E.lstore (lv' := [(5, .long (((a4 (5 : Int32).toNatClampNeg) : Int32).toInt64)), (0, .ref (b + 73)), (1, .ref (b + 1)), (2, .int x2), (3, .int x3), (4, .int x4)]) dX3_weigh_7 (by decide) rfl ?_
  refine E.ldc2 dX3_weigh_9 kX3_21 ?_
  refine E.lload 0 dX3_weigh_12 rfl ?_
  refine E.lsub dX3_weigh_14 ?_
  refine E.lstore (lv' := [(7, .long (100 - (((a4 (5 : Int32).toNatClampNeg) : Int32).toInt64))), (5, .long (((a4 (5 : Int32).toNatClampNeg) : Int32).toInt64)), (0, .ref (b + 73)), (1, .ref (b + 1)), (2, .int x2), (3, .int x3), (4, .int x4)]) dX3_weigh_15 (by decide) rfl ?_
  refine E.iconst (v := 0) dX3_weigh_17 (by decide) ?_
  refine E.istore (lv' := [(9, .int 0), (7, .long (100 - (((a4 (5 : Int32).toNatClampNeg) : Int32).toInt64))), (5, .long (((a4 (5 : Int32).toNatClampNeg) : Int32).toInt64)), (0, .ref (b + 73)), (1, .ref (b + 1)), (2, .int x2), (3, .int x3), (4, .int x4)]) dX3_weigh_18 (by decide) rfl ?_
  refine E.locals [3, 4, 5, 6, 7, 2, 1, 0] rfl ?_
  exact tX3_weigh_L20 hw _ hf
set_option maxRecDepth 100000 in
theorem mX3_weigh {G : GT} {b : Nat} {c0 : Hp} {n : Nat} (hw : e_wf (kW70) n) {v1_beasts : Int32} {v1_meals : Int32} {v1_seats : Int32} {v1_laws : Int32} {v1_inForce : Int32} {Fu : Nat} {a4 : Nat → Int32} {v6_cases : Int32} {a7 : Nat → Int32} {a8 : Nat → Int32} {a9 : Nat → Int32} {v73_upper : Int64} {v73_lower : Int64} {x2 : Int32} {x3 : Int32} {x4 : Int32} {R : Int64 × Int64} (hf : fX3_weigh Fu a4 v6_cases a7 a8 a9 v73_upper v73_lower x2 x3 x4 = some R) : e_C G b yX3_weigh cX3_weigh 13 none 2 0 0 [.ref (b + 73), .ref (b + 1), .int x2, .int x3, .int x4] (e_ov (kW70) (wW70 G b v1_beasts v1_meals v1_seats v1_laws v1_inForce a4 v6_cases a7 a8 a9 v73_upper v73_lower) c0) n (pD none (e_ov (kW70) (wW70 G b v1_beasts v1_meals v1_seats v1_laws v1_inForce a4 v6_cases a7 a8 a9 R.1 R.2) c0) n) := e_C.of (by decide) (Nat.le_of_ble_eq_true rfl) (tX3_weigh hw hf)
abbrev kW71 : List Nat := [0, 1, 4, 6, 7, 8, 9, 73]
abbrev wW71 (G : GT) (b  : Nat) (v0_faultPlace : Int32) (v0_quashedRows : Int32) (v0_lastRefusal : Int32) (v1_beasts : Int32) (v1_meals : Int32) (v1_seats : Int32) (v1_laws : Int32) (v1_inForce : Int32) (a4 : Nat → Int32) (v6_cases : Int32) (a7 : Nat → Int32) (a8 : Nat → Int32) (a9 : Nat → Int32) (v73_upper : Int64) (v73_lower : Int64) : List va_E := [.inr (11, [.ref (b + 1), .ref (b + 10), .ref (b + 29), .ref (b + 30), .ref (b + 32), .ref (b + 37), .ref (b + 40), .ref (b + 42), .ref (b + 69), .ref (b + 73), .ref (b + 74), .ref (b + 76), .ref (b + 78), .int v0_faultPlace, .int v0_quashedRows, .int v0_lastRefusal]), .inr (10, [.ref (b + 2), .ref (b + 3), .ref (b + 4), .ref (b + 5), .ref (b + 6), .int v1_beasts, .int v1_meals, .int v1_seats, .int v1_laws, .int v1_inForce]), aI G 6 a4, .inr (2, [.ref (b + 7), .ref (b + 8), .ref (b + 9), .int v6_cases]), aI G 20 a7, aI G 20 a8, aI G 20 a9, .inr (3, [.long v73_upper, .long v73_lower])]
def fX11_again (Fu : Nat) (a4 : Nat → Int32) (v6_cases : Int32) (a7 : Nat → Int32) (a8 : Nat → Int32) (a9 : Nat → Int32) (v73_upper : Int64) (v73_lower : Int64) (x1 : Int32) (x2 : Int32) : Option (Int64 × Int64 × Int64) := if (x1 : Int32) < (0 : Int32) then (some ((-1 : Int64), v73_upper, v73_lower)) else (if (v6_cases : Int32) ≤ (x1 : Int32) then (some ((-1 : Int64), v73_upper, v73_lower)) else ((fX11_isEither x2).bind fun r1 => (if (r1 : Int32) = (0 : Int32) then (some ((-1 : Int64), v73_upper, v73_lower)) else (gd x1 20 (gd x1 20 ((fX3_weigh Fu a4 v6_cases a7 a8 a9 v73_upper v73_lower (a8 (x1 : Int32).toNatClampNeg) (a9 (x1 : Int32).toNatClampNeg) x1).bind fun r4 => (if (x2 : Int32) = (0 : Int32) then (some (r4.1, r4.1, r4.2)) else (some (r4.2, r4.1, r4.2)))))))))
set_option maxHeartbeats 4000000 in
set_option maxRecDepth 100000 in
theorem tX11_again {G : GT} {b : Nat} {c0 : Hp} {n : Nat} (hw : e_wf (kW71) n) {v0_faultPlace : Int32} {v0_quashedRows : Int32} {v0_lastRefusal : Int32} {v1_beasts : Int32} {v1_meals : Int32} {v1_seats : Int32} {v1_laws : Int32} {v1_inForce : Int32} {Fu : Nat} {a4 : Nat → Int32} {v6_cases : Int32} {a7 : Nat → Int32} {a8 : Nat → Int32} {a9 : Nat → Int32} {v73_upper : Int64} {v73_lower : Int64} {x1 : Int32} {x2 : Int32} {R : Int64 × Int64 × Int64} (hf : fX11_again Fu a4 v6_cases a7 a8 a9 v73_upper v73_lower x1 x2 = some R) : E G b yX11_again cX11_again 3 (some .long) (e_rm 3 0 0) e_X0 (e_Z G b (pD (some (.long R.1)) (e_ov (kW71) (wW71 G b v0_faultPlace v0_quashedRows v0_lastRefusal v1_beasts v1_meals v1_seats v1_laws v1_inForce a4 v6_cases a7 a8 a9 R.2.1 R.2.2) c0) n) 0 0) 0 [(0, .ref (b + 0)), (1, .int x1), (2, .int x2)] [] (e_ov (kW71) (wW71 G b v0_faultPlace v0_quashedRows v0_lastRefusal v1_beasts v1_meals v1_seats v1_laws v1_inForce a4 v6_cases a7 a8 a9 v73_upper v73_lower) c0) n 0 0 := by
  unfold fX11_again at hf
  refine E.iload_n 1 dX11_again_0 rfl ?_
  refine E.if_lt dX11_again_1 (fun h => ?_) (fun h => ?_)
  · have hf := e_ift hf h
    refine E.ldc2 dX11_again_25 kX11_210 ?_
    cases hf
    exact E.lret dX11_again_28 (Nat.le_refl _) (Nat.le_refl _) (pD_rf _ _ _)
  · have hf := e_iff hf h
    refine E.iload_n 1 dX11_again_4 rfl ?_
    refine E.aload_n 0 dX11_again_5 rfl ?_
    refine E.get hw 0 0 dX11_again_6 flX11_10 rfl rfl rfl rfl ?_
    refine E.getN hw 1 1 dX11_again_9 fnX11_169 rfl rfl rfl rfl ?_
    refine E.getN hw 3 6 dX11_again_12 fnX11_173 rfl rfl rfl rfl ?_
    refine E.icmp_ge dX11_again_15 (fun h => ?_) (fun h => ?_)
    · have hf := e_ift hf h
      refine E.ldc2 dX11_again_25 kX11_210 ?_
      cases hf
      exact E.lret dX11_again_28 (Nat.le_refl _) (Nat.le_refl _) (pD_rf _ _ _)
    · have hf := e_iff hf h
      refine E.iload_n 2 dX11_again_18 rfl ?_
      obtain ⟨r1, hc1, hf⟩ := e_bind hf
      refine E.callSD [] dX11_again_19 mlX11_274 (mX11_isEither hc1) ⟨Nat.le_of_ble_eq_true rfl, Nat.le_of_ble_eq_true rfl⟩ rfl rfl (Nat.le_of_ble_eq_true rfl) ⟨Nat.le_refl _, Nat.le_refl _⟩ rfl ?_
      refine E.if_ne dX11_again_22 (fun h => ?_) (fun h => ?_)
      · have hf := e_iff hf h
        refine E.aload_n 0 dX11_again_29 rfl ?_
        refine E.get hw 0 0 dX11_again_30 flX11_71 rfl rfl rfl rfl ?_
        refine E.aload_n 0 dX11_again_33 rfl ?_
        refine E.get hw 0 0 dX11_again_34 flX11_10 rfl rfl rfl rfl ?_
        refine E.aload_n 0 dX11_again_37 rfl ?_
        refine E.get hw 0 0 dX11_again_38 flX11_10 rfl rfl rfl rfl ?_
        refine E.getN hw 1 1 dX11_again_41 fnX11_169 rfl rfl rfl rfl ?_
        refine E.getN hw 3 6 dX11_again_44 fnX11_327 rfl rfl rfl rfl ?_
        refine E.iload_n 1 dX11_again_47 rfl ?_
        obtain ⟨g2, hf⟩ := gd_some hf
        refine E.iald hw 5 8 dX11_again_48 rfl rfl g2 ?_
        refine E.aload_n 0 dX11_again_49 rfl ?_
        refine E.get hw 0 0 dX11_again_50 flX11_10 rfl rfl rfl rfl ?_
        refine E.getN hw 1 1 dX11_again_53 fnX11_169 rfl rfl rfl rfl ?_
        refine E.getN hw 3 6 dX11_again_56 fnX11_330 rfl rfl rfl rfl ?_
        refine E.iload_n 1 dX11_again_59 rfl ?_
        obtain ⟨g3, hf⟩ := gd_some hf
        refine E.iald hw 6 9 dX11_again_60 rfl rfl g3 ?_
        refine E.iload_n 1 dX11_again_61 rfl ?_
        obtain ⟨r4, hc4, hf⟩ := e_bind hf
        refine E.callVDs (es' := (wW71 G b v0_faultPlace v0_quashedRows v0_lastRefusal v1_beasts v1_meals v1_seats v1_laws v1_inForce a4 v6_cases a7 a8 a9 r4.1 r4.2)) [] [1, 2, 3, 4, 5, 6, 7] 7 73 dX11_again_62 mlX11_333 hw rfl rfl rfl rfl (mX3_weigh (hw.pick2 [1, 2, 3, 4, 5, 6, 7] rfl (by decide)) hc4) rfl rfl rfl rfl ⟨Nat.le_of_ble_eq_true rfl, Nat.le_of_ble_eq_true rfl⟩ rfl rfl (Nat.le_of_ble_eq_true rfl) ⟨Nat.le_refl _, Nat.le_refl _⟩ rfl ?_
        refine E.iload_n 2 dX11_again_65 rfl ?_
        refine E.if_ne dX11_again_66 (fun h => ?_) (fun h => ?_)
        · have hf := e_iff hf h
          refine E.aload_n 0 dX11_again_79 rfl ?_
          refine E.get hw 0 0 dX11_again_80 flX11_71 rfl rfl rfl rfl ?_
          refine E.getN hw 7 73 dX11_again_83 fnX11_340 rfl rfl rfl rfl ?_
          cases hf
          exact E.lret dX11_again_86 (Nat.le_refl _) (Nat.le_refl _) (pD_rf _ _ _)
        · have hf := e_ift hf h
          refine E.aload_n 0 dX11_again_69 rfl ?_
          refine E.get hw 0 0 dX11_again_70 flX11_71 rfl rfl rfl rfl ?_
          refine E.getN hw 7 73 dX11_again_73 fnX11_337 rfl rfl rfl rfl ?_
          refine E.goto dX11_again_76 ?_
          cases hf
          exact E.lret dX11_again_86 (Nat.le_refl _) (Nat.le_refl _) (pD_rf _ _ _)
      · have hf := e_ift hf h
        refine E.ldc2 dX11_again_25 kX11_210 ?_
        cases hf
        exact E.lret dX11_again_28 (Nat.le_refl _) (Nat.le_refl _) (pD_rf _ _ _)
set_option maxRecDepth 100000 in
theorem mX11_again {G : GT} {b : Nat} {c0 : Hp} {n : Nat} (hw : e_wf (kW71) n) {v0_faultPlace : Int32} {v0_quashedRows : Int32} {v0_lastRefusal : Int32} {v1_beasts : Int32} {v1_meals : Int32} {v1_seats : Int32} {v1_laws : Int32} {v1_inForce : Int32} {Fu : Nat} {a4 : Nat → Int32} {v6_cases : Int32} {a7 : Nat → Int32} {a8 : Nat → Int32} {a9 : Nat → Int32} {v73_upper : Int64} {v73_lower : Int64} {x1 : Int32} {x2 : Int32} {R : Int64 × Int64 × Int64} (hf : fX11_again Fu a4 v6_cases a7 a8 a9 v73_upper v73_lower x1 x2 = some R) : e_C G b yX11_again cX11_again 3 (some .long) 3 0 0 [.ref (b + 0), .int x1, .int x2] (e_ov (kW71) (wW71 G b v0_faultPlace v0_quashedRows v0_lastRefusal v1_beasts v1_meals v1_seats v1_laws v1_inForce a4 v6_cases a7 a8 a9 v73_upper v73_lower) c0) n (pD (some (.long R.1)) (e_ov (kW71) (wW71 G b v0_faultPlace v0_quashedRows v0_lastRefusal v1_beasts v1_meals v1_seats v1_laws v1_inForce a4 v6_cases a7 a8 a9 R.2.1 R.2.2) c0) n) := e_C.of (by decide) (Nat.le_of_ble_eq_true rfl) (tX11_again hw hf)
def fX2_isAhead_L79 (Fu : Nat) (vT0_cases : Int32) (aT1 : Nat → Int32) (aT2 : Nat → Int32) (aT3 : Nat → Int32) : Option (Int32) := some (0)
set_option maxHeartbeats 4000000 in
set_option maxRecDepth 100000 in
theorem tX2_isAhead_L79 {G : GT} {b : Nat} {t : Nat} {c0 : Hp} {n : Nat} (hw : e_wf (kW20 t) n)  {Fu : Nat} {vT0_cases : Int32} {aT1 : Nat → Int32} {aT2 : Nat → Int32} {aT3 : Nat → Int32} {R : Int32} (hf : fX2_isAhead_L79 Fu vT0_cases aT1 aT2 aT3 = some R) : E G b yX2_isAhead cX2_isAhead 8 (some .boolean) (e_rm 2 0 0) e_X0 (e_Z G b (pD (some (.int R)) (e_ov (kW20 t) (wW20 G b t vT0_cases aT1 aT2 aT3) c0) n) 0 0) 79 [] [] (e_ov (kW20 t) (wW20 G b t vT0_cases aT1 aT2 aT3) c0) n 0 0 := by
  unfold fX2_isAhead_L79 at hf
  refine E.iconst (v := 0) dX2_isAhead_79 (by decide) ?_
  cases hf
  exact E.zret dX2_isAhead_80 rfl (Nat.le_refl _) (Nat.le_refl _) (pD_rf _ _ _)
def fX2_isAhead (Fu : Nat) (vT0_cases : Int32) (aT1 : Nat → Int32) (aT2 : Nat → Int32) (aT3 : Nat → Int32) (x1 : Int32) (x2 : Int32) : Option (Int32) := (fX2_times Fu vT0_cases aT1 aT2 aT3 x1 0 (-1 : Int32)).bind fun r1 => ((fX2_times Fu vT0_cases aT1 aT2 aT3 x2 0 (-1 : Int32)).bind fun r2 => ((fX2_times Fu vT0_cases aT1 aT2 aT3 x1 1 (-1 : Int32)).bind fun r3 => ((fX2_times Fu vT0_cases aT1 aT2 aT3 x2 1 (-1 : Int32)).bind fun r4 => (if (0 : Int32) < ((((r1 + 1) * (((r2 + 1) + r4) + 1)) - ((r2 + 1) * (((r1 + 1) + r3) + 1))) : Int32) then (some (1)) else (if ((((r1 + 1) * (((r2 + 1) + r4) + 1)) - ((r2 + 1) * (((r1 + 1) + r3) + 1))) : Int32) = (0 : Int32) then (if (x2 : Int32) ≤ (x1 : Int32) then (fX2_isAhead_L79 Fu vT0_cases aT1 aT2 aT3) else (some (1))) else (fX2_isAhead_L79 Fu vT0_cases aT1 aT2 aT3))))))
set_option maxHeartbeats 4000000 in
set_option maxRecDepth 100000 in
theorem tX2_isAhead {G : GT} {b : Nat} {t : Nat} {c0 : Hp} {n : Nat} (hw : e_wf (kW20 t) n)  {Fu : Nat} {vT0_cases : Int32} {aT1 : Nat → Int32} {aT2 : Nat → Int32} {aT3 : Nat → Int32} {x1 : Int32} {x2 : Int32} {R : Int32} (hf : fX2_isAhead Fu vT0_cases aT1 aT2 aT3 x1 x2 = some R) : E G b yX2_isAhead cX2_isAhead 8 (some .boolean) (e_rm 2 0 0) e_X0 (e_Z G b (pD (some (.int R)) (e_ov (kW20 t) (wW20 G b t vT0_cases aT1 aT2 aT3) c0) n) 0 0) 0 [(0, .ref (b + t)), (1, .int x1), (2, .int x2)] [] (e_ov (kW20 t) (wW20 G b t vT0_cases aT1 aT2 aT3) c0) n 0 0 := by
  unfold fX2_isAhead at hf
  refine E.aload_n 0 dX2_isAhead_0 rfl ?_
  refine E.iload_n 1 dX2_isAhead_1 rfl ?_
  refine E.iconst (v := 0) dX2_isAhead_2 (by decide) ?_
  refine E.iconst (v := -1) dX2_isAhead_3 (by decide) ?_
  obtain ⟨r1, hc1, hf⟩ := e_bind hf
  refine E.callVD [] dX2_isAhead_4 mlX2_40 ⟨hw.sub (p := 0) rfl, e_ov_get hw.1 (p := 0) rfl rfl⟩ rfl rfl (mX2_times hw hc1) ⟨Nat.le_of_ble_eq_true rfl, Nat.le_of_ble_eq_true rfl⟩ rfl rfl (Nat.le_of_ble_eq_true rfl) ⟨Nat.le_refl _, Nat.le_refl _⟩ rfl ?_
  refine E.iconst (v := 1) dX2_isAhead_7 (by decide) ?_
  refine E.iadd dX2_isAhead_8 ?_
  refine E.istore_n (lv' := [(3, .int (r1 + 1)), (0, .ref (b + t)), (1, .int x1), (2, .int x2)]) dX2_isAhead_9 (by decide) rfl ?_
  refine E.aload_n 1 dX2_isAhead_10 rfl ?_
  refine E.iload_n 3 dX2_isAhead_11 rfl ?_
  refine E.iconst (v := 0) dX2_isAhead_12 (by decide) ?_
  refine E.iconst (v := -1) dX2_isAhead_13 (by decide) ?_
  obtain ⟨r2, hc2, hf⟩ := e_bind hf
  refine E.callVD [] dX2_isAhead_14 mlX2_40 ⟨hw.sub (p := 0) rfl, e_ov_get hw.1 (p := 0) rfl rfl⟩ rfl rfl (mX2_times hw hc2) ⟨Nat.le_of_ble_eq_true rfl, Nat.le_of_ble_eq_true rfl⟩ rfl rfl (Nat.le_of_ble_eq_true rfl) ⟨Nat.le_refl _, Nat.le_refl _⟩ rfl ?_
  refine E.iconst (v := 1) dX2_isAhead_17 (by decide) ?_
  refine E.iadd dX2_isAhead_18 ?_
  refine E.istore (lv' := [(4, .int (r2 + 1)), (3, .int (r1 + 1)), (0, .ref (b + t)), (1, .int x1), (2, .int x2)]) dX2_isAhead_19 (by decide) rfl ?_
  refine E.iload_n 1 dX2_isAhead_21 rfl ?_
  refine E.aload_n 2 dX2_isAhead_22 rfl ?_
  refine E.iload_n 3 dX2_isAhead_23 rfl ?_
  refine E.iconst (v := 1) dX2_isAhead_24 (by decide) ?_
  refine E.iconst (v := -1) dX2_isAhead_25 (by decide) ?_
  obtain ⟨r3, hc3, hf⟩ := e_bind hf
  refine E.callVD [.int (r1 + 1)] dX2_isAhead_26 mlX2_40 ⟨hw.sub (p := 0) rfl, e_ov_get hw.1 (p := 0) rfl rfl⟩ rfl rfl (mX2_times hw hc3) ⟨Nat.le_of_ble_eq_true rfl, Nat.le_of_ble_eq_true rfl⟩ rfl rfl (Nat.le_of_ble_eq_true rfl) ⟨Nat.le_refl _, Nat.le_refl _⟩ rfl ?_
  refine E.iadd dX2_isAhead_29 ?_
  refine E.iconst (v := 1) dX2_isAhead_30 (by decide) ?_
  refine E.iadd dX2_isAhead_31 ?_
  refine E.istore (lv' := [(5, .int (((r1 + 1) + r3) + 1)), (4, .int (r2 + 1)), (3, .int (r1 + 1)), (0, .ref (b + t)), (1, .int x1), (2, .int x2)]) dX2_isAhead_32 (by decide) rfl ?_
  refine E.iload 1 dX2_isAhead_34 rfl ?_
  refine E.aload_n 3 dX2_isAhead_36 rfl ?_
  refine E.iload_n 5 dX2_isAhead_37 rfl ?_
  refine E.iconst (v := 1) dX2_isAhead_38 (by decide) ?_
  refine E.iconst (v := -1) dX2_isAhead_39 (by decide) ?_
  obtain ⟨r4, hc4, hf⟩ := e_bind hf
  refine E.callVD [.int (r2 + 1)] dX2_isAhead_40 mlX2_40 ⟨hw.sub (p := 0) rfl, e_ov_get hw.1 (p := 0) rfl rfl⟩ rfl rfl (mX2_times hw hc4) ⟨Nat.le_of_ble_eq_true rfl, Nat.le_of_ble_eq_true rfl⟩ rfl rfl (Nat.le_of_ble_eq_true rfl) ⟨Nat.le_refl _, Nat.le_refl _⟩ rfl ?_
  refine E.iadd dX2_isAhead_43 ?_
  refine E.iconst (v := 1) dX2_isAhead_44 (by decide) ?_
  refine E.iadd dX2_isAhead_45 ?_
  refine E.istore (lv' := [(6, .int (((r2 + 1) + r4) + 1)), (5, .int (((r1 + 1) + r3) + 1)), (4, .int (r2 + 1)), (3, .int (r1 + 1)), (0, .ref (b + t)), (1, .int x1), (2, .int x2)]) dX2_isAhead_46 (by decide) rfl ?_
  refine E.iload_n 3 dX2_isAhead_48 rfl ?_
  refine E.iload 0 dX2_isAhead_49 rfl ?_
  refine E.imul dX2_isAhead_51 ?_
  refine E.iload 2 dX2_isAhead_52 rfl ?_
  refine E.iload 1 dX2_isAhead_54 rfl ?_
  refine E.imul dX2_isAhead_56 ?_
  refine E.isub dX2_isAhead_57 ?_
  refine E.istore (lv' := [(7, .int (((r1 + 1) * (((r2 + 1) + r4) + 1)) - ((r2 + 1) * (((r1 + 1) + r3) + 1)))), (6, .int (((r2 + 1) + r4) + 1)), (5, .int (((r1 + 1) + r3) + 1)), (4, .int (r2 + 1)), (3, .int (r1 + 1)), (0, .ref (b + t)), (1, .int x1), (2, .int x2)]) dX2_isAhead_58 (by decide) rfl ?_
  refine E.iload 0 dX2_isAhead_60 rfl ?_
  refine E.if_gt dX2_isAhead_62 (fun h => ?_) (fun h => ?_)
  · have hf := e_ift hf h
    refine E.iconst (v := 1) dX2_isAhead_75 (by decide) ?_
    refine E.goto dX2_isAhead_76 ?_
    cases hf
    exact E.zret dX2_isAhead_80 rfl (Nat.le_refl _) (Nat.le_refl _) (pD_rf _ _ _)
  · have hf := e_iff hf h
    refine E.iload 0 dX2_isAhead_65 rfl ?_
    refine E.if_ne dX2_isAhead_67 (fun h => ?_) (fun h => ?_)
    · have hf := e_iff hf h
      refine E.locals [] rfl ?_
      exact tX2_isAhead_L79 hw hf
    · have hf := e_ift hf h
      refine E.iload_n 6 dX2_isAhead_70 rfl ?_
      refine E.iload_n 7 dX2_isAhead_71 rfl ?_
      refine E.icmp_ge dX2_isAhead_72 (fun h => ?_) (fun h => ?_)
      · have hf := e_ift hf h
        refine E.locals [] rfl ?_
        exact tX2_isAhead_L79 hw hf
      · have hf := e_iff hf h
        refine E.iconst (v := 1) dX2_isAhead_75 (by decide) ?_
        refine E.goto dX2_isAhead_76 ?_
        cases hf
        exact E.zret dX2_isAhead_80 rfl (Nat.le_refl _) (Nat.le_refl _) (pD_rf _ _ _)
set_option maxRecDepth 100000 in
theorem mX2_isAhead {G : GT} {b : Nat} {t : Nat} {c0 : Hp} {n : Nat} (hw : e_wf (kW20 t) n)  {Fu : Nat} {vT0_cases : Int32} {aT1 : Nat → Int32} {aT2 : Nat → Int32} {aT3 : Nat → Int32} {x1 : Int32} {x2 : Int32} {R : Int32} (hf : fX2_isAhead Fu vT0_cases aT1 aT2 aT3 x1 x2 = some R) : e_C G b yX2_isAhead cX2_isAhead 8 (some .boolean) 2 0 0 [.ref (b + t), .int x1, .int x2] (e_ov (kW20 t) (wW20 G b t vT0_cases aT1 aT2 aT3) c0) n (pD (some (.int R)) (e_ov (kW20 t) (wW20 G b t vT0_cases aT1 aT2 aT3) c0) n) := e_C.of (by decide) (Nat.le_of_ble_eq_true rfl) (tX2_isAhead hw hf)
