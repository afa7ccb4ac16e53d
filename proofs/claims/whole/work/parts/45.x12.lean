abbrev kW19 (t u : Nat) : List Nat := [t, (t + 1), (t + 2), (t + 3), u, (u + 1), (u + 2), (u + 3)]
abbrev wW19 (G : GT) (b t u : Nat) (vT0_cases : Int32) (aT1 : Nat → Int32) (aT2 : Nat → Int32) (aT3 : Nat → Int32) (vU0_cases : Int32) (aU1 : Nat → Int32) (aU2 : Nat → Int32) (aU3 : Nat → Int32) : List va_E := [.inr (2, [.ref (b + (t + 1)), .ref (b + (t + 2)), .ref (b + (t + 3)), .int vT0_cases]), aI G 20 aT1, aI G 20 aT2, aI G 20 aT3, .inr (2, [.ref (b + (u + 1)), .ref (b + (u + 2)), .ref (b + (u + 3)), .int vU0_cases]), aI G 20 aU1, aI G 20 aU2, aI G 20 aU3]
def fX2_become (vT0_cases : Int32) (aT1 : Nat → Int32) (aT2 : Nat → Int32) (aT3 : Nat → Int32) (vU0_cases : Int32) (aU1 : Nat → Int32) (aU2 : Nat → Int32) (aU3 : Nat → Int32) : Option (Int32 × (Nat → Int32) × (Nat → Int32) × (Nat → Int32)) := some (vU0_cases, (va_cpy aU1 aT1 0 0 20), (va_cpy aU2 aT2 0 0 20), (va_cpy aU3 aT3 0 0 20))
set_option maxHeartbeats 4000000 in
set_option maxRecDepth 100000 in
theorem tX2_become {G : GT} {b : Nat} {t u : Nat} {c0 : Hp} {n : Nat} (hw : e_wf (kW19 t u) n)  {vT0_cases : Int32} {aT1 : Nat → Int32} {aT2 : Nat → Int32} {aT3 : Nat → Int32} {vU0_cases : Int32} {aU1 : Nat → Int32} {aU2 : Nat → Int32} {aU3 : Nat → Int32} {R : Int32 × (Nat → Int32) × (Nat → Int32) × (Nat → Int32)} (hf : fX2_become vT0_cases aT1 aT2 aT3 vU0_cases aU1 aU2 aU3 = some R) : E G b yX2_become cX2_become 2 none (e_rm 1 0 0) e_X0 (e_Z G b (pD none (e_ov (kW19 t u) (wW19 G b t u R.1 R.2.1 R.2.2.1 R.2.2.2 vU0_cases aU1 aU2 aU3) c0) n) 0 0) 0 [(0, .ref (b + t)), (1, .ref (b + u))] [] (e_ov (kW19 t u) (wW19 G b t u vT0_cases aT1 aT2 aT3 vU0_cases aU1 aU2 aU3) c0) n 0 0 := by
  unfold fX2_become at hf
  refine E.aload_n 1 dX2_become_0 rfl ?_
  refine E.get hw 4 u dX2_become_1 flX2_9 rfl rfl rfl rfl ?_
  refine E.iconst (v := 0) dX2_become_4 (by decide) ?_
  refine E.aload_n 0 dX2_become_5 rfl ?_
  refine E.get hw 0 t dX2_become_6 flX2_9 rfl rfl rfl rfl ?_
  refine E.iconst (v := 0) dX2_become_9 (by decide) ?_
  refine E.bipush (v := 20) dX2_become_10 (by decide) ?_
  refine E.copyI (es' := (wW19 G b t u vT0_cases (va_cpy aU1 aT1 0 0 20) aT2 aT3 vU0_cases aU1 aU2 aU3)) (sp' := 0) (dp' := 0) (m' := 20) hw 5 (u + 1) 1 (t + 1) dX2_become_12 cwX2_21 rfl rfl rfl rfl (by decide) (by decide) (by decide) (by decide) (by decide) (by decide) (by decide) (by decide) ⟨Nat.le_of_ble_eq_true rfl, Nat.le_of_ble_eq_true rfl⟩ rfl ?_
  refine E.aload_n 1 dX2_become_15 rfl ?_
  refine E.get hw 4 u dX2_become_16 flX2_15 rfl rfl rfl rfl ?_
  refine E.iconst (v := 0) dX2_become_19 (by decide) ?_
  refine E.aload_n 0 dX2_become_20 rfl ?_
  refine E.get hw 0 t dX2_become_21 flX2_15 rfl rfl rfl rfl ?_
  refine E.iconst (v := 0) dX2_become_24 (by decide) ?_
  refine E.bipush (v := 20) dX2_become_25 (by decide) ?_
  refine E.copyI (es' := (wW19 G b t u vT0_cases (va_cpy aU1 aT1 0 0 20) (va_cpy aU2 aT2 0 0 20) aT3 vU0_cases aU1 aU2 aU3)) (sp' := 0) (dp' := 0) (m' := 20) hw 6 (u + 2) 2 (t + 2) dX2_become_27 cwX2_21 rfl rfl rfl rfl (by decide) (by decide) (by decide) (by decide) (by decide) (by decide) (by decide) (by decide) ⟨Nat.le_of_ble_eq_true rfl, Nat.le_of_ble_eq_true rfl⟩ rfl ?_
  refine E.aload_n 1 dX2_become_30 rfl ?_
  refine E.get hw 4 u dX2_become_31 flX2_18 rfl rfl rfl rfl ?_
  refine E.iconst (v := 0) dX2_become_34 (by decide) ?_
  refine E.aload_n 0 dX2_become_35 rfl ?_
  refine E.get hw 0 t dX2_become_36 flX2_18 rfl rfl rfl rfl ?_
  refine E.iconst (v := 0) dX2_become_39 (by decide) ?_
  refine E.bipush (v := 20) dX2_become_40 (by decide) ?_
  refine E.copyI (es' := (wW19 G b t u vT0_cases (va_cpy aU1 aT1 0 0 20) (va_cpy aU2 aT2 0 0 20) (va_cpy aU3 aT3 0 0 20) vU0_cases aU1 aU2 aU3)) (sp' := 0) (dp' := 0) (m' := 20) hw 7 (u + 3) 3 (t + 3) dX2_become_42 cwX2_21 rfl rfl rfl rfl (by decide) (by decide) (by decide) (by decide) (by decide) (by decide) (by decide) (by decide) ⟨Nat.le_of_ble_eq_true rfl, Nat.le_of_ble_eq_true rfl⟩ rfl ?_
  refine E.aload_n 0 dX2_become_45 rfl ?_
  refine E.aload_n 1 dX2_become_46 rfl ?_
  refine E.get hw 4 u dX2_become_47 flX2_27 rfl rfl rfl rfl ?_
  refine E.put (es' := (wW19 G b t u vU0_cases (va_cpy aU1 aT1 0 0 20) (va_cpy aU2 aT2 0 0 20) (va_cpy aU3 aT3 0 0 20) vU0_cases aU1 aU2 aU3)) hw 0 t dX2_become_50 flX2_27 ftX2 rfl rfl rfl rfl rfl rfl (Nat.le_of_ble_eq_true rfl) rfl ?_
  cases hf
  exact E.vret dX2_become_53 (Nat.le_refl _) (Nat.le_refl _) (pD_rf _ _ _)
set_option maxRecDepth 100000 in
theorem mX2_become {G : GT} {b : Nat} {t u : Nat} {c0 : Hp} {n : Nat} (hw : e_wf (kW19 t u) n)  {vT0_cases : Int32} {aT1 : Nat → Int32} {aT2 : Nat → Int32} {aT3 : Nat → Int32} {vU0_cases : Int32} {aU1 : Nat → Int32} {aU2 : Nat → Int32} {aU3 : Nat → Int32} {R : Int32 × (Nat → Int32) × (Nat → Int32) × (Nat → Int32)} (hf : fX2_become vT0_cases aT1 aT2 aT3 vU0_cases aU1 aU2 aU3 = some R) : e_C G b yX2_become cX2_become 2 none 1 0 0 [.ref (b + t), .ref (b + u)] (e_ov (kW19 t u) (wW19 G b t u vT0_cases aT1 aT2 aT3 vU0_cases aU1 aU2 aU3) c0) n (pD none (e_ov (kW19 t u) (wW19 G b t u R.1 R.2.1 R.2.2.1 R.2.2.2 vU0_cases aU1 aU2 aU3) c0) n) := e_C.of (by decide) (Nat.le_of_ble_eq_true rfl) (tX2_become hw hf)
abbrev kW78 (t u : Nat) : List Nat := [t, (t + 1), (t + 2), (t + 3), (t + 4), (t + 5), (t + 6), (t + 7), (t + 8), u, (u + 1), (u + 2), (u + 3), (u + 4), (u + 5), (u + 6), (u + 7), (u + 8)]
abbrev wW78 (G : GT) (b t u : Nat) (vT0_beasts : Int32) (vT0_meals : Int32) (vT0_seats : Int32) (vT0_laws : Int32) (vT0_inForce : Int32) (aT1 : Nat → Int32) (aT2 : Nat → Int32) (aT3 : Nat → Int32) (aT4 : Nat → Option Nat) (vT5_cases : Int32) (aT6 : Nat → Int32) (aT7 : Nat → Int32) (aT8 : Nat → Int32) (vU0_beasts : Int32) (vU0_meals : Int32) (vU0_seats : Int32) (vU0_laws : Int32) (vU0_inForce : Int32) (aU1 : Nat → Int32) (aU2 : Nat → Int32) (aU3 : Nat → Int32) (aU4 : Nat → Option Nat) (vU5_cases : Int32) (aU6 : Nat → Int32) (aU7 : Nat → Int32) (aU8 : Nat → Int32) : List va_E := [.inr (10, [.ref (b + (t + 1)), .ref (b + (t + 2)), .ref (b + (t + 3)), .ref (b + (t + 4)), .ref (b + (t + 5)), .int vT0_beasts, .int vT0_meals, .int vT0_seats, .int vT0_laws, .int vT0_inForce]), aI G 48 aT1, aI G 8 aT2, aI G 6 aT3, aQ G 4 6 aT4, .inr (2, [.ref (b + (t + 6)), .ref (b + (t + 7)), .ref (b + (t + 8)), .int vT5_cases]), aI G 20 aT6, aI G 20 aT7, aI G 20 aT8, .inr (10, [.ref (b + (u + 1)), .ref (b + (u + 2)), .ref (b + (u + 3)), .ref (b + (u + 4)), .ref (b + (u + 5)), .int vU0_beasts, .int vU0_meals, .int vU0_seats, .int vU0_laws, .int vU0_inForce]), aI G 48 aU1, aI G 8 aU2, aI G 6 aU3, aQ G 4 6 aU4, .inr (2, [.ref (b + (u + 6)), .ref (b + (u + 7)), .ref (b + (u + 8)), .int vU5_cases]), aI G 20 aU6, aI G 20 aU7, aI G 20 aU8]
def fX10_become_L56 (Fu : Nat) : Nat → Int32 → Int32 → Int32 → Int32 → Int32 → (Nat → Int32) → (Nat → Int32) → (Nat → Int32) → (Nat → Option Nat) → Int32 → (Nat → Int32) → (Nat → Int32) → (Nat → Int32) → Int32 → Int32 → Int32 → Int32 → Int32 → (Nat → Int32) → (Nat → Int32) → (Nat → Int32) → (Nat → Option Nat) → Int32 → (Nat → Int32) → (Nat → Int32) → (Nat → Int32) → Int32 → Option (Int32 × Int32 × Int32 × Int32 × Int32 × (Nat → Int32) × (Nat → Int32) × (Nat → Int32) × (Nat → Option Nat) × Int32 × (Nat → Int32) × (Nat → Int32) × (Nat → Int32))
  | 0, _, _, _, _, _, _, _, _, _, _, _, _, _, _, _, _, _, _, _, _, _, _, _, _, _, _, _ => none
  | k + 1, vT0_beasts, vT0_meals, vT0_seats, vT0_laws, vT0_inForce, aT1, aT2, aT3, aT4, vT5_cases, aT6, aT7, aT8, vU0_beasts, vU0_meals, vU0_seats, vU0_laws, vU0_inForce, aU1, aU2, aU3, aU4, vU5_cases, aU6, aU7, aU8, x2 => if (6 : Int32) ≤ (x2 : Int32) then ((fX2_become vT5_cases aT6 aT7 aT8 vU5_cases aU6 aU7 aU8).bind fun r1 => (some (vU0_beasts, vU0_meals, vU0_seats, vU0_laws, vU0_inForce, aT1, aT2, aT3, aT4, r1.1, r1.2.1, r1.2.2.1, r1.2.2.2))) else (gd x2 6 (gd x2 6 ((fX10_become_L56 Fu k) vT0_beasts vT0_meals vT0_seats vT0_laws vT0_inForce aT1 aT2 aT3 (va_up aT4 (x2 : Int32).toNatClampNeg (aU4 (x2 : Int32).toNatClampNeg)) vT5_cases aT6 aT7 aT8 vU0_beasts vU0_meals vU0_seats vU0_laws vU0_inForce aU1 aU2 aU3 aU4 vU5_cases aU6 aU7 aU8 (x2 + 1))))
set_option maxHeartbeats 4000000 in
set_option maxRecDepth 100000 in
theorem tX10_become_L56 {G : GT} {b : Nat} {t u : Nat} {c0 : Hp} {n : Nat} {aU4 : Nat → Option Nat} (hw : e_wf (kW78 t u) n)  (hQ_aU4 : e_Qs b n (kW78 t u) c0 aU4) {Fu : Nat} : ∀ (k : Nat) {vT0_beasts : Int32} {vT0_meals : Int32} {vT0_seats : Int32} {vT0_laws : Int32} {vT0_inForce : Int32} {aT1 : Nat → Int32} {aT2 : Nat → Int32} {aT3 : Nat → Int32} {aT4 : Nat → Option Nat} {vT5_cases : Int32} {aT6 : Nat → Int32} {aT7 : Nat → Int32} {aT8 : Nat → Int32} {vU0_beasts : Int32} {vU0_meals : Int32} {vU0_seats : Int32} {vU0_laws : Int32} {vU0_inForce : Int32} {aU1 : Nat → Int32} {aU2 : Nat → Int32} {aU3 : Nat → Int32} {vU5_cases : Int32} {aU6 : Nat → Int32} {aU7 : Nat → Int32} {aU8 : Nat → Int32} {x2 : Int32} {R : Int32 × Int32 × Int32 × Int32 × Int32 × (Nat → Int32) × (Nat → Int32) × (Nat → Int32) × (Nat → Option Nat) × Int32 × (Nat → Int32) × (Nat → Int32) × (Nat → Int32)}, fX10_become_L56 Fu k vT0_beasts vT0_meals vT0_seats vT0_laws vT0_inForce aT1 aT2 aT3 aT4 vT5_cases aT6 aT7 aT8 vU0_beasts vU0_meals vU0_seats vU0_laws vU0_inForce aU1 aU2 aU3 aU4 vU5_cases aU6 aU7 aU8 x2 = some R → E G b yX10_become cX10_become 3 none (e_rm 2 0 0) e_X0 (e_Z G b (pD none (e_ov (kW78 t u) (wW78 G b t u R.1 R.2.1 R.2.2.1 R.2.2.2.1 R.2.2.2.2.1 R.2.2.2.2.2.1 R.2.2.2.2.2.2.1 R.2.2.2.2.2.2.2.1 R.2.2.2.2.2.2.2.2.1 R.2.2.2.2.2.2.2.2.2.1 R.2.2.2.2.2.2.2.2.2.2.1 R.2.2.2.2.2.2.2.2.2.2.2.1 R.2.2.2.2.2.2.2.2.2.2.2.2 vU0_beasts vU0_meals vU0_seats vU0_laws vU0_inForce aU1 aU2 aU3 aU4 vU5_cases aU6 aU7 aU8) c0) n) 0 0) 56 [(0, .ref (b + t)), (1, .ref (b + u)), (2, .int x2)] [] (e_ov (kW78 t u) (wW78 G b t u vT0_beasts vT0_meals vT0_seats vT0_laws vT0_inForce aT1 aT2 aT3 aT4 vT5_cases aT6 aT7 aT8 vU0_beasts vU0_meals vU0_seats vU0_laws vU0_inForce aU1 aU2 aU3 aU4 vU5_cases aU6 aU7 aU8) c0) n 0 0 := by
  intro k
  induction k with
  | zero =>
    intro _ _ _ _ _ _ _ _ _ _ _ _ _ _ _ _ _ _ _ _ _ _ _ _ _ _ _ hf
    have hf : (none : Option (Int32 × Int32 × Int32 × Int32 × Int32 × (Nat → Int32) × (Nat → Int32) × (Nat → Int32) × (Nat → Option Nat) × Int32 × (Nat → Int32) × (Nat → Int32) × (Nat → Int32))) = some _ := hf
    cases hf
  | succ k ih =>
    intro vT0_beasts vT0_meals vT0_seats vT0_laws vT0_inForce aT1 aT2 aT3 aT4 vT5_cases aT6 aT7 aT8 vU0_beasts vU0_meals vU0_seats vU0_laws vU0_inForce aU1 aU2 aU3 vU5_cases aU6 aU7 aU8 x2 R hf
    rw [fX10_become_L56] at hf
    refine E.iload_n 2 dX10_become_56 rfl ?_
    refine E.bipush (v := 6) dX10_become_57 (by decide) ?_
    refine E.icmp_ge dX10_become_59 (fun h => ?_) (fun h => ?_)
    · have hf := e_ift hf h
      refine E.aload_n 0 dX10_become_80 rfl ?_
      refine E.get hw 0 t dX10_become_81 flX10_38 rfl rfl rfl rfl ?_
      refine E.aload_n 1 dX10_become_84 rfl ?_
      refine E.get hw 9 u dX10_become_85 flX10_38 rfl rfl rfl rfl ?_
      obtain ⟨r1, hc1, hf⟩ := e_bind hf
      refine E.callVDs (es' := (wW78 G b t u vT0_beasts vT0_meals vT0_seats vT0_laws vT0_inForce aT1 aT2 aT3 aT4 r1.1 r1.2.1 r1.2.2.1 r1.2.2.2 vU0_beasts vU0_meals vU0_seats vU0_laws vU0_inForce aU1 aU2 aU3 aU4 vU5_cases aU6 aU7 aU8)) [] [5, 6, 7, 8, 14, 15, 16, 17] 5 (t + 5) dX10_become_88 mlX10_52 hw rfl rfl rfl rfl (mX2_become (hw.pick2 [5, 6, 7, 8, 14, 15, 16, 17] rfl (by decide)) hc1) rfl rfl rfl rfl ⟨Nat.le_of_ble_eq_true rfl, Nat.le_of_ble_eq_true rfl⟩ rfl rfl (Nat.le_of_ble_eq_true rfl) ⟨Nat.le_refl _, Nat.le_refl _⟩ rfl ?_
      refine E.aload_n 0 dX10_become_91 rfl ?_
      refine E.aload_n 1 dX10_become_92 rfl ?_
      refine E.get hw 9 u dX10_become_93 flX10_56 rfl rfl rfl rfl ?_
      refine E.put (es' := (wW78 G b t u vU0_beasts vT0_meals vT0_seats vT0_laws vT0_inForce aT1 aT2 aT3 aT4 r1.1 r1.2.1 r1.2.2.1 r1.2.2.2 vU0_beasts vU0_meals vU0_seats vU0_laws vU0_inForce aU1 aU2 aU3 aU4 vU5_cases aU6 aU7 aU8)) hw 0 t dX10_become_96 flX10_56 ftX10 rfl rfl rfl rfl rfl rfl (Nat.le_of_ble_eq_true rfl) rfl ?_
      refine E.aload_n 0 dX10_become_99 rfl ?_
      refine E.aload_n 1 dX10_become_100 rfl ?_
      refine E.get hw 9 u dX10_become_101 flX10_59 rfl rfl rfl rfl ?_
      refine E.put (es' := (wW78 G b t u vU0_beasts vU0_meals vT0_seats vT0_laws vT0_inForce aT1 aT2 aT3 aT4 r1.1 r1.2.1 r1.2.2.1 r1.2.2.2 vU0_beasts vU0_meals vU0_seats vU0_laws vU0_inForce aU1 aU2 aU3 aU4 vU5_cases aU6 aU7 aU8)) hw 0 t dX10_become_104 flX10_59 ftX10 rfl rfl rfl rfl rfl rfl (Nat.le_of_ble_eq_true rfl) rfl ?_
      refine E.aload_n 0 dX10_become_107 rfl ?_
      refine E.aload_n 1 dX10_become_108 rfl ?_
      refine E.get hw 9 u dX10_become_109 flX10_62 rfl rfl rfl rfl ?_
      refine E.put (es' := (wW78 G b t u vU0_beasts vU0_meals vU0_seats vT0_laws vT0_inForce aT1 aT2 aT3 aT4 r1.1 r1.2.1 r1.2.2.1 r1.2.2.2 vU0_beasts vU0_meals vU0_seats vU0_laws vU0_inForce aU1 aU2 aU3 aU4 vU5_cases aU6 aU7 aU8)) hw 0 t dX10_become_112 flX10_62 ftX10 rfl rfl rfl rfl rfl rfl (Nat.le_of_ble_eq_true rfl) rfl ?_
      refine E.aload_n 0 dX10_become_115 rfl ?_
      refine E.aload_n 1 dX10_become_116 rfl ?_
      refine E.get hw 9 u dX10_become_117 flX10_65 rfl rfl rfl rfl ?_
      refine E.put (es' := (wW78 G b t u vU0_beasts vU0_meals vU0_seats vU0_laws vT0_inForce aT1 aT2 aT3 aT4 r1.1 r1.2.1 r1.2.2.1 r1.2.2.2 vU0_beasts vU0_meals vU0_seats vU0_laws vU0_inForce aU1 aU2 aU3 aU4 vU5_cases aU6 aU7 aU8)) hw 0 t dX10_become_120 flX10_65 ftX10 rfl rfl rfl rfl rfl rfl (Nat.le_of_ble_eq_true rfl) rfl ?_
      refine E.aload_n 0 dX10_become_123 rfl ?_
      refine E.aload_n 1 dX10_become_124 rfl ?_
      refine E.get hw 9 u dX10_become_125 flX10_42 rfl rfl rfl rfl ?_
      refine E.put (es' := (wW78 G b t u vU0_beasts vU0_meals vU0_seats vU0_laws vU0_inForce aT1 aT2 aT3 aT4 r1.1 r1.2.1 r1.2.2.1 r1.2.2.2 vU0_beasts vU0_meals vU0_seats vU0_laws vU0_inForce aU1 aU2 aU3 aU4 vU5_cases aU6 aU7 aU8)) hw 0 t dX10_become_128 flX10_42 ftX10 rfl rfl rfl rfl rfl rfl (Nat.le_of_ble_eq_true rfl) rfl ?_
      cases hf
      exact E.vret dX10_become_131 (Nat.le_refl _) (Nat.le_refl _) (pD_rf _ _ _)
    · have hf := e_iff hf h
      refine E.aload_n 0 dX10_become_62 rfl ?_
      refine E.get hw 0 t dX10_become_63 flX10_31 rfl rfl rfl rfl ?_
      refine E.iload_n 2 dX10_become_66 rfl ?_
      refine E.aload_n 1 dX10_become_67 rfl ?_
      refine E.get hw 9 u dX10_become_68 flX10_31 rfl rfl rfl rfl ?_
      refine E.iload_n 2 dX10_become_71 rfl ?_
      obtain ⟨g2, hf⟩ := gd_some hf
      refine E.aald hw 13 (u + 4) dX10_become_72 rfl rfl rfl g2 ?_
      obtain ⟨g3, hf⟩ := gd_some hf
      refine E.aastV (es' := (wW78 G b t u vT0_beasts vT0_meals vT0_seats vT0_laws vT0_inForce aT1 aT2 aT3 (va_up aT4 (x2 : Int32).toNatClampNeg (aU4 (x2 : Int32).toNatClampNeg)) vT5_cases aT6 aT7 aT8 vU0_beasts vU0_meals vU0_seats vU0_laws vU0_inForce aU1 aU2 aU3 aU4 vU5_cases aU6 aU7 aU8)) hw 4 (t + 4) 5 dX10_become_73 rfl rfl rfl rfl (fun ad h => (hQ_aU4 _ _ h).is) g3 rfl ?_
      refine E.iinc (q := 2) (v := (x2 + 1)) (lv' := [(2, .int (x2 + 1)), (0, .ref (b + t)), (1, .ref (b + u))]) dX10_become_74 rfl rfl (by decide) rfl ?_
      refine E.goto dX10_become_77 ?_
      refine E.locals [1, 2, 0] rfl ?_
      exact ih hf
def fX10_become (Fu : Nat) (vT0_beasts : Int32) (vT0_meals : Int32) (vT0_seats : Int32) (vT0_laws : Int32) (vT0_inForce : Int32) (aT1 : Nat → Int32) (aT2 : Nat → Int32) (aT3 : Nat → Int32) (aT4 : Nat → Option Nat) (vT5_cases : Int32) (aT6 : Nat → Int32) (aT7 : Nat → Int32) (aT8 : Nat → Int32) (vU0_beasts : Int32) (vU0_meals : Int32) (vU0_seats : Int32) (vU0_laws : Int32) (vU0_inForce : Int32) (aU1 : Nat → Int32) (aU2 : Nat → Int32) (aU3 : Nat → Int32) (aU4 : Nat → Option Nat) (vU5_cases : Int32) (aU6 : Nat → Int32) (aU7 : Nat → Int32) (aU8 : Nat → Int32) : Option (Int32 × Int32 × Int32 × Int32 × Int32 × (Nat → Int32) × (Nat → Int32) × (Nat → Int32) × (Nat → Option Nat) × Int32 × (Nat → Int32) × (Nat → Int32) × (Nat → Int32)) := fX10_become_L56 Fu Fu vT0_beasts vT0_meals vT0_seats vT0_laws vT0_inForce (va_cpy aU1 aT1 0 0 48) (va_cpy aU2 aT2 0 0 8) (va_cpy aU3 aT3 0 0 6) aT4 vT5_cases aT6 aT7 aT8 vU0_beasts vU0_meals vU0_seats vU0_laws vU0_inForce aU1 aU2 aU3 aU4 vU5_cases aU6 aU7 aU8 0
set_option maxHeartbeats 4000000 in
set_option maxRecDepth 100000 in
theorem tX10_become {G : GT} {b : Nat} {t u : Nat} {c0 : Hp} {n : Nat} {aU4 : Nat → Option Nat} (hw : e_wf (kW78 t u) n)  (hQ_aU4 : e_Qs b n (kW78 t u) c0 aU4) {Fu : Nat} {vT0_beasts : Int32} {vT0_meals : Int32} {vT0_seats : Int32} {vT0_laws : Int32} {vT0_inForce : Int32} {aT1 : Nat → Int32} {aT2 : Nat → Int32} {aT3 : Nat → Int32} {aT4 : Nat → Option Nat} {vT5_cases : Int32} {aT6 : Nat → Int32} {aT7 : Nat → Int32} {aT8 : Nat → Int32} {vU0_beasts : Int32} {vU0_meals : Int32} {vU0_seats : Int32} {vU0_laws : Int32} {vU0_inForce : Int32} {aU1 : Nat → Int32} {aU2 : Nat → Int32} {aU3 : Nat → Int32} {vU5_cases : Int32} {aU6 : Nat → Int32} {aU7 : Nat → Int32} {aU8 : Nat → Int32} {R : Int32 × Int32 × Int32 × Int32 × Int32 × (Nat → Int32) × (Nat → Int32) × (Nat → Int32) × (Nat → Option Nat) × Int32 × (Nat → Int32) × (Nat → Int32) × (Nat → Int32)} (hf : fX10_become Fu vT0_beasts vT0_meals vT0_seats vT0_laws vT0_inForce aT1 aT2 aT3 aT4 vT5_cases aT6 aT7 aT8 vU0_beasts vU0_meals vU0_seats vU0_laws vU0_inForce aU1 aU2 aU3 aU4 vU5_cases aU6 aU7 aU8 = some R) : E G b yX10_become cX10_become 3 none (e_rm 2 0 0) e_X0 (e_Z G b (pD none (e_ov (kW78 t u) (wW78 G b t u R.1 R.2.1 R.2.2.1 R.2.2.2.1 R.2.2.2.2.1 R.2.2.2.2.2.1 R.2.2.2.2.2.2.1 R.2.2.2.2.2.2.2.1 R.2.2.2.2.2.2.2.2.1 R.2.2.2.2.2.2.2.2.2.1 R.2.2.2.2.2.2.2.2.2.2.1 R.2.2.2.2.2.2.2.2.2.2.2.1 R.2.2.2.2.2.2.2.2.2.2.2.2 vU0_beasts vU0_meals vU0_seats vU0_laws vU0_inForce aU1 aU2 aU3 aU4 vU5_cases aU6 aU7 aU8) c0) n) 0 0) 0 [(0, .ref (b + t)), (1, .ref (b + u))] [] (e_ov (kW78 t u) (wW78 G b t u vT0_beasts vT0_meals vT0_seats vT0_laws vT0_inForce aT1 aT2 aT3 aT4 vT5_cases aT6 aT7 aT8 vU0_beasts vU0_meals vU0_seats vU0_laws vU0_inForce aU1 aU2 aU3 aU4 vU5_cases aU6 aU7 aU8) c0) n 0 0 := by
  unfold fX10_become at hf
  refine E.aload_n 1 dX10_become_0 rfl ?_
  refine E.get hw 9 u dX10_become_1 flX10_9 rfl rfl rfl rfl ?_
  refine E.iconst (v := 0) dX10_become_4 (by decide) ?_
  refine E.aload_n 0 dX10_become_5 rfl ?_
  refine E.get hw 0 t dX10_become_6 flX10_9 rfl rfl rfl rfl ?_
  refine E.iconst (v := 0) dX10_become_9 (by decide) ?_
  refine E.aload_n 0 dX10_become_10 rfl ?_
  refine E.get hw 0 t dX10_become_11 flX10_9 rfl rfl rfl rfl ?_
  refine E.alen (z := 48) hw 1 (t + 1) 0 dX10_become_14 rfl rfl rfl rfl ?_
  refine E.copyI (es' := (wW78 G b t u vT0_beasts vT0_meals vT0_seats vT0_laws vT0_inForce (va_cpy aU1 aT1 0 0 48) aT2 aT3 aT4 vT5_cases aT6 aT7 aT8 vU0_beasts vU0_meals vU0_seats vU0_laws vU0_inForce aU1 aU2 aU3 aU4 vU5_cases aU6 aU7 aU8)) (sp' := 0) (dp' := 0) (m' := 48) hw 10 (u + 1) 1 (t + 1) dX10_become_15 cwX10_46 rfl rfl rfl rfl (by decide) (by decide) (by decide) (by decide) (by decide) (by decide) (by decide) (by decide) ⟨Nat.le_of_ble_eq_true rfl, Nat.le_of_ble_eq_true rfl⟩ rfl ?_
  refine E.aload_n 1 dX10_become_18 rfl ?_
  refine E.get hw 9 u dX10_become_19 flX10_15 rfl rfl rfl rfl ?_
  refine E.iconst (v := 0) dX10_become_22 (by decide) ?_
  refine E.aload_n 0 dX10_become_23 rfl ?_
  refine E.get hw 0 t dX10_become_24 flX10_15 rfl rfl rfl rfl ?_
  refine E.iconst (v := 0) dX10_become_27 (by decide) ?_
  refine E.aload_n 0 dX10_become_28 rfl ?_
  refine E.get hw 0 t dX10_become_29 flX10_15 rfl rfl rfl rfl ?_
  refine E.alen (z := 8) hw 2 (t + 2) 0 dX10_become_32 rfl rfl rfl rfl ?_
  refine E.copyI (es' := (wW78 G b t u vT0_beasts vT0_meals vT0_seats vT0_laws vT0_inForce (va_cpy aU1 aT1 0 0 48) (va_cpy aU2 aT2 0 0 8) aT3 aT4 vT5_cases aT6 aT7 aT8 vU0_beasts vU0_meals vU0_seats vU0_laws vU0_inForce aU1 aU2 aU3 aU4 vU5_cases aU6 aU7 aU8)) (sp' := 0) (dp' := 0) (m' := 8) hw 11 (u + 2) 2 (t + 2) dX10_become_33 cwX10_46 rfl rfl rfl rfl (by decide) (by decide) (by decide) (by decide) (by decide) (by decide) (by decide) (by decide) ⟨Nat.le_of_ble_eq_true rfl, Nat.le_of_ble_eq_true rfl⟩ rfl ?_
  refine E.aload_n 1 dX10_become_36 rfl ?_
  refine E.get hw 9 u dX10_become_37 flX10_26 rfl rfl rfl rfl ?_
  refine E.iconst (v := 0) dX10_become_40 (by decide) ?_
  refine E.aload_n 0 dX10_become_41 rfl ?_
  refine E.get hw 0 t dX10_become_42 flX10_26 rfl rfl rfl rfl ?_
  refine E.iconst (v := 0) dX10_become_45 (by decide) ?_
  refine E.aload_n 0 dX10_become_46 rfl ?_
  refine E.get hw 0 t dX10_become_47 flX10_26 rfl rfl rfl rfl ?_
  refine E.alen (z := 6) hw 3 (t + 3) 0 dX10_become_50 rfl rfl rfl rfl ?_
  refine E.copyI (es' := (wW78 G b t u vT0_beasts vT0_meals vT0_seats vT0_laws vT0_inForce (va_cpy aU1 aT1 0 0 48) (va_cpy aU2 aT2 0 0 8) (va_cpy aU3 aT3 0 0 6) aT4 vT5_cases aT6 aT7 aT8 vU0_beasts vU0_meals vU0_seats vU0_laws vU0_inForce aU1 aU2 aU3 aU4 vU5_cases aU6 aU7 aU8)) (sp' := 0) (dp' := 0) (m' := 6) hw 12 (u + 3) 3 (t + 3) dX10_become_51 cwX10_46 rfl rfl rfl rfl (by decide) (by decide) (by decide) (by decide) (by decide) (by decide) (by decide) (by decide) ⟨Nat.le_of_ble_eq_true rfl, Nat.le_of_ble_eq_true rfl⟩ rfl ?_
  refine E.iconst (v := 0) dX10_become_54 (by decide) ?_
  refine E.istore_n (lv' := [(2, .int 0), (0, .ref (b + t)), (1, .ref (b + u))]) dX10_become_55 (by decide) rfl ?_
  refine E.locals [1, 2, 0] rfl ?_
  exact tX10_become_L56 hw hQ_aU4 _ hf
set_option maxRecDepth 100000 in
theorem mX10_become {G : GT} {b : Nat} {t u : Nat} {c0 : Hp} {n : Nat} {aU4 : Nat → Option Nat} (hw : e_wf (kW78 t u) n)  (hQ_aU4 : e_Qs b n (kW78 t u) c0 aU4) {Fu : Nat} {vT0_beasts : Int32} {vT0_meals : Int32} {vT0_seats : Int32} {vT0_laws : Int32} {vT0_inForce : Int32} {aT1 : Nat → Int32} {aT2 : Nat → Int32} {aT3 : Nat → Int32} {aT4 : Nat → Option Nat} {vT5_cases : Int32} {aT6 : Nat → Int32} {aT7 : Nat → Int32} {aT8 : Nat → Int32} {vU0_beasts : Int32} {vU0_meals : Int32} {vU0_seats : Int32} {vU0_laws : Int32} {vU0_inForce : Int32} {aU1 : Nat → Int32} {aU2 : Nat → Int32} {aU3 : Nat → Int32} {vU5_cases : Int32} {aU6 : Nat → Int32} {aU7 : Nat → Int32} {aU8 : Nat → Int32} {R : Int32 × Int32 × Int32 × Int32 × Int32 × (Nat → Int32) × (Nat → Int32) × (Nat → Int32) × (Nat → Option Nat) × Int32 × (Nat → Int32) × (Nat → Int32) × (Nat → Int32)} (hf : fX10_become Fu vT0_beasts vT0_meals vT0_seats vT0_laws vT0_inForce aT1 aT2 aT3 aT4 vT5_cases aT6 aT7 aT8 vU0_beasts vU0_meals vU0_seats vU0_laws vU0_inForce aU1 aU2 aU3 aU4 vU5_cases aU6 aU7 aU8 = some R) : e_C G b yX10_become cX10_become 3 none 2 0 0 [.ref (b + t), .ref (b + u)] (e_ov (kW78 t u) (wW78 G b t u vT0_beasts vT0_meals vT0_seats vT0_laws vT0_inForce aT1 aT2 aT3 aT4 vT5_cases aT6 aT7 aT8 vU0_beasts vU0_meals vU0_seats vU0_laws vU0_inForce aU1 aU2 aU3 aU4 vU5_cases aU6 aU7 aU8) c0) n (pD none (e_ov (kW78 t u) (wW78 G b t u R.1 R.2.1 R.2.2.1 R.2.2.2.1 R.2.2.2.2.1 R.2.2.2.2.2.1 R.2.2.2.2.2.2.1 R.2.2.2.2.2.2.2.1 R.2.2.2.2.2.2.2.2.1 R.2.2.2.2.2.2.2.2.2.1 R.2.2.2.2.2.2.2.2.2.2.1 R.2.2.2.2.2.2.2.2.2.2.2.1 R.2.2.2.2.2.2.2.2.2.2.2.2 vU0_beasts vU0_meals vU0_seats vU0_laws vU0_inForce aU1 aU2 aU3 aU4 vU5_cases aU6 aU7 aU8) c0) n) := e_C.of (by decide) (Nat.le_of_ble_eq_true rfl) (tX10_become hw hQ_aU4 hf)
abbrev kW79 : List Nat := [0, 1, 2, 3, 4, 5, 6, 7, 8, 9, 10, 11, 12, 13, 14, 15, 16, 17, 18, 19, 20, 21, 22, 23, 24, 25, 26, 27, 28, 29, 42, 78]
abbrev wW79 (G : GT) (b  : Nat) (v0_faultPlace : Int32) (v0_quashedRows : Int32) (v0_lastRefusal : Int32) (v1_beasts : Int32) (v1_meals : Int32) (v1_seats : Int32) (v1_laws : Int32) (v1_inForce : Int32) (a2 : Nat → Int32) (a3 : Nat → Int32) (a4 : Nat → Int32) (a5 : Nat → Option Nat) (v6_cases : Int32) (a7 : Nat → Int32) (a8 : Nat → Int32) (a9 : Nat → Int32) (v11_beasts : Int32) (v11_meals : Int32) (v11_seats : Int32) (v11_laws : Int32) (v11_inForce : Int32) (a12 : Nat → Int32) (a13 : Nat → Int32) (a14 : Nat → Int32) (a15 : Nat → Option Nat) (v16_cases : Int32) (a17 : Nat → Int32) (a18 : Nat → Int32) (a19 : Nat → Int32) (v20_beasts : Int32) (v20_meals : Int32) (v20_seats : Int32) (v20_laws : Int32) (v20_inForce : Int32) (a21 : Nat → Int32) (a22 : Nat → Int32) (a23 : Nat → Int32) (a24 : Nat → Option Nat) (v25_cases : Int32) (a26 : Nat → Int32) (a27 : Nat → Int32) (a28 : Nat → Int32) (a29 : Nat → Int32) (v42_beasts : Int32) (v42_seats : Int32) (v42_seated : Int32) (v42_quota : Int32) (v42_known : Int32) (v42_surveyed : Int32) (v42_steadyBench : Int32) (v42_steadyWays : Int32) (v42_steadySwing : Int64) (a78 : Nat → Int32) : List va_E := [.inr (11, [.ref (b + 1), .ref (b + 10), .ref (b + 29), .ref (b + 30), .ref (b + 32), .ref (b + 37), .ref (b + 40), .ref (b + 42), .ref (b + 69), .ref (b + 73), .ref (b + 74), .ref (b + 76), .ref (b + 78), .int v0_faultPlace, .int v0_quashedRows, .int v0_lastRefusal]), .inr (10, [.ref (b + 2), .ref (b + 3), .ref (b + 4), .ref (b + 5), .ref (b + 6), .int v1_beasts, .int v1_meals, .int v1_seats, .int v1_laws, .int v1_inForce]), aI G 48 a2, aI G 8 a3, aI G 6 a4, aQ G 4 6 a5, .inr (2, [.ref (b + 7), .ref (b + 8), .ref (b + 9), .int v6_cases]), aI G 20 a7, aI G 20 a8, aI G 20 a9, aQ G 3 2 (e_imQ b), .inr (10, [.ref (b + 12), .ref (b + 13), .ref (b + 14), .ref (b + 15), .ref (b + 16), .int v11_beasts, .int v11_meals, .int v11_seats, .int v11_laws, .int v11_inForce]), aI G 48 a12, aI G 8 a13, aI G 6 a14, aQ G 4 6 a15, .inr (2, [.ref (b + 17), .ref (b + 18), .ref (b + 19), .int v16_cases]), aI G 20 a17, aI G 20 a18, aI G 20 a19, .inr (10, [.ref (b + 21), .ref (b + 22), .ref (b + 23), .ref (b + 24), .ref (b + 25), .int v20_beasts, .int v20_meals, .int v20_seats, .int v20_laws, .int v20_inForce]), aI G 48 a21, aI G 8 a22, aI G 6 a23, aQ G 4 6 a24, .inr (2, [.ref (b + 26), .ref (b + 27), .ref (b + 28), .int v25_cases]), aI G 20 a26, aI G 20 a27, aI G 20 a28, aZ G 2 a29, .inr (1, [.ref (b + 43), .ref (b + 44), .ref (b + 45), .ref (b + 46), .ref (b + 47), .ref (b + 48), .ref (b + 49), .ref (b + 50), .ref (b + 67), .int v42_beasts, .int v42_seats, .int v42_seated, .int v42_quota, .int v42_known, .int v42_surveyed, .int v42_steadyBench, .int v42_steadyWays, .long v42_steadySwing]), aI G 7 a78]
def fX11_image (Fu : Nat) (v0_lastRefusal : Int32) (v1_beasts : Int32) (v1_meals : Int32) (v1_seats : Int32) (v1_laws : Int32) (v1_inForce : Int32) (a2 : Nat → Int32) (a3 : Nat → Int32) (a4 : Nat → Int32) (a5 : Nat → Option Nat) (v6_cases : Int32) (a7 : Nat → Int32) (a8 : Nat → Int32) (a9 : Nat → Int32) (v11_beasts : Int32) (v11_meals : Int32) (v11_seats : Int32) (v11_laws : Int32) (v11_inForce : Int32) (a12 : Nat → Int32) (a13 : Nat → Int32) (a14 : Nat → Int32) (a15 : Nat → Option Nat) (v16_cases : Int32) (a17 : Nat → Int32) (a18 : Nat → Int32) (a19 : Nat → Int32) (v20_beasts : Int32) (v20_meals : Int32) (v20_seats : Int32) (v20_laws : Int32) (v20_inForce : Int32) (a21 : Nat → Int32) (a22 : Nat → Int32) (a23 : Nat → Int32) (a24 : Nat → Option Nat) (v25_cases : Int32) (a26 : Nat → Int32) (a27 : Nat → Int32) (a28 : Nat → Int32) (a29 : Nat → Int32) (v42_known : Int32) (a78 : Nat → Int32) (x1 : Int32) : Option (Int32 × Int32 × Int32 × Int32 × Int32 × Int32 × Int32 × (Nat → Int32) × (Nat → Int32) × (Nat → Int32) × (Nat → Option Nat) × Int32 × (Nat → Int32) × (Nat → Int32) × (Nat → Int32) × Int32 × Int32 × Int32 × Int32 × Int32 × (Nat → Int32) × (Nat → Int32) × (Nat → Int32) × (Nat → Option Nat) × Int32 × (Nat → Int32) × (Nat → Int32) × (Nat → Int32) × (Nat → Int32) × Int32 × (Nat → Int32)) := (fX11_isEither x1).bind fun r1 => (if (r1 : Int32) = (0 : Int32) then ((fX11_refuse v0_lastRefusal a78 (-1 : Int32)).bind fun r9 => (some (r9.1, r9.2.1, v11_beasts, v11_meals, v11_seats, v11_laws, v11_inForce, a12, a13, a14, a15, v16_cases, a17, a18, a19, v20_beasts, v20_meals, v20_seats, v20_laws, v20_inForce, a21, a22, a23, a24, v25_cases, a26, a27, a28, a29, v42_known, r9.2.2))) else (if (x1 : Int32) = 0 then ((fX10_become Fu v11_beasts v11_meals v11_seats v11_laws v11_inForce a12 a13 a14 a15 v16_cases a17 a18 a19 v1_beasts v1_meals v1_seats v1_laws v1_inForce a2 a3 a4 a5 v6_cases a7 a8 a9).bind fun r3 => (gd x1 2 ((fX11_accept v0_lastRefusal v42_known 0).bind fun r5 => (some (r5.1, r5.2.1, r3.1, r3.2.1, r3.2.2.1, r3.2.2.2.1, r3.2.2.2.2.1, r3.2.2.2.2.2.1, r3.2.2.2.2.2.2.1, r3.2.2.2.2.2.2.2.1, r3.2.2.2.2.2.2.2.2.1, r3.2.2.2.2.2.2.2.2.2.1, r3.2.2.2.2.2.2.2.2.2.2.1, r3.2.2.2.2.2.2.2.2.2.2.2.1, r3.2.2.2.2.2.2.2.2.2.2.2.2, v20_beasts, v20_meals, v20_seats, v20_laws, v20_inForce, a21, a22, a23, a24, v25_cases, a26, a27, a28, (va_up a29 (x1 : Int32).toNatClampNeg (vp_nar .boolean 1)), r5.2.2, a78))))) else (if (x1 : Int32) = 1 then ((fX10_become Fu v20_beasts v20_meals v20_seats v20_laws v20_inForce a21 a22 a23 a24 v25_cases a26 a27 a28 v1_beasts v1_meals v1_seats v1_laws v1_inForce a2 a3 a4 a5 v6_cases a7 a8 a9).bind fun r6 => (gd x1 2 ((fX11_accept v0_lastRefusal v42_known 0).bind fun r8 => (some (r8.1, r8.2.1, v11_beasts, v11_meals, v11_seats, v11_laws, v11_inForce, a12, a13, a14, a15, v16_cases, a17, a18, a19, r6.1, r6.2.1, r6.2.2.1, r6.2.2.2.1, r6.2.2.2.2.1, r6.2.2.2.2.2.1, r6.2.2.2.2.2.2.1, r6.2.2.2.2.2.2.2.1, r6.2.2.2.2.2.2.2.2.1, r6.2.2.2.2.2.2.2.2.2.1, r6.2.2.2.2.2.2.2.2.2.2.1, r6.2.2.2.2.2.2.2.2.2.2.2.1, r6.2.2.2.2.2.2.2.2.2.2.2.2, (va_up a29 (x1 : Int32).toNatClampNeg (vp_nar .boolean 1)), r8.2.2, a78))))) else (none))))
set_option maxHeartbeats 4000000 in
set_option maxRecDepth 100000 in
theorem tX11_image {G : GT} {b : Nat} {c0 : Hp} {n : Nat} {a5 : Nat → Option Nat} (hw : e_wf (kW79) n) {v0_faultPlace : Int32} {v0_quashedRows : Int32} {v42_beasts : Int32} {v42_seats : Int32} {v42_seated : Int32} {v42_quota : Int32} {v42_surveyed : Int32} {v42_steadyBench : Int32} {v42_steadyWays : Int32} {v42_steadySwing : Int64} (hQ_a5 : e_Qs b n (kW79) c0 a5) {Fu : Nat} {v0_lastRefusal : Int32} {v1_beasts : Int32} {v1_meals : Int32} {v1_seats : Int32} {v1_laws : Int32} {v1_inForce : Int32} {a2 : Nat → Int32} {a3 : Nat → Int32} {a4 : Nat → Int32} {v6_cases : Int32} {a7 : Nat → Int32} {a8 : Nat → Int32} {a9 : Nat → Int32} {v11_beasts : Int32} {v11_meals : Int32} {v11_seats : Int32} {v11_laws : Int32} {v11_inForce : Int32} {a12 : Nat → Int32} {a13 : Nat → Int32} {a14 : Nat → Int32} {a15 : Nat → Option Nat} {v16_cases : Int32} {a17 : Nat → Int32} {a18 : Nat → Int32} {a19 : Nat → Int32} {v20_beasts : Int32} {v20_meals : Int32} {v20_seats : Int32} {v20_laws : Int32} {v20_inForce : Int32} {a21 : Nat → Int32} {a22 : Nat → Int32} {a23 : Nat → Int32} {a24 : Nat → Option Nat} {v25_cases : Int32} {a26 : Nat → Int32} {a27 : Nat → Int32} {a28 : Nat → Int32} {a29 : Nat → Int32} {v42_known : Int32} {a78 : Nat → Int32} {x1 : Int32} {R : Int32 × Int32 × Int32 × Int32 × Int32 × Int32 × Int32 × (Nat → Int32) × (Nat → Int32) × (Nat → Int32) × (Nat → Option Nat) × Int32 × (Nat → Int32) × (Nat → Int32) × (Nat → Int32) × Int32 × Int32 × Int32 × Int32 × Int32 × (Nat → Int32) × (Nat → Int32) × (Nat → Int32) × (Nat → Option Nat) × Int32 × (Nat → Int32) × (Nat → Int32) × (Nat → Int32) × (Nat → Int32) × Int32 × (Nat → Int32)} (hf : fX11_image Fu v0_lastRefusal v1_beasts v1_meals v1_seats v1_laws v1_inForce a2 a3 a4 a5 v6_cases a7 a8 a9 v11_beasts v11_meals v11_seats v11_laws v11_inForce a12 a13 a14 a15 v16_cases a17 a18 a19 v20_beasts v20_meals v20_seats v20_laws v20_inForce a21 a22 a23 a24 v25_cases a26 a27 a28 a29 v42_known a78 x1 = some R) : E G b yX11_image cX11_image 2 (some .int) (e_rm 3 0 0) e_X0 (e_Z G b (pD (some (.int R.1)) (e_ov (kW79) (wW79 G b v0_faultPlace v0_quashedRows R.2.1 v1_beasts v1_meals v1_seats v1_laws v1_inForce a2 a3 a4 a5 v6_cases a7 a8 a9 R.2.2.1 R.2.2.2.1 R.2.2.2.2.1 R.2.2.2.2.2.1 R.2.2.2.2.2.2.1 R.2.2.2.2.2.2.2.1 R.2.2.2.2.2.2.2.2.1 R.2.2.2.2.2.2.2.2.2.1 R.2.2.2.2.2.2.2.2.2.2.1 R.2.2.2.2.2.2.2.2.2.2.2.1 R.2.2.2.2.2.2.2.2.2.2.2.2.1 R.2.2.2.2.2.2.2.2.2.2.2.2.2.1 R.2.2.2.2.2.2.2.2.2.2.2.2.2.2.1 R.2.2.2.2.2.2.2.2.2.2.2.2.2.2.2.1 R.2.2.2.2.2.2.2.2.2.2.2.2.2.2.2.2.1 R.2.2.2.2.2.2.2.2.2.2.2.2.2.2.2.2.2.1 R.2.2.2.2.2.2.2.2.2.2.2.2.2.2.2.2.2.2.1 R.2.2.2.2.2.2.2.2.2.2.2.2.2.2.2.2.2.2.2.1 R.2.2.2.2.2.2.2.2.2.2.2.2.2.2.2.2.2.2.2.2.1 R.2.2.2.2.2.2.2.2.2.2.2.2.2.2.2.2.2.2.2.2.2.1 R.2.2.2.2.2.2.2.2.2.2.2.2.2.2.2.2.2.2.2.2.2.2.1 R.2.2.2.2.2.2.2.2.2.2.2.2.2.2.2.2.2.2.2.2.2.2.2.1 R.2.2.2.2.2.2.2.2.2.2.2.2.2.2.2.2.2.2.2.2.2.2.2.2.1 R.2.2.2.2.2.2.2.2.2.2.2.2.2.2.2.2.2.2.2.2.2.2.2.2.2.1 R.2.2.2.2.2.2.2.2.2.2.2.2.2.2.2.2.2.2.2.2.2.2.2.2.2.2.1 R.2.2.2.2.2.2.2.2.2.2.2.2.2.2.2.2.2.2.2.2.2.2.2.2.2.2.2.1 R.2.2.2.2.2.2.2.2.2.2.2.2.2.2.2.2.2.2.2.2.2.2.2.2.2.2.2.2.1 v42_beasts v42_seats v42_seated v42_quota R.2.2.2.2.2.2.2.2.2.2.2.2.2.2.2.2.2.2.2.2.2.2.2.2.2.2.2.2.2.1 v42_surveyed v42_steadyBench v42_steadyWays v42_steadySwing R.2.2.2.2.2.2.2.2.2.2.2.2.2.2.2.2.2.2.2.2.2.2.2.2.2.2.2.2.2.2) c0) n) 0 0) 0 [(0, .ref (b + 0)), (1, .int x1)] [] (e_ov (kW79) (wW79 G b v0_faultPlace v0_quashedRows v0_lastRefusal v1_beasts v1_meals v1_seats v1_laws v1_inForce a2 a3 a4 a5 v6_cases a7 a8 a9 v11_beasts v11_meals v11_seats v11_laws v11_inForce a12 a13 a14 a15 v16_cases a17 a18 a19 v20_beasts v20_meals v20_seats v20_laws v20_inForce a21 a22 a23 a24 v25_cases a26 a27 a28 a29 v42_beasts v42_seats v42_seated v42_quota v42_known v42_surveyed v42_steadyBench v42_steadyWays v42_steadySwing a78) c0) n 0 0 := by
  unfold fX11_image at hf
  refine E.iload_n 1 dX11_image_0 rfl ?_
  obtain ⟨r1, hc1, hf⟩ := e_bind hf
  refine E.callSD [] dX11_image_1 mlX11_274 (mX11_isEither hc1) ⟨Nat.le_of_ble_eq_true rfl, Nat.le_of_ble_eq_true rfl⟩ rfl rfl (Nat.le_of_ble_eq_true rfl) ⟨Nat.le_refl _, Nat.le_refl _⟩ rfl ?_
  refine E.if_ne dX11_image_4 (fun h => ?_) (fun h => ?_)
  · have hf := e_iff hf h
    refine E.aload_n 0 dX11_image_13 rfl ?_
    refine E.get hw 0 0 dX11_image_14 flX11_16 rfl rfl rfl rfl ?_
    refine E.iload_n 1 dX11_image_17 rfl ?_
    by_cases h2_0 : (x1 : Int32) = 0
    · have hf := e_ift hf h2_0
      refine E.aaldL hw 10 10 0 dX11_image_18 rfl rfl rfl (by rw [h2_0]; unfold vp_in; decide) (by rw [h2_0]; decide) rfl ?_
      refine E.aload_n 0 dX11_image_19 rfl ?_
      refine E.get hw 0 0 dX11_image_20 flX11_10 rfl rfl rfl rfl ?_
      obtain ⟨r3, hc3, hf⟩ := e_bind hf
      refine E.callVDs (es' := (wW79 G b v0_faultPlace v0_quashedRows v0_lastRefusal v1_beasts v1_meals v1_seats v1_laws v1_inForce a2 a3 a4 a5 v6_cases a7 a8 a9 r3.1 r3.2.1 r3.2.2.1 r3.2.2.2.1 r3.2.2.2.2.1 r3.2.2.2.2.2.1 r3.2.2.2.2.2.2.1 r3.2.2.2.2.2.2.2.1 r3.2.2.2.2.2.2.2.2.1 r3.2.2.2.2.2.2.2.2.2.1 r3.2.2.2.2.2.2.2.2.2.2.1 r3.2.2.2.2.2.2.2.2.2.2.2.1 r3.2.2.2.2.2.2.2.2.2.2.2.2 v20_beasts v20_meals v20_seats v20_laws v20_inForce a21 a22 a23 a24 v25_cases a26 a27 a28 a29 v42_beasts v42_seats v42_seated v42_quota v42_known v42_surveyed v42_steadyBench v42_steadyWays v42_steadySwing a78)) [] [11, 12, 13, 14, 15, 16, 17, 18, 19, 1, 2, 3, 4, 5, 6, 7, 8, 9] 11 11 dX11_image_23 mlX11_363 hw rfl rfl rfl rfl (mX10_become (hw.pick2 [11, 12, 13, 14, 15, 16, 17, 18, 19, 1, 2, 3, 4, 5, 6, 7, 8, 9] rfl (by decide)) (hQ_a5.pick [11, 12, 13, 14, 15, 16, 17, 18, 19, 1, 2, 3, 4, 5, 6, 7, 8, 9] rfl) hc3) rfl rfl rfl rfl ⟨Nat.le_of_ble_eq_true rfl, Nat.le_of_ble_eq_true rfl⟩ rfl rfl (Nat.le_of_ble_eq_true rfl) ⟨Nat.le_refl _, Nat.le_refl _⟩ rfl ?_
      refine E.aload_n 0 dX11_image_26 rfl ?_
      refine E.get hw 0 0 dX11_image_27 flX11_20 rfl rfl rfl rfl ?_
      refine E.iload_n 1 dX11_image_30 rfl ?_
      refine E.iconst (v := 1) dX11_image_31 (by decide) ?_
      obtain ⟨g4, hf⟩ := gd_some hf
      refine E.zast (es' := (wW79 G b v0_faultPlace v0_quashedRows v0_lastRefusal v1_beasts v1_meals v1_seats v1_laws v1_inForce a2 a3 a4 a5 v6_cases a7 a8 a9 r3.1 r3.2.1 r3.2.2.1 r3.2.2.2.1 r3.2.2.2.2.1 r3.2.2.2.2.2.1 r3.2.2.2.2.2.2.1 r3.2.2.2.2.2.2.2.1 r3.2.2.2.2.2.2.2.2.1 r3.2.2.2.2.2.2.2.2.2.1 r3.2.2.2.2.2.2.2.2.2.2.1 r3.2.2.2.2.2.2.2.2.2.2.2.1 r3.2.2.2.2.2.2.2.2.2.2.2.2 v20_beasts v20_meals v20_seats v20_laws v20_inForce a21 a22 a23 a24 v25_cases a26 a27 a28 (va_up a29 (x1 : Int32).toNatClampNeg (vp_nar .boolean 1)) v42_beasts v42_seats v42_seated v42_quota v42_known v42_surveyed v42_steadyBench v42_steadyWays v42_steadySwing a78)) hw 29 29 dX11_image_32 rfl rfl g4 rfl ?_
      refine E.aload_n 0 dX11_image_33 rfl ?_
      refine E.iconst (v := 0) dX11_image_34 (by decide) ?_
      obtain ⟨r5, hc5, hf⟩ := e_bind hf
      refine E.callVDs (es' := (wW79 G b v0_faultPlace v0_quashedRows r5.2.1 v1_beasts v1_meals v1_seats v1_laws v1_inForce a2 a3 a4 a5 v6_cases a7 a8 a9 r3.1 r3.2.1 r3.2.2.1 r3.2.2.2.1 r3.2.2.2.2.1 r3.2.2.2.2.2.1 r3.2.2.2.2.2.2.1 r3.2.2.2.2.2.2.2.1 r3.2.2.2.2.2.2.2.2.1 r3.2.2.2.2.2.2.2.2.2.1 r3.2.2.2.2.2.2.2.2.2.2.1 r3.2.2.2.2.2.2.2.2.2.2.2.1 r3.2.2.2.2.2.2.2.2.2.2.2.2 v20_beasts v20_meals v20_seats v20_laws v20_inForce a21 a22 a23 a24 v25_cases a26 a27 a28 (va_up a29 (x1 : Int32).toNatClampNeg (vp_nar .boolean 1)) v42_beasts v42_seats v42_seated v42_quota r5.2.2 v42_surveyed v42_steadyBench v42_steadyWays v42_steadySwing a78)) [] [0, 30] 0 0 dX11_image_35 mlX11_108 hw rfl rfl rfl rfl (mX11_accept (hw.pick2 [0, 30] rfl (by decide)) hc5) rfl rfl rfl rfl ⟨Nat.le_of_ble_eq_true rfl, Nat.le_of_ble_eq_true rfl⟩ rfl rfl (Nat.le_of_ble_eq_true rfl) ⟨Nat.le_refl _, Nat.le_refl _⟩ rfl ?_
      cases hf
      exact E.iret dX11_image_38 (Nat.le_refl _) (Nat.le_refl _) (pD_rf _ _ _)
    · have hf := e_iff hf h2_0
      by_cases h2_1 : (x1 : Int32) = 1
      · have hf := e_ift hf h2_1
        refine E.aaldL hw 10 10 1 dX11_image_18 rfl rfl rfl (by rw [h2_1]; unfold vp_in; decide) (by rw [h2_1]; decide) rfl ?_
        refine E.aload_n 0 dX11_image_19 rfl ?_
        refine E.get hw 0 0 dX11_image_20 flX11_10 rfl rfl rfl rfl ?_
        obtain ⟨r6, hc6, hf⟩ := e_bind hf
        refine E.callVDs (es' := (wW79 G b v0_faultPlace v0_quashedRows v0_lastRefusal v1_beasts v1_meals v1_seats v1_laws v1_inForce a2 a3 a4 a5 v6_cases a7 a8 a9 v11_beasts v11_meals v11_seats v11_laws v11_inForce a12 a13 a14 a15 v16_cases a17 a18 a19 r6.1 r6.2.1 r6.2.2.1 r6.2.2.2.1 r6.2.2.2.2.1 r6.2.2.2.2.2.1 r6.2.2.2.2.2.2.1 r6.2.2.2.2.2.2.2.1 r6.2.2.2.2.2.2.2.2.1 r6.2.2.2.2.2.2.2.2.2.1 r6.2.2.2.2.2.2.2.2.2.2.1 r6.2.2.2.2.2.2.2.2.2.2.2.1 r6.2.2.2.2.2.2.2.2.2.2.2.2 a29 v42_beasts v42_seats v42_seated v42_quota v42_known v42_surveyed v42_steadyBench v42_steadyWays v42_steadySwing a78)) [] [20, 21, 22, 23, 24, 25, 26, 27, 28, 1, 2, 3, 4, 5, 6, 7, 8, 9] 20 20 dX11_image_23 mlX11_363 hw rfl rfl rfl rfl (mX10_become (hw.pick2 [20, 21, 22, 23, 24, 25, 26, 27, 28, 1, 2, 3, 4, 5, 6, 7, 8, 9] rfl (by decide)) (hQ_a5.pick [20, 21, 22, 23, 24, 25, 26, 27, 28, 1, 2, 3, 4, 5, 6, 7, 8, 9] rfl) hc6) rfl rfl rfl rfl ⟨Nat.le_of_ble_eq_true rfl, Nat.le_of_ble_eq_true rfl⟩ rfl rfl (Nat.le_of_ble_eq_true rfl) ⟨Nat.le_refl _, Nat.le_refl _⟩ rfl ?_
        refine E.aload_n 0 dX11_image_26 rfl ?_
        refine E.get hw 0 0 dX11_image_27 flX11_20 rfl rfl rfl rfl ?_
        refine E.iload_n 1 dX11_image_30 rfl ?_
        refine E.iconst (v := 1) dX11_image_31 (by decide) ?_
        obtain ⟨g7, hf⟩ := gd_some hf
        refine E.zast (es' := (wW79 G b v0_faultPlace v0_quashedRows v0_lastRefusal v1_beasts v1_meals v1_seats v1_laws v1_inForce a2 a3 a4 a5 v6_cases a7 a8 a9 v11_beasts v11_meals v11_seats v11_laws v11_inForce a12 a13 a14 a15 v16_cases a17 a18 a19 r6.1 r6.2.1 r6.2.2.1 r6.2.2.2.1 r6.2.2.2.2.1 r6.2.2.2.2.2.1 r6.2.2.2.2.2.2.1 r6.2.2.2.2.2.2.2.1 r6.2.2.2.2.2.2.2.2.1 r6.2.2.2.2.2.2.2.2.2.1 r6.2.2.2.2.2.2.2.2.2.2.1 r6.2.2.2.2.2.2.2.2.2.2.2.1 r6.2.2.2.2.2.2.2.2.2.2.2.2 (va_up a29 (x1 : Int32).toNatClampNeg (vp_nar .boolean 1)) v42_beasts v42_seats v42_seated v42_quota v42_known v42_surveyed v42_steadyBench v42_steadyWays v42_steadySwing a78)) hw 29 29 dX11_image_32 rfl rfl g7 rfl ?_
        refine E.aload_n 0 dX11_image_33 rfl ?_
        refine E.iconst (v := 0) dX11_image_34 (by decide) ?_
        obtain ⟨r8, hc8, hf⟩ := e_bind hf
        refine E.callVDs (es' := (wW79 G b v0_faultPlace v0_quashedRows r8.2.1 v1_beasts v1_meals v1_seats v1_laws v1_inForce a2 a3 a4 a5 v6_cases a7 a8 a9 v11_beasts v11_meals v11_seats v11_laws v11_inForce a12 a13 a14 a15 v16_cases a17 a18 a19 r6.1 r6.2.1 r6.2.2.1 r6.2.2.2.1 r6.2.2.2.2.1 r6.2.2.2.2.2.1 r6.2.2.2.2.2.2.1 r6.2.2.2.2.2.2.2.1 r6.2.2.2.2.2.2.2.2.1 r6.2.2.2.2.2.2.2.2.2.1 r6.2.2.2.2.2.2.2.2.2.2.1 r6.2.2.2.2.2.2.2.2.2.2.2.1 r6.2.2.2.2.2.2.2.2.2.2.2.2 (va_up a29 (x1 : Int32).toNatClampNeg (vp_nar .boolean 1)) v42_beasts v42_seats v42_seated v42_quota r8.2.2 v42_surveyed v42_steadyBench v42_steadyWays v42_steadySwing a78)) [] [0, 30] 0 0 dX11_image_35 mlX11_108 hw rfl rfl rfl rfl (mX11_accept (hw.pick2 [0, 30] rfl (by decide)) hc8) rfl rfl rfl rfl ⟨Nat.le_of_ble_eq_true rfl, Nat.le_of_ble_eq_true rfl⟩ rfl rfl (Nat.le_of_ble_eq_true rfl) ⟨Nat.le_refl _, Nat.le_refl _⟩ rfl ?_
        cases hf
        exact E.iret dX11_image_38 (Nat.le_refl _) (Nat.le_refl _) (pD_rf _ _ _)
      · have hf := e_iff hf h2_1
        cases hf
  · have hf := e_ift hf h
    refine E.aload_n 0 dX11_image_7 rfl ?_
    refine E.iconst (v := -1) dX11_image_8 (by decide) ?_
    obtain ⟨r9, hc9, hf⟩ := e_bind hf
    refine E.callVDs (es' := (wW79 G b v0_faultPlace v0_quashedRows r9.2.1 v1_beasts v1_meals v1_seats v1_laws v1_inForce a2 a3 a4 a5 v6_cases a7 a8 a9 v11_beasts v11_meals v11_seats v11_laws v11_inForce a12 a13 a14 a15 v16_cases a17 a18 a19 v20_beasts v20_meals v20_seats v20_laws v20_inForce a21 a22 a23 a24 v25_cases a26 a27 a28 a29 v42_beasts v42_seats v42_seated v42_quota v42_known v42_surveyed v42_steadyBench v42_steadyWays v42_steadySwing r9.2.2)) [] [0, 31] 0 0 dX11_image_9 mlX11_97 hw rfl rfl rfl rfl (mX11_refuse (hw.pick2 [0, 31] rfl (by decide)) hc9) rfl rfl rfl rfl ⟨Nat.le_of_ble_eq_true rfl, Nat.le_of_ble_eq_true rfl⟩ rfl rfl (Nat.le_of_ble_eq_true rfl) ⟨Nat.le_refl _, Nat.le_refl _⟩ rfl ?_
    cases hf
    exact E.iret dX11_image_12 (Nat.le_refl _) (Nat.le_refl _) (pD_rf _ _ _)
set_option maxRecDepth 100000 in
theorem mX11_image {G : GT} {b : Nat} {c0 : Hp} {n : Nat} {a5 : Nat → Option Nat} (hw : e_wf (kW79) n) {v0_faultPlace : Int32} {v0_quashedRows : Int32} {v42_beasts : Int32} {v42_seats : Int32} {v42_seated : Int32} {v42_quota : Int32} {v42_surveyed : Int32} {v42_steadyBench : Int32} {v42_steadyWays : Int32} {v42_steadySwing : Int64} (hQ_a5 : e_Qs b n (kW79) c0 a5) {Fu : Nat} {v0_lastRefusal : Int32} {v1_beasts : Int32} {v1_meals : Int32} {v1_seats : Int32} {v1_laws : Int32} {v1_inForce : Int32} {a2 : Nat → Int32} {a3 : Nat → Int32} {a4 : Nat → Int32} {v6_cases : Int32} {a7 : Nat → Int32} {a8 : Nat → Int32} {a9 : Nat → Int32} {v11_beasts : Int32} {v11_meals : Int32} {v11_seats : Int32} {v11_laws : Int32} {v11_inForce : Int32} {a12 : Nat → Int32} {a13 : Nat → Int32} {a14 : Nat → Int32} {a15 : Nat → Option Nat} {v16_cases : Int32} {a17 : Nat → Int32} {a18 : Nat → Int32} {a19 : Nat → Int32} {v20_beasts : Int32} {v20_meals : Int32} {v20_seats : Int32} {v20_laws : Int32} {v20_inForce : Int32} {a21 : Nat → Int32} {a22 : Nat → Int32} {a23 : Nat → Int32} {a24 : Nat → Option Nat} {v25_cases : Int32} {a26 : Nat → Int32} {a27 : Nat → Int32} {a28 : Nat → Int32} {a29 : Nat → Int32} {v42_known : Int32} {a78 : Nat → Int32} {x1 : Int32} {R : Int32 × Int32 × Int32 × Int32 × Int32 × Int32 × Int32 × (Nat → Int32) × (Nat → Int32) × (Nat → Int32) × (Nat → Option Nat) × Int32 × (Nat → Int32) × (Nat → Int32) × (Nat → Int32) × Int32 × Int32 × Int32 × Int32 × Int32 × (Nat → Int32) × (Nat → Int32) × (Nat → Int32) × (Nat → Option Nat) × Int32 × (Nat → Int32) × (Nat → Int32) × (Nat → Int32) × (Nat → Int32) × Int32 × (Nat → Int32)} (hf : fX11_image Fu v0_lastRefusal v1_beasts v1_meals v1_seats v1_laws v1_inForce a2 a3 a4 a5 v6_cases a7 a8 a9 v11_beasts v11_meals v11_seats v11_laws v11_inForce a12 a13 a14 a15 v16_cases a17 a18 a19 v20_beasts v20_meals v20_seats v20_laws v20_inForce a21 a22 a23 a24 v25_cases a26 a27 a28 a29 v42_known a78 x1 = some R) : e_C G b yX11_image cX11_image 2 (some .int) 3 0 0 [.ref (b + 0), .int x1] (e_ov (kW79) (wW79 G b v0_faultPlace v0_quashedRows v0_lastRefusal v1_beasts v1_meals v1_seats v1_laws v1_inForce a2 a3 a4 a5 v6_cases a7 a8 a9 v11_beasts v11_meals v11_seats v11_laws v11_inForce a12 a13 a14 a15 v16_cases a17 a18 a19 v20_beasts v20_meals v20_seats v20_laws v20_inForce a21 a22 a23 a24 v25_cases a26 a27 a28 a29 v42_beasts v42_seats v42_seated v42_quota v42_known v42_surveyed v42_steadyBench v42_steadyWays v42_steadySwing a78) c0) n (pD (some (.int R.1)) (e_ov (kW79) (wW79 G b v0_faultPlace v0_quashedRows R.2.1 v1_beasts v1_meals v1_seats v1_laws v1_inForce a2 a3 a4 a5 v6_cases a7 a8 a9 R.2.2.1 R.2.2.2.1 R.2.2.2.2.1 R.2.2.2.2.2.1 R.2.2.2.2.2.2.1 R.2.2.2.2.2.2.2.1 R.2.2.2.2.2.2.2.2.1 R.2.2.2.2.2.2.2.2.2.1 R.2.2.2.2.2.2.2.2.2.2.1 R.2.2.2.2.2.2.2.2.2.2.2.1 R.2.2.2.2.2.2.2.2.2.2.2.2.1 R.2.2.2.2.2.2.2.2.2.2.2.2.2.1 R.2.2.2.2.2.2.2.2.2.2.2.2.2.2.1 R.2.2.2.2.2.2.2.2.2.2.2.2.2.2.2.1 R.2.2.2.2.2.2.2.2.2.2.2.2.2.2.2.2.1 R.2.2.2.2.2.2.2.2.2.2.2.2.2.2.2.2.2.1 R.2.2.2.2.2.2.2.2.2.2.2.2.2.2.2.2.2.2.1 R.2.2.2.2.2.2.2.2.2.2.2.2.2.2.2.2.2.2.2.1 R.2.2.2.2.2.2.2.2.2.2.2.2.2.2.2.2.2.2.2.2.1 R.2.2.2.2.2.2.2.2.2.2.2.2.2.2.2.2.2.2.2.2.2.1 R.2.2.2.2.2.2.2.2.2.2.2.2.2.2.2.2.2.2.2.2.2.2.1 R.2.2.2.2.2.2.2.2.2.2.2.2.2.2.2.2.2.2.2.2.2.2.2.1 R.2.2.2.2.2.2.2.2.2.2.2.2.2.2.2.2.2.2.2.2.2.2.2.2.1 R.2.2.2.2.2.2.2.2.2.2.2.2.2.2.2.2.2.2.2.2.2.2.2.2.2.1 R.2.2.2.2.2.2.2.2.2.2.2.2.2.2.2.2.2.2.2.2.2.2.2.2.2.2.1 R.2.2.2.2.2.2.2.2.2.2.2.2.2.2.2.2.2.2.2.2.2.2.2.2.2.2.2.1 R.2.2.2.2.2.2.2.2.2.2.2.2.2.2.2.2.2.2.2.2.2.2.2.2.2.2.2.2.1 v42_beasts v42_seats v42_seated v42_quota R.2.2.2.2.2.2.2.2.2.2.2.2.2.2.2.2.2.2.2.2.2.2.2.2.2.2.2.2.2.1 v42_surveyed v42_steadyBench v42_steadyWays v42_steadySwing R.2.2.2.2.2.2.2.2.2.2.2.2.2.2.2.2.2.2.2.2.2.2.2.2.2.2.2.2.2.2) c0) n) := e_C.of (by decide) (Nat.le_of_ble_eq_true rfl) (tX11_image hw hQ_a5 hf)
def fX11_back (Fu : Nat) (v0_lastRefusal : Int32) (v1_beasts : Int32) (v1_meals : Int32) (v1_seats : Int32) (v1_laws : Int32) (v1_inForce : Int32) (a2 : Nat → Int32) (a3 : Nat → Int32) (a4 : Nat → Int32) (a5 : Nat → Option Nat) (v6_cases : Int32) (a7 : Nat → Int32) (a8 : Nat → Int32) (a9 : Nat → Int32) (v11_beasts : Int32) (v11_meals : Int32) (v11_seats : Int32) (v11_laws : Int32) (v11_inForce : Int32) (a12 : Nat → Int32) (a13 : Nat → Int32) (a14 : Nat → Int32) (a15 : Nat → Option Nat) (v16_cases : Int32) (a17 : Nat → Int32) (a18 : Nat → Int32) (a19 : Nat → Int32) (v20_beasts : Int32) (v20_meals : Int32) (v20_seats : Int32) (v20_laws : Int32) (v20_inForce : Int32) (a21 : Nat → Int32) (a22 : Nat → Int32) (a23 : Nat → Int32) (a24 : Nat → Option Nat) (v25_cases : Int32) (a26 : Nat → Int32) (a27 : Nat → Int32) (a28 : Nat → Int32) (a29 : Nat → Int32) (v42_known : Int32) (a78 : Nat → Int32) (x1 : Int32) : Option (Int32 × Int32 × Int32 × Int32 × Int32 × Int32 × Int32 × (Nat → Int32) × (Nat → Int32) × (Nat → Int32) × (Nat → Option Nat) × Int32 × (Nat → Int32) × (Nat → Int32) × (Nat → Int32) × Int32 × (Nat → Int32)) := (fX11_isEither x1).bind fun r1 => (if (r1 : Int32) = (0 : Int32) then ((fX11_refuse v0_lastRefusal a78 (-1 : Int32)).bind fun r9 => (some (r9.1, r9.2.1, v1_beasts, v1_meals, v1_seats, v1_laws, v1_inForce, a2, a3, a4, a5, v6_cases, a7, a8, a9, v42_known, r9.2.2))) else (gd x1 2 (if ((a29 (x1 : Int32).toNatClampNeg) : Int32) = (0 : Int32) then ((fX11_refuse v0_lastRefusal a78 (-2 : Int32)).bind fun r8 => (some (r8.1, r8.2.1, v1_beasts, v1_meals, v1_seats, v1_laws, v1_inForce, a2, a3, a4, a5, v6_cases, a7, a8, a9, v42_known, r8.2.2))) else (if (x1 : Int32) = 0 then ((fX10_become Fu v1_beasts v1_meals v1_seats v1_laws v1_inForce a2 a3 a4 a5 v6_cases a7 a8 a9 v11_beasts v11_meals v11_seats v11_laws v11_inForce a12 a13 a14 a15 v16_cases a17 a18 a19).bind fun r4 => ((fX11_accept v0_lastRefusal v42_known 0).bind fun r5 => (some (r5.1, r5.2.1, r4.1, r4.2.1, r4.2.2.1, r4.2.2.2.1, r4.2.2.2.2.1, r4.2.2.2.2.2.1, r4.2.2.2.2.2.2.1, r4.2.2.2.2.2.2.2.1, r4.2.2.2.2.2.2.2.2.1, r4.2.2.2.2.2.2.2.2.2.1, r4.2.2.2.2.2.2.2.2.2.2.1, r4.2.2.2.2.2.2.2.2.2.2.2.1, r4.2.2.2.2.2.2.2.2.2.2.2.2, r5.2.2, a78)))) else (if (x1 : Int32) = 1 then ((fX10_become Fu v1_beasts v1_meals v1_seats v1_laws v1_inForce a2 a3 a4 a5 v6_cases a7 a8 a9 v20_beasts v20_meals v20_seats v20_laws v20_inForce a21 a22 a23 a24 v25_cases a26 a27 a28).bind fun r6 => ((fX11_accept v0_lastRefusal v42_known 0).bind fun r7 => (some (r7.1, r7.2.1, r6.1, r6.2.1, r6.2.2.1, r6.2.2.2.1, r6.2.2.2.2.1, r6.2.2.2.2.2.1, r6.2.2.2.2.2.2.1, r6.2.2.2.2.2.2.2.1, r6.2.2.2.2.2.2.2.2.1, r6.2.2.2.2.2.2.2.2.2.1, r6.2.2.2.2.2.2.2.2.2.2.1, r6.2.2.2.2.2.2.2.2.2.2.2.1, r6.2.2.2.2.2.2.2.2.2.2.2.2, r7.2.2, a78)))) else (none))))))
set_option maxHeartbeats 4000000 in
set_option maxRecDepth 100000 in
theorem tX11_back {G : GT} {b : Nat} {c0 : Hp} {n : Nat} {a15 : Nat → Option Nat} {a24 : Nat → Option Nat} (hw : e_wf (kW79) n) {v0_faultPlace : Int32} {v0_quashedRows : Int32} {v42_beasts : Int32} {v42_seats : Int32} {v42_seated : Int32} {v42_quota : Int32} {v42_surveyed : Int32} {v42_steadyBench : Int32} {v42_steadyWays : Int32} {v42_steadySwing : Int64} (hQ_a15 : e_Qs b n (kW79) c0 a15) (hQ_a24 : e_Qs b n (kW79) c0 a24) {Fu : Nat} {v0_lastRefusal : Int32} {v1_beasts : Int32} {v1_meals : Int32} {v1_seats : Int32} {v1_laws : Int32} {v1_inForce : Int32} {a2 : Nat → Int32} {a3 : Nat → Int32} {a4 : Nat → Int32} {a5 : Nat → Option Nat} {v6_cases : Int32} {a7 : Nat → Int32} {a8 : Nat → Int32} {a9 : Nat → Int32} {v11_beasts : Int32} {v11_meals : Int32} {v11_seats : Int32} {v11_laws : Int32} {v11_inForce : Int32} {a12 : Nat → Int32} {a13 : Nat → Int32} {a14 : Nat → Int32} {v16_cases : Int32} {a17 : Nat → Int32} {a18 : Nat → Int32} {a19 : Nat → Int32} {v20_beasts : Int32} {v20_meals : Int32} {v20_seats : Int32} {v20_laws : Int32} {v20_inForce : Int32} {a21 : Nat → Int32} {a22 : Nat → Int32} {a23 : Nat → Int32} {v25_cases : Int32} {a26 : Nat → Int32} {a27 : Nat → Int32} {a28 : Nat → Int32} {a29 : Nat → Int32} {v42_known : Int32} {a78 : Nat → Int32} {x1 : Int32} {R : Int32 × Int32 × Int32 × Int32 × Int32 × Int32 × Int32 × (Nat → Int32) × (Nat → Int32) × (Nat → Int32) × (Nat → Option Nat) × Int32 × (Nat → Int32) × (Nat → Int32) × (Nat → Int32) × Int32 × (Nat → Int32)} (hf : fX11_back Fu v0_lastRefusal v1_beasts v1_meals v1_seats v1_laws v1_inForce a2 a3 a4 a5 v6_cases a7 a8 a9 v11_beasts v11_meals v11_seats v11_laws v11_inForce a12 a13 a14 a15 v16_cases a17 a18 a19 v20_beasts v20_meals v20_seats v20_laws v20_inForce a21 a22 a23 a24 v25_cases a26 a27 a28 a29 v42_known a78 x1 = some R) : E G b yX11_back cX11_back 2 (some .int) (e_rm 3 0 0) e_X0 (e_Z G b (pD (some (.int R.1)) (e_ov (kW79) (wW79 G b v0_faultPlace v0_quashedRows R.2.1 R.2.2.1 R.2.2.2.1 R.2.2.2.2.1 R.2.2.2.2.2.1 R.2.2.2.2.2.2.1 R.2.2.2.2.2.2.2.1 R.2.2.2.2.2.2.2.2.1 R.2.2.2.2.2.2.2.2.2.1 R.2.2.2.2.2.2.2.2.2.2.1 R.2.2.2.2.2.2.2.2.2.2.2.1 R.2.2.2.2.2.2.2.2.2.2.2.2.1 R.2.2.2.2.2.2.2.2.2.2.2.2.2.1 R.2.2.2.2.2.2.2.2.2.2.2.2.2.2.1 v11_beasts v11_meals v11_seats v11_laws v11_inForce a12 a13 a14 a15 v16_cases a17 a18 a19 v20_beasts v20_meals v20_seats v20_laws v20_inForce a21 a22 a23 a24 v25_cases a26 a27 a28 a29 v42_beasts v42_seats v42_seated v42_quota R.2.2.2.2.2.2.2.2.2.2.2.2.2.2.2.1 v42_surveyed v42_steadyBench v42_steadyWays v42_steadySwing R.2.2.2.2.2.2.2.2.2.2.2.2.2.2.2.2) c0) n) 0 0) 0 [(0, .ref (b + 0)), (1, .int x1)] [] (e_ov (kW79) (wW79 G b v0_faultPlace v0_quashedRows v0_lastRefusal v1_beasts v1_meals v1_seats v1_laws v1_inForce a2 a3 a4 a5 v6_cases a7 a8 a9 v11_beasts v11_meals v11_seats v11_laws v11_inForce a12 a13 a14 a15 v16_cases a17 a18 a19 v20_beasts v20_meals v20_seats v20_laws v20_inForce a21 a22 a23 a24 v25_cases a26 a27 a28 a29 v42_beasts v42_seats v42_seated v42_quota v42_known v42_surveyed v42_steadyBench v42_steadyWays v42_steadySwing a78) c0) n 0 0 := by
  unfold fX11_back at hf
  refine E.iload_n 1 dX11_back_0 rfl ?_
  obtain ⟨r1, hc1, hf⟩ := e_bind hf
  refine E.callSD [] dX11_back_1 mlX11_274 (mX11_isEither hc1) ⟨Nat.le_of_ble_eq_true rfl, Nat.le_of_ble_eq_true rfl⟩ rfl rfl (Nat.le_of_ble_eq_true rfl) ⟨Nat.le_refl _, Nat.le_refl _⟩ rfl ?_
  refine E.if_ne dX11_back_4 (fun h => ?_) (fun h => ?_)
  · have hf := e_iff hf h
    refine E.aload_n 0 dX11_back_13 rfl ?_
    refine E.get hw 0 0 dX11_back_14 flX11_20 rfl rfl rfl rfl ?_
    refine E.iload_n 1 dX11_back_17 rfl ?_
    obtain ⟨g2, hf⟩ := gd_some hf
    refine E.zald hw 29 29 dX11_back_18 rfl rfl g2 ?_
    refine E.if_ne dX11_back_19 (fun h => ?_) (fun h => ?_)
    · have hf := e_iff hf h
      refine E.aload_n 0 dX11_back_29 rfl ?_
      refine E.get hw 0 0 dX11_back_30 flX11_10 rfl rfl rfl rfl ?_
      refine E.aload_n 0 dX11_back_33 rfl ?_
      refine E.get hw 0 0 dX11_back_34 flX11_16 rfl rfl rfl rfl ?_
      refine E.iload_n 1 dX11_back_37 rfl ?_
      by_cases h3_0 : (x1 : Int32) = 0
      · have hf := e_ift hf h3_0
        refine E.aaldL hw 10 10 0 dX11_back_38 rfl rfl rfl (by rw [h3_0]; unfold vp_in; decide) (by rw [h3_0]; decide) rfl ?_
        obtain ⟨r4, hc4, hf⟩ := e_bind hf
        refine E.callVDs (es' := (wW79 G b v0_faultPlace v0_quashedRows v0_lastRefusal r4.1 r4.2.1 r4.2.2.1 r4.2.2.2.1 r4.2.2.2.2.1 r4.2.2.2.2.2.1 r4.2.2.2.2.2.2.1 r4.2.2.2.2.2.2.2.1 r4.2.2.2.2.2.2.2.2.1 r4.2.2.2.2.2.2.2.2.2.1 r4.2.2.2.2.2.2.2.2.2.2.1 r4.2.2.2.2.2.2.2.2.2.2.2.1 r4.2.2.2.2.2.2.2.2.2.2.2.2 v11_beasts v11_meals v11_seats v11_laws v11_inForce a12 a13 a14 a15 v16_cases a17 a18 a19 v20_beasts v20_meals v20_seats v20_laws v20_inForce a21 a22 a23 a24 v25_cases a26 a27 a28 a29 v42_beasts v42_seats v42_seated v42_quota v42_known v42_surveyed v42_steadyBench v42_steadyWays v42_steadySwing a78)) [] [1, 2, 3, 4, 5, 6, 7, 8, 9, 11, 12, 13, 14, 15, 16, 17, 18, 19] 1 1 dX11_back_39 mlX11_363 hw rfl rfl rfl rfl (mX10_become (hw.pick2 [1, 2, 3, 4, 5, 6, 7, 8, 9, 11, 12, 13, 14, 15, 16, 17, 18, 19] rfl (by decide)) (hQ_a15.pick [1, 2, 3, 4, 5, 6, 7, 8, 9, 11, 12, 13, 14, 15, 16, 17, 18, 19] rfl) hc4) rfl rfl rfl rfl ⟨Nat.le_of_ble_eq_true rfl, Nat.le_of_ble_eq_true rfl⟩ rfl rfl (Nat.le_of_ble_eq_true rfl) ⟨Nat.le_refl _, Nat.le_refl _⟩ rfl ?_
        refine E.aload_n 0 dX11_back_42 rfl ?_
        refine E.iconst (v := 0) dX11_back_43 (by decide) ?_
        obtain ⟨r5, hc5, hf⟩ := e_bind hf
        refine E.callVDs (es' := (wW79 G b v0_faultPlace v0_quashedRows r5.2.1 r4.1 r4.2.1 r4.2.2.1 r4.2.2.2.1 r4.2.2.2.2.1 r4.2.2.2.2.2.1 r4.2.2.2.2.2.2.1 r4.2.2.2.2.2.2.2.1 r4.2.2.2.2.2.2.2.2.1 r4.2.2.2.2.2.2.2.2.2.1 r4.2.2.2.2.2.2.2.2.2.2.1 r4.2.2.2.2.2.2.2.2.2.2.2.1 r4.2.2.2.2.2.2.2.2.2.2.2.2 v11_beasts v11_meals v11_seats v11_laws v11_inForce a12 a13 a14 a15 v16_cases a17 a18 a19 v20_beasts v20_meals v20_seats v20_laws v20_inForce a21 a22 a23 a24 v25_cases a26 a27 a28 a29 v42_beasts v42_seats v42_seated v42_quota r5.2.2 v42_surveyed v42_steadyBench v42_steadyWays v42_steadySwing a78)) [] [0, 30] 0 0 dX11_back_44 mlX11_108 hw rfl rfl rfl rfl (mX11_accept (hw.pick2 [0, 30] rfl (by decide)) hc5) rfl rfl rfl rfl ⟨Nat.le_of_ble_eq_true rfl, Nat.le_of_ble_eq_true rfl⟩ rfl rfl (Nat.le_of_ble_eq_true rfl) ⟨Nat.le_refl _, Nat.le_refl _⟩ rfl ?_
        cases hf
        exact E.iret dX11_back_47 (Nat.le_refl _) (Nat.le_refl _) (pD_rf _ _ _)
      · have hf := e_iff hf h3_0
        by_cases h3_1 : (x1 : Int32) = 1
        · have hf := e_ift hf h3_1
          refine E.aaldL hw 10 10 1 dX11_back_38 rfl rfl rfl (by rw [h3_1]; unfold vp_in; decide) (by rw [h3_1]; decide) rfl ?_
          obtain ⟨r6, hc6, hf⟩ := e_bind hf
          refine E.callVDs (es' := (wW79 G b v0_faultPlace v0_quashedRows v0_lastRefusal r6.1 r6.2.1 r6.2.2.1 r6.2.2.2.1 r6.2.2.2.2.1 r6.2.2.2.2.2.1 r6.2.2.2.2.2.2.1 r6.2.2.2.2.2.2.2.1 r6.2.2.2.2.2.2.2.2.1 r6.2.2.2.2.2.2.2.2.2.1 r6.2.2.2.2.2.2.2.2.2.2.1 r6.2.2.2.2.2.2.2.2.2.2.2.1 r6.2.2.2.2.2.2.2.2.2.2.2.2 v11_beasts v11_meals v11_seats v11_laws v11_inForce a12 a13 a14 a15 v16_cases a17 a18 a19 v20_beasts v20_meals v20_seats v20_laws v20_inForce a21 a22 a23 a24 v25_cases a26 a27 a28 a29 v42_beasts v42_seats v42_seated v42_quota v42_known v42_surveyed v42_steadyBench v42_steadyWays v42_steadySwing a78)) [] [1, 2, 3, 4, 5, 6, 7, 8, 9, 20, 21, 22, 23, 24, 25, 26, 27, 28] 1 1 dX11_back_39 mlX11_363 hw rfl rfl rfl rfl (mX10_become (hw.pick2 [1, 2, 3, 4, 5, 6, 7, 8, 9, 20, 21, 22, 23, 24, 25, 26, 27, 28] rfl (by decide)) (hQ_a24.pick [1, 2, 3, 4, 5, 6, 7, 8, 9, 20, 21, 22, 23, 24, 25, 26, 27, 28] rfl) hc6) rfl rfl rfl rfl ⟨Nat.le_of_ble_eq_true rfl, Nat.le_of_ble_eq_true rfl⟩ rfl rfl (Nat.le_of_ble_eq_true rfl) ⟨Nat.le_refl _, Nat.le_refl _⟩ rfl ?_
          refine E.aload_n 0 dX11_back_42 rfl ?_
          refine E.iconst (v := 0) dX11_back_43 (by decide) ?_
          obtain ⟨r7, hc7, hf⟩ := e_bind hf
          refine E.callVDs (es' := (wW79 G b v0_faultPlace v0_quashedRows r7.2.1 r6.1 r6.2.1 r6.2.2.1 r6.2.2.2.1 r6.2.2.2.2.1 r6.2.2.2.2.2.1 r6.2.2.2.2.2.2.1 r6.2.2.2.2.2.2.2.1 r6.2.2.2.2.2.2.2.2.1 r6.2.2.2.2.2.2.2.2.2.1 r6.2.2.2.2.2.2.2.2.2.2.1 r6.2.2.2.2.2.2.2.2.2.2.2.1 r6.2.2.2.2.2.2.2.2.2.2.2.2 v11_beasts v11_meals v11_seats v11_laws v11_inForce a12 a13 a14 a15 v16_cases a17 a18 a19 v20_beasts v20_meals v20_seats v20_laws v20_inForce a21 a22 a23 a24 v25_cases a26 a27 a28 a29 v42_beasts v42_seats v42_seated v42_quota r7.2.2 v42_surveyed v42_steadyBench v42_steadyWays v42_steadySwing a78)) [] [0, 30] 0 0 dX11_back_44 mlX11_108 hw rfl rfl rfl rfl (mX11_accept (hw.pick2 [0, 30] rfl (by decide)) hc7) rfl rfl rfl rfl ⟨Nat.le_of_ble_eq_true rfl, Nat.le_of_ble_eq_true rfl⟩ rfl rfl (Nat.le_of_ble_eq_true rfl) ⟨Nat.le_refl _, Nat.le_refl _⟩ rfl ?_
          cases hf
          exact E.iret dX11_back_47 (Nat.le_refl _) (Nat.le_refl _) (pD_rf _ _ _)
        · have hf := e_iff hf h3_1
          cases hf
    · have hf := e_ift hf h
      refine E.aload_n 0 dX11_back_22 rfl ?_
      refine E.bipush (v := -2) dX11_back_23 (by decide) ?_
      obtain ⟨r8, hc8, hf⟩ := e_bind hf
      refine E.callVDs (es' := (wW79 G b v0_faultPlace v0_quashedRows r8.2.1 v1_beasts v1_meals v1_seats v1_laws v1_inForce a2 a3 a4 a5 v6_cases a7 a8 a9 v11_beasts v11_meals v11_seats v11_laws v11_inForce a12 a13 a14 a15 v16_cases a17 a18 a19 v20_beasts v20_meals v20_seats v20_laws v20_inForce a21 a22 a23 a24 v25_cases a26 a27 a28 a29 v42_beasts v42_seats v42_seated v42_quota v42_known v42_surveyed v42_steadyBench v42_steadyWays v42_steadySwing r8.2.2)) [] [0, 31] 0 0 dX11_back_25 mlX11_97 hw rfl rfl rfl rfl (mX11_refuse (hw.pick2 [0, 31] rfl (by decide)) hc8) rfl rfl rfl rfl ⟨Nat.le_of_ble_eq_true rfl, Nat.le_of_ble_eq_true rfl⟩ rfl rfl (Nat.le_of_ble_eq_true rfl) ⟨Nat.le_refl _, Nat.le_refl _⟩ rfl ?_
      cases hf
      exact E.iret dX11_back_28 (Nat.le_refl _) (Nat.le_refl _) (pD_rf _ _ _)
  · have hf := e_ift hf h
    refine E.aload_n 0 dX11_back_7 rfl ?_
    refine E.iconst (v := -1) dX11_back_8 (by decide) ?_
    obtain ⟨r9, hc9, hf⟩ := e_bind hf
    refine E.callVDs (es' := (wW79 G b v0_faultPlace v0_quashedRows r9.2.1 v1_beasts v1_meals v1_seats v1_laws v1_inForce a2 a3 a4 a5 v6_cases a7 a8 a9 v11_beasts v11_meals v11_seats v11_laws v11_inForce a12 a13 a14 a15 v16_cases a17 a18 a19 v20_beasts v20_meals v20_seats v20_laws v20_inForce a21 a22 a23 a24 v25_cases a26 a27 a28 a29 v42_beasts v42_seats v42_seated v42_quota v42_known v42_surveyed v42_steadyBench v42_steadyWays v42_steadySwing r9.2.2)) [] [0, 31] 0 0 dX11_back_9 mlX11_97 hw rfl rfl rfl rfl (mX11_refuse (hw.pick2 [0, 31] rfl (by decide)) hc9) rfl rfl rfl rfl ⟨Nat.le_of_ble_eq_true rfl, Nat.le_of_ble_eq_true rfl⟩ rfl rfl (Nat.le_of_ble_eq_true rfl) ⟨Nat.le_refl _, Nat.le_refl _⟩ rfl ?_
    cases hf
    exact E.iret dX11_back_12 (Nat.le_refl _) (Nat.le_refl _) (pD_rf _ _ _)
set_option maxRecDepth 100000 in
theorem mX11_back {G : GT} {b : Nat} {c0 : Hp} {n : Nat} {a15 : Nat → Option Nat} {a24 : Nat → Option Nat} (hw : e_wf (kW79) n) {v0_faultPlace : Int32} {v0_quashedRows : Int32} {v42_beasts : Int32} {v42_seats : Int32} {v42_seated : Int32} {v42_quota : Int32} {v42_surveyed : Int32} {v42_steadyBench : Int32} {v42_steadyWays : Int32} {v42_steadySwing : Int64} (hQ_a15 : e_Qs b n (kW79) c0 a15) (hQ_a24 : e_Qs b n (kW79) c0 a24) {Fu : Nat} {v0_lastRefusal : Int32} {v1_beasts : Int32} {v1_meals : Int32} {v1_seats : Int32} {v1_laws : Int32} {v1_inForce : Int32} {a2 : Nat → Int32} {a3 : Nat → Int32} {a4 : Nat → Int32} {a5 : Nat → Option Nat} {v6_cases : Int32} {a7 : Nat → Int32} {a8 : Nat → Int32} {a9 : Nat → Int32} {v11_beasts : Int32} {v11_meals : Int32} {v11_seats : Int32} {v11_laws : Int32} {v11_inForce : Int32} {a12 : Nat → Int32} {a13 : Nat → Int32} {a14 : Nat → Int32} {v16_cases : Int32} {a17 : Nat → Int32} {a18 : Nat → Int32} {a19 : Nat → Int32} {v20_beasts : Int32} {v20_meals : Int32} {v20_seats : Int32} {v20_laws : Int32} {v20_inForce : Int32} {a21 : Nat → Int32} {a22 : Nat → Int32} {a23 : Nat → Int32} {v25_cases : Int32} {a26 : Nat → Int32} {a27 : Nat → Int32} {a28 : Nat → Int32} {a29 : Nat → Int32} {v42_known : Int32} {a78 : Nat → Int32} {x1 : Int32} {R : Int32 × Int32 × Int32 × Int32 × Int32 × Int32 × Int32 × (Nat → Int32) × (Nat → Int32) × (Nat → Int32) × (Nat → Option Nat) × Int32 × (Nat → Int32) × (Nat → Int32) × (Nat → Int32) × Int32 × (Nat → Int32)} (hf : fX11_back Fu v0_lastRefusal v1_beasts v1_meals v1_seats v1_laws v1_inForce a2 a3 a4 a5 v6_cases a7 a8 a9 v11_beasts v11_meals v11_seats v11_laws v11_inForce a12 a13 a14 a15 v16_cases a17 a18 a19 v20_beasts v20_meals v20_seats v20_laws v20_inForce a21 a22 a23 a24 v25_cases a26 a27 a28 a29 v42_known a78 x1 = some R) : e_C G b yX11_back cX11_back 2 (some .int) 3 0 0 [.ref (b + 0), .int x1] (e_ov (kW79) (wW79 G b v0_faultPlace v0_quashedRows v0_lastRefusal v1_beasts v1_meals v1_seats v1_laws v1_inForce a2 a3 a4 a5 v6_cases a7 a8 a9 v11_beasts v11_meals v11_seats v11_laws v11_inForce a12 a13 a14 a15 v16_cases a17 a18 a19 v20_beasts v20_meals v20_seats v20_laws v20_inForce a21 a22 a23 a24 v25_cases a26 a27 a28 a29 v42_beasts v42_seats v42_seated v42_quota v42_known v42_surveyed v42_steadyBench v42_steadyWays v42_steadySwing a78) c0) n (pD (some (.int R.1)) (e_ov (kW79) (wW79 G b v0_faultPlace v0_quashedRows R.2.1 R.2.2.1 R.2.2.2.1 R.2.2.2.2.1 R.2.2.2.2.2.1 R.2.2.2.2.2.2.1 R.2.2.2.2.2.2.2.1 R.2.2.2.2.2.2.2.2.1 R.2.2.2.2.2.2.2.2.2.1 R.2.2.2.2.2.2.2.2.2.2.1 R.2.2.2.2.2.2.2.2.2.2.2.1 R.2.2.2.2.2.2.2.2.2.2.2.2.1 R.2.2.2.2.2.2.2.2.2.2.2.2.2.1 R.2.2.2.2.2.2.2.2.2.2.2.2.2.2.1 v11_beasts v11_meals v11_seats v11_laws v11_inForce a12 a13 a14 a15 v16_cases a17 a18 a19 v20_beasts v20_meals v20_seats v20_laws v20_inForce a21 a22 a23 a24 v25_cases a26 a27 a28 a29 v42_beasts v42_seats v42_seated v42_quota R.2.2.2.2.2.2.2.2.2.2.2.2.2.2.2.1 v42_surveyed v42_steadyBench v42_steadyWays v42_steadySwing R.2.2.2.2.2.2.2.2.2.2.2.2.2.2.2.2) c0) n) := e_C.of (by decide) (Nat.le_of_ble_eq_true rfl) (tX11_back hw hQ_a15 hQ_a24 hf)
abbrev kW80 : List Nat := [0, 1, 4, 6, 30, 78]
abbrev wW80 (G : GT) (b  : Nat) (v0_faultPlace : Int32) (v0_quashedRows : Int32) (v0_lastRefusal : Int32) (v1_beasts : Int32) (v1_meals : Int32) (v1_seats : Int32) (v1_laws : Int32) (v1_inForce : Int32) (a4 : Nat → Int32) (v6_cases : Int32) (v30_length : Int32) (a78 : Nat → Int32) : List va_E := [.inr (11, [.ref (b + 1), .ref (b + 10), .ref (b + 29), .ref (b + 30), .ref (b + 32), .ref (b + 37), .ref (b + 40), .ref (b + 42), .ref (b + 69), .ref (b + 73), .ref (b + 74), .ref (b + 76), .ref (b + 78), .int v0_faultPlace, .int v0_quashedRows, .int v0_lastRefusal]), .inr (10, [.ref (b + 2), .ref (b + 3), .ref (b + 4), .ref (b + 5), .ref (b + 6), .int v1_beasts, .int v1_meals, .int v1_seats, .int v1_laws, .int v1_inForce]), aI G 6 a4, .inr (2, [.ref (b + 7), .ref (b + 8), .ref (b + 9), .int v6_cases]), .inr (9, [.ref (b + 31), .int v30_length]), aI G 7 a78]
def fX11_count_L51 (v1_beasts : Int32) (v1_meals : Int32) (v1_seats : Int32) (v1_laws : Int32) (v1_inForce : Int32) (a4 : Nat → Int32) (v6_cases : Int32) (v30_length : Int32) (a78 : Nat → Int32) (x1 : Int32) : Option (Int32) := if (x1 : Int32) = 0 then (some (v1_beasts)) else (if (x1 : Int32) = 1 then (some (v1_meals)) else (if (x1 : Int32) = 2 then (some (v1_laws)) else (if (x1 : Int32) = 3 then (some (v6_cases)) else (if (x1 : Int32) = 4 then ((fJ6_bitCount_0f7a4 v1_seats).bind fun r4 => (some (r4))) else (if (x1 : Int32) = 5 then (some (v30_length)) else (if (x1 : Int32) = 11 then (some (v1_inForce)) else (some ((-1 : Int32)))))))))
set_option maxHeartbeats 4000000 in
set_option maxRecDepth 100000 in
theorem tX11_count_L51 {G : GT} {b : Nat} {c0 : Hp} {n : Nat} (hw : e_wf (kW80) n) {v0_faultPlace : Int32} {v0_quashedRows : Int32} {v0_lastRefusal : Int32} {v1_beasts : Int32} {v1_meals : Int32} {v1_seats : Int32} {v1_laws : Int32} {v1_inForce : Int32} {a4 : Nat → Int32} {v6_cases : Int32} {v30_length : Int32} {a78 : Nat → Int32} {x1 : Int32} {R : Int32} (hf : fX11_count_L51 v1_beasts v1_meals v1_seats v1_laws v1_inForce a4 v6_cases v30_length a78 x1 = some R) : E G b yX11_count cX11_count 2 (some .int) (e_rm 1 0 0) e_X0 (e_Z G b (pD (some (.int R)) (e_ov (kW80) (wW80 G b v0_faultPlace v0_quashedRows v0_lastRefusal v1_beasts v1_meals v1_seats v1_laws v1_inForce a4 v6_cases v30_length a78) c0) n) 0 0) 51 [(0, .ref (b + 0)), (1, .int x1)] [] (e_ov (kW80) (wW80 G b v0_faultPlace v0_quashedRows v0_lastRefusal v1_beasts v1_meals v1_seats v1_laws v1_inForce a4 v6_cases v30_length a78) c0) n 0 0 := by
  unfold fX11_count_L51 at hf
  refine E.iload_n 1 dX11_count_51 rfl ?_
  by_cases h0 : (x1 : Int32) = 0
  · have hf := e_ift hf h0
    refine E.tswI (w := 0) (tgt := 116) dX11_count_52 h0 (by decide) (by decide) (o2 := 64) rfl (by decide) ?_
    refine E.aload_n 0 dX11_count_116 rfl ?_
    refine E.get hw 0 0 dX11_count_117 flX11_10 rfl rfl rfl rfl ?_
    refine E.getN hw 1 1 dX11_count_120 fnX11_101 rfl rfl rfl rfl ?_
    cases hf
    exact E.iret dX11_count_123 (Nat.le_refl _) (Nat.le_refl _) (pD_rf _ _ _)
  · have hf := e_iff hf h0
    by_cases h1 : (x1 : Int32) = 1
    · have hf := e_ift hf h1
      refine E.tswI (w := 1) (tgt := 124) dX11_count_52 h1 (by decide) (by decide) (o2 := 72) rfl (by decide) ?_
      refine E.aload_n 0 dX11_count_124 rfl ?_
      refine E.get hw 0 0 dX11_count_125 flX11_10 rfl rfl rfl rfl ?_
      refine E.getN hw 1 1 dX11_count_128 fnX11_122 rfl rfl rfl rfl ?_
      cases hf
      exact E.iret dX11_count_131 (Nat.le_refl _) (Nat.le_refl _) (pD_rf _ _ _)
    · have hf := e_iff hf h1
      by_cases h2 : (x1 : Int32) = 2
      · have hf := e_ift hf h2
        refine E.tswI (w := 2) (tgt := 132) dX11_count_52 h2 (by decide) (by decide) (o2 := 80) rfl (by decide) ?_
        refine E.aload_n 0 dX11_count_132 rfl ?_
        refine E.get hw 0 0 dX11_count_133 flX11_10 rfl rfl rfl rfl ?_
        refine E.getN hw 1 1 dX11_count_136 fnX11_181 rfl rfl rfl rfl ?_
        cases hf
        exact E.iret dX11_count_139 (Nat.le_refl _) (Nat.le_refl _) (pD_rf _ _ _)
      · have hf := e_iff hf h2
        by_cases h3 : (x1 : Int32) = 3
        · have hf := e_ift hf h3
          refine E.tswI (w := 3) (tgt := 140) dX11_count_52 h3 (by decide) (by decide) (o2 := 88) rfl (by decide) ?_
          refine E.aload_n 0 dX11_count_140 rfl ?_
          refine E.get hw 0 0 dX11_count_141 flX11_10 rfl rfl rfl rfl ?_
          refine E.getN hw 1 1 dX11_count_144 fnX11_169 rfl rfl rfl rfl ?_
          refine E.getN hw 3 6 dX11_count_147 fnX11_173 rfl rfl rfl rfl ?_
          cases hf
          exact E.iret dX11_count_150 (Nat.le_refl _) (Nat.le_refl _) (pD_rf _ _ _)
        · have hf := e_iff hf h3
          by_cases h4 : (x1 : Int32) = 4
          · have hf := e_ift hf h4
            refine E.tswI (w := 4) (tgt := 151) dX11_count_52 h4 (by decide) (by decide) (o2 := 99) rfl (by decide) ?_
            refine E.aload_n 0 dX11_count_151 rfl ?_
            refine E.get hw 0 0 dX11_count_152 flX11_10 rfl rfl rfl rfl ?_
            refine E.getN hw 1 1 dX11_count_155 fnX11_140 rfl rfl rfl rfl ?_
            obtain ⟨r4, hc4, hf⟩ := e_bind hf
            refine E.callSD [] dX11_count_158 mlX11_226 (mJ6_bitCount_0f7a4 hc4) ⟨Nat.le_of_ble_eq_true rfl, Nat.le_of_ble_eq_true rfl⟩ rfl rfl (Nat.le_of_ble_eq_true rfl) ⟨Nat.le_refl _, Nat.le_refl _⟩ rfl ?_
            cases hf
            exact E.iret dX11_count_161 (Nat.le_refl _) (Nat.le_refl _) (pD_rf _ _ _)
          · have hf := e_iff hf h4
            by_cases h5 : (x1 : Int32) = 5
            · have hf := e_ift hf h5
              refine E.tswI (w := 5) (tgt := 162) dX11_count_52 h5 (by decide) (by decide) (o2 := 110) rfl (by decide) ?_
              refine E.aload_n 0 dX11_count_162 rfl ?_
              refine E.get hw 0 0 dX11_count_163 flX11_27 rfl rfl rfl rfl ?_
              refine E.getN hw 4 30 dX11_count_166 fnX11_152 rfl rfl rfl rfl ?_
              cases hf
              exact E.iret dX11_count_169 (Nat.le_refl _) (Nat.le_refl _) (pD_rf _ _ _)
            · have hf := e_iff hf h5
              by_cases h11 : (x1 : Int32) = 11
              · have hf := e_ift hf h11
                refine E.tswI (w := 11) (tgt := 170) dX11_count_52 h11 (by decide) (by decide) (o2 := 118) rfl (by decide) ?_
                refine E.aload_n 0 dX11_count_170 rfl ?_
                refine E.get hw 0 0 dX11_count_171 flX11_10 rfl rfl rfl rfl ?_
                refine E.getN hw 1 1 dX11_count_174 fnX11_196 rfl rfl rfl rfl ?_
                cases hf
                exact E.iret dX11_count_177 (Nat.le_refl _) (Nat.le_refl _) (pD_rf _ _ _)
              · have hf := e_iff hf h11
                by_cases h6 : (x1 : Int32) = 6
                · refine E.tswI (w := 6) (tgt := 178) dX11_count_52 h6 (by decide) (by decide) (o2 := 126) rfl (by decide) ?_
                  refine E.iconst (v := -1) dX11_count_178 (by decide) ?_
                  cases hf
                  exact E.iret dX11_count_179 (Nat.le_refl _) (Nat.le_refl _) (pD_rf _ _ _)
                · skip
                  by_cases h7 : (x1 : Int32) = 7
                  · refine E.tswI (w := 7) (tgt := 178) dX11_count_52 h7 (by decide) (by decide) (o2 := 126) rfl (by decide) ?_
                    refine E.iconst (v := -1) dX11_count_178 (by decide) ?_
                    cases hf
                    exact E.iret dX11_count_179 (Nat.le_refl _) (Nat.le_refl _) (pD_rf _ _ _)
                  · skip
                    by_cases h8 : (x1 : Int32) = 8
                    · refine E.tswI (w := 8) (tgt := 178) dX11_count_52 h8 (by decide) (by decide) (o2 := 126) rfl (by decide) ?_
                      refine E.iconst (v := -1) dX11_count_178 (by decide) ?_
                      cases hf
                      exact E.iret dX11_count_179 (Nat.le_refl _) (Nat.le_refl _) (pD_rf _ _ _)
                    · skip
                      by_cases h9 : (x1 : Int32) = 9
                      · refine E.tswI (w := 9) (tgt := 178) dX11_count_52 h9 (by decide) (by decide) (o2 := 126) rfl (by decide) ?_
                        refine E.iconst (v := -1) dX11_count_178 (by decide) ?_
                        cases hf
                        exact E.iret dX11_count_179 (Nat.le_refl _) (Nat.le_refl _) (pD_rf _ _ _)
                      · skip
                        by_cases h10 : (x1 : Int32) = 10
                        · refine E.tswI (w := 10) (tgt := 178) dX11_count_52 h10 (by decide) (by decide) (o2 := 126) rfl (by decide) ?_
                          refine E.iconst (v := -1) dX11_count_178 (by decide) ?_
                          cases hf
                          exact E.iret dX11_count_179 (Nat.le_refl _) (Nat.le_refl _) (pD_rf _ _ _)
                        · skip
                          refine E.tswO (tgt := 178) dX11_count_52 (e_tsw_12 (ne_toInt h0 (k := 0) (by decide)) (ne_toInt h1 (k := 1) (by decide)) (ne_toInt h2 (k := 2) (by decide)) (ne_toInt h3 (k := 3) (by decide)) (ne_toInt h4 (k := 4) (by decide)) (ne_toInt h5 (k := 5) (by decide)) (ne_toInt h6 (k := 6) (by decide)) (ne_toInt h7 (k := 7) (by decide)) (ne_toInt h8 (k := 8) (by decide)) (ne_toInt h9 (k := 9) (by decide)) (ne_toInt h10 (k := 10) (by decide)) (ne_toInt h11 (k := 11) (by decide)) (by decide) (by decide) (by decide) (by decide) (by decide) (by decide) (by decide) (by decide) (by decide) (by decide) (by decide) (by decide) (by decide)) (by decide) ?_
                          refine E.iconst (v := -1) dX11_count_178 (by decide) ?_
                          cases hf
                          exact E.iret dX11_count_179 (Nat.le_refl _) (Nat.le_refl _) (pD_rf _ _ _)
def fX11_count_L26 (v1_beasts : Int32) (v1_meals : Int32) (v1_seats : Int32) (v1_laws : Int32) (v1_inForce : Int32) (a4 : Nat → Int32) (v6_cases : Int32) (v30_length : Int32) (a78 : Nat → Int32) (x1 : Int32) : Option (Int32) := if (x1 : Int32) < (12 : Int32) then (fX11_count_L51 v1_beasts v1_meals v1_seats v1_laws v1_inForce a4 v6_cases v30_length a78 x1) else (if (18 : Int32) ≤ (x1 : Int32) then (fX11_count_L51 v1_beasts v1_meals v1_seats v1_laws v1_inForce a4 v6_cases v30_length a78 x1) else (gd (x1 - 12) 6 (some ((a4 ((x1 - 12) : Int32).toNatClampNeg)))))
set_option maxHeartbeats 4000000 in
set_option maxRecDepth 100000 in
theorem tX11_count_L26 {G : GT} {b : Nat} {c0 : Hp} {n : Nat} (hw : e_wf (kW80) n) {v0_faultPlace : Int32} {v0_quashedRows : Int32} {v0_lastRefusal : Int32} {v1_beasts : Int32} {v1_meals : Int32} {v1_seats : Int32} {v1_laws : Int32} {v1_inForce : Int32} {a4 : Nat → Int32} {v6_cases : Int32} {v30_length : Int32} {a78 : Nat → Int32} {x1 : Int32} {R : Int32} (hf : fX11_count_L26 v1_beasts v1_meals v1_seats v1_laws v1_inForce a4 v6_cases v30_length a78 x1 = some R) : E G b yX11_count cX11_count 2 (some .int) (e_rm 1 0 0) e_X0 (e_Z G b (pD (some (.int R)) (e_ov (kW80) (wW80 G b v0_faultPlace v0_quashedRows v0_lastRefusal v1_beasts v1_meals v1_seats v1_laws v1_inForce a4 v6_cases v30_length a78) c0) n) 0 0) 26 [(0, .ref (b + 0)), (1, .int x1)] [] (e_ov (kW80) (wW80 G b v0_faultPlace v0_quashedRows v0_lastRefusal v1_beasts v1_meals v1_seats v1_laws v1_inForce a4 v6_cases v30_length a78) c0) n 0 0 := by
  unfold fX11_count_L26 at hf
  refine E.iload_n 1 dX11_count_26 rfl ?_
  refine E.bipush (v := 12) dX11_count_27 (by decide) ?_
  refine E.icmp_lt dX11_count_29 (fun h => ?_) (fun h => ?_)
  · have hf := e_ift hf h
    exact tX11_count_L51 hw hf
  · have hf := e_iff hf h
    refine E.iload_n 1 dX11_count_32 rfl ?_
    refine E.bipush (v := 18) dX11_count_33 (by decide) ?_
    refine E.icmp_ge dX11_count_35 (fun h => ?_) (fun h => ?_)
    · have hf := e_ift hf h
      exact tX11_count_L51 hw hf
    · have hf := e_iff hf h
      refine E.aload_n 0 dX11_count_38 rfl ?_
      refine E.get hw 0 0 dX11_count_39 flX11_10 rfl rfl rfl rfl ?_
      refine E.getN hw 1 1 dX11_count_42 fnX11_149 rfl rfl rfl rfl ?_
      refine E.iload_n 1 dX11_count_45 rfl ?_
      refine E.bipush (v := 12) dX11_count_46 (by decide) ?_
      refine E.isub dX11_count_48 ?_
      obtain ⟨g3, hf⟩ := gd_some hf
      refine E.iald hw 2 4 dX11_count_49 rfl rfl g3 ?_
      cases hf
      exact E.iret dX11_count_50 (Nat.le_refl _) (Nat.le_refl _) (pD_rf _ _ _)
def fX11_count (v1_beasts : Int32) (v1_meals : Int32) (v1_seats : Int32) (v1_laws : Int32) (v1_inForce : Int32) (a4 : Nat → Int32) (v6_cases : Int32) (v30_length : Int32) (a78 : Nat → Int32) (x1 : Int32) : Option (Int32) := if (x1 : Int32) < (6 : Int32) then (fX11_count_L26 v1_beasts v1_meals v1_seats v1_laws v1_inForce a4 v6_cases v30_length a78 x1) else (if (10 : Int32) < (x1 : Int32) then (fX11_count_L26 v1_beasts v1_meals v1_seats v1_laws v1_inForce a4 v6_cases v30_length a78 x1) else (gd (x1 - 6) 5 (gd ((e_sX 4).getD ((x1 - 6) : Int32).toNatClampNeg 0) 7 (some ((a78 (((e_sX 4).getD ((x1 - 6) : Int32).toNatClampNeg 0) : Int32).toNatClampNeg))))))
set_option maxHeartbeats 4000000 in
set_option maxRecDepth 100000 in
theorem tX11_count {G : GT} {b : Nat} {c0 : Hp} {n : Nat} (hw : e_wf (kW80) n) {v0_faultPlace : Int32} {v0_quashedRows : Int32} {v0_lastRefusal : Int32} {v1_beasts : Int32} {v1_meals : Int32} {v1_seats : Int32} {v1_laws : Int32} {v1_inForce : Int32} {a4 : Nat → Int32} {v6_cases : Int32} {v30_length : Int32} {a78 : Nat → Int32} {x1 : Int32} {R : Int32} (hf : fX11_count v1_beasts v1_meals v1_seats v1_laws v1_inForce a4 v6_cases v30_length a78 x1 = some R) : E G b yX11_count cX11_count 2 (some .int) (e_rm 1 0 0) e_X0 (e_Z G b (pD (some (.int R)) (e_ov (kW80) (wW80 G b v0_faultPlace v0_quashedRows v0_lastRefusal v1_beasts v1_meals v1_seats v1_laws v1_inForce a4 v6_cases v30_length a78) c0) n) 0 0) 0 [(0, .ref (b + 0)), (1, .int x1)] [] (e_ov (kW80) (wW80 G b v0_faultPlace v0_quashedRows v0_lastRefusal v1_beasts v1_meals v1_seats v1_laws v1_inForce a4 v6_cases v30_length a78) c0) n 0 0 := by
  unfold fX11_count at hf
  refine E.iload_n 1 dX11_count_0 rfl ?_
  refine E.bipush (v := 6) dX11_count_1 (by decide) ?_
  refine E.icmp_lt dX11_count_3 (fun h => ?_) (fun h => ?_)
  · have hf := e_ift hf h
    exact tX11_count_L26 hw hf
  · have hf := e_iff hf h
    refine E.iload_n 1 dX11_count_6 rfl ?_
    refine E.bipush (v := 10) dX11_count_7 (by decide) ?_
    refine E.icmp_gt dX11_count_9 (fun h => ?_) (fun h => ?_)
    · have hf := e_ift hf h
      exact tX11_count_L26 hw hf
    · have hf := e_iff hf h
      refine E.aload_n 0 dX11_count_12 rfl ?_
      refine E.get hw 0 0 dX11_count_13 flX11_85 rfl rfl rfl rfl ?_
      refine E.gets 4 (own := "") (by decide) dX11_count_16 (gT_in 1214 (by decide +kernel) rfl) ?_
      refine E.iload_n 1 dX11_count_19 rfl ?_
      refine E.bipush (v := 6) dX11_count_20 (by decide) ?_
      refine E.isub dX11_count_22 ?_
      obtain ⟨g1, hf⟩ := gd_some hf
      refine E.ti 4 (by decide) dX11_count_23 rfl g1 ?_
      obtain ⟨g2, hf⟩ := gd_some hf
      refine E.iald hw 5 78 dX11_count_24 rfl rfl g2 ?_
      cases hf
      exact E.iret dX11_count_25 (Nat.le_refl _) (Nat.le_refl _) (pD_rf _ _ _)
set_option maxRecDepth 100000 in
theorem mX11_count {G : GT} {b : Nat} {c0 : Hp} {n : Nat} (hw : e_wf (kW80) n) {v0_faultPlace : Int32} {v0_quashedRows : Int32} {v0_lastRefusal : Int32} {v1_beasts : Int32} {v1_meals : Int32} {v1_seats : Int32} {v1_laws : Int32} {v1_inForce : Int32} {a4 : Nat → Int32} {v6_cases : Int32} {v30_length : Int32} {a78 : Nat → Int32} {x1 : Int32} {R : Int32} (hf : fX11_count v1_beasts v1_meals v1_seats v1_laws v1_inForce a4 v6_cases v30_length a78 x1 = some R) : e_C G b yX11_count cX11_count 2 (some .int) 1 0 0 [.ref (b + 0), .int x1] (e_ov (kW80) (wW80 G b v0_faultPlace v0_quashedRows v0_lastRefusal v1_beasts v1_meals v1_seats v1_laws v1_inForce a4 v6_cases v30_length a78) c0) n (pD (some (.int R)) (e_ov (kW80) (wW80 G b v0_faultPlace v0_quashedRows v0_lastRefusal v1_beasts v1_meals v1_seats v1_laws v1_inForce a4 v6_cases v30_length a78) c0) n) := e_C.of (by decide) (Nat.le_of_ble_eq_true rfl) (tX11_count hw hf)
def fX11_status (v0_lastRefusal : Int32) : Option (Int32) := some (v0_lastRefusal)
set_option maxHeartbeats 4000000 in
set_option maxRecDepth 100000 in
theorem tX11_status {G : GT} {b : Nat} {c0 : Hp} {n : Nat} (hw : e_wf (kW22) n) {v0_faultPlace : Int32} {v0_quashedRows : Int32} {v0_lastRefusal : Int32} {R : Int32} (hf : fX11_status v0_lastRefusal = some R) : E G b yX11_status cX11_status 1 (some .int) (e_rm 0 0 0) e_X0 (e_Z G b (pD (some (.int R)) (e_ov (kW22) (wW22 G b v0_faultPlace v0_quashedRows v0_lastRefusal) c0) n) 0 0) 0 [(0, .ref (b + 0))] [] (e_ov (kW22) (wW22 G b v0_faultPlace v0_quashedRows v0_lastRefusal) c0) n 0 0 := by
  unfold fX11_status at hf
  refine E.aload_n 0 dX11_status_0 rfl ?_
  refine E.get hw 0 0 dX11_status_1 flX11_369 rfl rfl rfl rfl ?_
  cases hf
  exact E.iret dX11_status_4 (Nat.le_refl _) (Nat.le_refl _) (pD_rf _ _ _)
set_option maxRecDepth 100000 in
theorem mX11_status {G : GT} {b : Nat} {c0 : Hp} {n : Nat} (hw : e_wf (kW22) n) {v0_faultPlace : Int32} {v0_quashedRows : Int32} {v0_lastRefusal : Int32} {R : Int32} (hf : fX11_status v0_lastRefusal = some R) : e_C G b yX11_status cX11_status 1 (some .int) 0 0 0 [.ref (b + 0)] (e_ov (kW22) (wW22 G b v0_faultPlace v0_quashedRows v0_lastRefusal) c0) n (pD (some (.int R)) (e_ov (kW22) (wW22 G b v0_faultPlace v0_quashedRows v0_lastRefusal) c0) n) := e_C.of (by decide) (Nat.le_of_ble_eq_true rfl) (tX11_status hw hf)
