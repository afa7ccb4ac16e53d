def fX4_multiply_L5 (Fu : Nat) : Nat → (Nat → Int64) → Int64 → Int64 → Int32 → Option ((Nat → Int64))
  | 0, _, _, _, _ => none
  | k + 1, aT1, x1, x3, x5 => if (48 : Int32) ≤ (x5 : Int32) then (some (aT1)) else (gd x5 48 (gzl 100 (gd x5 48 (gzl 100 ((fX4_multiply_L5 Fu k) (va_up aT1 (x5 : Int32).toNatClampNeg ((((aT1 (x5 : Int32).toNatClampNeg) * x1) + x3) - (((aT1 (x5 : Int32).toNatClampNeg) * x1) + x3) / 100 * 100)) x1 ((((aT1 (x5 : Int32).toNatClampNeg) * x1) + x3) / 100) (x5 + 1))))))
set_option maxHeartbeats 4000000 in
set_option maxRecDepth 100000 in
theorem tX4_multiply_L5 {G : GT} {b : Nat} {t : Nat} {c0 : Hp} {n : Nat} (hw : e_wf (kW40 t) n)  {Fu : Nat} : ∀ (k : Nat) {aT1 : Nat → Int64} {x1 : Int64} {x3 : Int64} {x5 : Int32} {R : (Nat → Int64)}, fX4_multiply_L5 Fu k aT1 x1 x3 x5 = some R → E G b yX4_multiply cX4_multiply 8 none (e_rm 0 0 0) e_X0 (e_Z G b (pD none (e_ov (kW40 t) (wW40 G b t R) c0) n) 0 0) 5 [(0, .ref (b + t)), (1, .long x1), (3, .long x3), (5, .int x5)] [] (e_ov (kW40 t) (wW40 G b t aT1) c0) n 0 0 := by
  intro k
  induction k with
  | zero =>
    intro _ _ _ _ _ hf
    have hf : (none : Option ((Nat → Int64))) = some _ := hf
    cases hf
  | succ k ih =>
    intro aT1 x1 x3 x5 R hf
    rw [fX4_multiply_L5] at hf
    refine E.iload 3 dX4_multiply_5 rfl ?_
    refine E.bipush (v := 48) dX4_multiply_7 (by decide) ?_
    refine E.icmp_ge dX4_multiply_9 (fun h => ?_) (fun h => ?_)
    · have hf := e_ift hf h
      cases hf
      exact E.vret dX4_multiply_51 (Nat.le_refl _) (Nat.le_refl _) (pD_rf _ _ _)
    · have hf := e_iff hf h
      refine E.aload_n 0 dX4_multiply_12 rfl ?_
      refine E.get hw 0 t dX4_multiply_13 flX4_9 rfl rfl rfl rfl ?_
      refine E.iload 3 dX4_multiply_16 rfl ?_
      obtain ⟨g1, hf⟩ := gd_some hf
      refine E.lald hw 1 (t + 1) dX4_multiply_18 rfl rfl g1 ?_
      refine E.lload_n 1 dX4_multiply_19 rfl ?_
      refine E.lmul dX4_multiply_20 ?_
      refine E.lload_n 2 dX4_multiply_21 rfl ?_
      refine E.ladd dX4_multiply_22 ?_
      refine E.lstore (lv' := [(6, .long (((aT1 (x5 : Int32).toNatClampNeg) * x1) + x3)), (0, .ref (b + t)), (1, .long x1), (3, .long x3), (5, .int x5)]) dX4_multiply_23 (by decide) rfl ?_
      refine E.aload_n 1 dX4_multiply_25 rfl ?_
      refine E.get hw 0 t dX4_multiply_26 flX4_9 rfl rfl rfl rfl ?_
      refine E.iload 4 dX4_multiply_29 rfl ?_
      refine E.lload 0 dX4_multiply_31 rfl ?_
      refine E.ldc2 dX4_multiply_33 kX4_13 ?_
      obtain ⟨g2, hf⟩ := gzl_some hf
      refine E.lrem dX4_multiply_36 g2 ?_
      obtain ⟨g3, hf⟩ := gd_some hf
      refine E.last (es' := (wW40 G b t (va_up aT1 (x5 : Int32).toNatClampNeg ((((aT1 (x5 : Int32).toNatClampNeg) * x1) + x3) - (((aT1 (x5 : Int32).toNatClampNeg) * x1) + x3) / 100 * 100)))) hw 1 (t + 1) dX4_multiply_37 rfl rfl g3 rfl ?_
      refine E.lload 0 dX4_multiply_38 rfl ?_
      refine E.ldc2 dX4_multiply_40 kX4_13 ?_
      obtain ⟨g4, hf⟩ := gzl_some hf
      refine E.ldiv dX4_multiply_43 g4 ?_
      refine E.lstore_n (lv' := [(3, .long ((((aT1 (x5 : Int32).toNatClampNeg) * x1) + x3) / 100)), (6, .long (((aT1 (x5 : Int32).toNatClampNeg) * x1) + x3)), (0, .ref (b + t)), (1, .long x1), (5, .int x5)]) dX4_multiply_44 (by decide) rfl ?_
      refine E.iinc (q := 4) (v := (x5 + 1)) (lv' := [(5, .int (x5 + 1)), (3, .long ((((aT1 (x5 : Int32).toNatClampNeg) * x1) + x3) / 100)), (6, .long (((aT1 (x5 : Int32).toNatClampNeg) * x1) + x3)), (0, .ref (b + t)), (1, .long x1)]) dX4_multiply_45 rfl rfl (by decide) rfl ?_
      refine E.goto dX4_multiply_48 ?_
      refine E.locals [3, 4, 1, 0] rfl ?_
      exact ih hf
def fX4_multiply (Fu : Nat) (aT1 : Nat → Int64) (x1 : Int64) : Option ((Nat → Int64)) := fX4_multiply_L5 Fu Fu aT1 x1 0 0
set_option maxHeartbeats 4000000 in
set_option maxRecDepth 100000 in
theorem tX4_multiply {G : GT} {b : Nat} {t : Nat} {c0 : Hp} {n : Nat} (hw : e_wf (kW40 t) n)  {Fu : Nat} {aT1 : Nat → Int64} {x1 : Int64} {R : (Nat → Int64)} (hf : fX4_multiply Fu aT1 x1 = some R) : E G b yX4_multiply cX4_multiply 8 none (e_rm 0 0 0) e_X0 (e_Z G b (pD none (e_ov (kW40 t) (wW40 G b t R) c0) n) 0 0) 0 [(0, .ref (b + t)), (1, .long x1)] [] (e_ov (kW40 t) (wW40 G b t aT1) c0) n 0 0 := by
  unfold fX4_multiply at hf
  refine E.lconst (v := 0) dX4_multiply_0 (by decide) ?_
  refine E.lstore_n (lv' := [(3, .long 0), (0, .ref (b + t)), (1, .long x1)]) dX4_multiply_1 (by decide) rfl ?_
  refine E.iconst (v := 0) dX4_multiply_2 (by decide) ?_
  refine E.istore (lv' := [(5, .int 0), (3, .long 0), (0, .ref (b + t)), (1, .long x1)]) dX4_multiply_3 (by decide) rfl ?_
  refine E.locals [2, 3, 1, 0] rfl ?_
  exact tX4_multiply_L5 hw _ hf
set_option maxRecDepth 100000 in
theorem mX4_multiply {G : GT} {b : Nat} {t : Nat} {c0 : Hp} {n : Nat} (hw : e_wf (kW40 t) n)  {Fu : Nat} {aT1 : Nat → Int64} {x1 : Int64} {R : (Nat → Int64)} (hf : fX4_multiply Fu aT1 x1 = some R) : e_C G b yX4_multiply cX4_multiply 8 none 0 0 0 [.ref (b + t), .long x1] (e_ov (kW40 t) (wW40 G b t aT1) c0) n (pD none (e_ov (kW40 t) (wW40 G b t R) c0) n) := e_C.of (by decide) (Nat.le_of_ble_eq_true rfl) (tX4_multiply hw hf)
abbrev kW41 : List Nat := [0, 1, 2, 3, 4, 5, 37, 38, 40, 41, 74, 75, 76, 77]
abbrev wW41 (G : GT) (b  : Nat) (v0_faultPlace : Int32) (v0_quashedRows : Int32) (v0_lastRefusal : Int32) (v1_beasts : Int32) (v1_meals : Int32) (v1_seats : Int32) (v1_laws : Int32) (v1_inForce : Int32) (a2 : Nat → Int32) (a3 : Nat → Int32) (a4 : Nat → Int32) (a5 : Nat → Option Nat) (v37_height : Int32) (v37_answer : Int64) (a38 : Nat → Int32) (v40_voters : Int32) (a41 : Nat → Int64) (a75 : Nat → Int64) (a77 : Nat → Int64) : List va_E := [.inr (11, [.ref (b + 1), .ref (b + 10), .ref (b + 29), .ref (b + 30), .ref (b + 32), .ref (b + 37), .ref (b + 40), .ref (b + 42), .ref (b + 69), .ref (b + 73), .ref (b + 74), .ref (b + 76), .ref (b + 78), .int v0_faultPlace, .int v0_quashedRows, .int v0_lastRefusal]), .inr (10, [.ref (b + 2), .ref (b + 3), .ref (b + 4), .ref (b + 5), .ref (b + 6), .int v1_beasts, .int v1_meals, .int v1_seats, .int v1_laws, .int v1_inForce]), aI G 48 a2, aI G 8 a3, aI G 6 a4, aQ G 4 6 a5, .inr (0, [.ref (b + 38), .ref (b + 39), .int v37_height, .long v37_answer]), aI G 10 a38, .inr (8, [.ref (b + 41), .int v40_voters]), aJ G 9 a41, .inr (4, [.ref (b + 75)]), aJ G 48 a75, .inr (4, [.ref (b + 77)]), aJ G 48 a77]
def fX11_appeal_N_L128 (Fu : Nat) (k82 : Int32 → Int32 → Int32 → Int32 → (Nat → Int32) → (Nat → Int32) → (Nat → Int32) → (Nat → Option Nat) → (Nat → Int32) → Int32 → (Nat → Int64) → (Nat → Int64) → (Nat → Int64) → Int32 → Int32 → Int64 → Int64 → Int32 → Option (Int32 × (Nat → Int32) × Int32 × (Nat → Int64) × (Nat → Int64) × (Nat → Int64))) (k105 : Int32 → Int32 → Int32 → Int32 → (Nat → Int32) → (Nat → Int32) → (Nat → Int32) → (Nat → Option Nat) → (Nat → Int32) → Int32 → (Nat → Int64) → (Nat → Int64) → (Nat → Int64) → Int32 → Int32 → Int64 → Int64 → Int32 → Int32 → Option (Int32 × (Nat → Int32) × Int32 × (Nat → Int64) × (Nat → Int64) × (Nat → Int64))) (v1_beasts : Int32) (v1_seats : Int32) (v1_laws : Int32) (v1_inForce : Int32) (a2 : Nat → Int32) (a3 : Nat → Int32) (a4 : Nat → Int32) (a5 : Nat → Option Nat) (a38 : Nat → Int32) (v40_voters : Int32) (a41 : Nat → Int64) (a75 : Nat → Int64) (a77 : Nat → Int64) (x1 : Int32) (x2 : Int32) (x3 : Int64) (x5 : Int64) (x7 : Int32) (x8 : Int32) (s0 : Int64) : Option (Int32 × (Nat → Int32) × Int32 × (Nat → Int64) × (Nat → Int64) × (Nat → Int64)) := (fX4_multiply Fu a77 s0).bind fun r13 => (k105 v1_beasts v1_seats v1_laws v1_inForce a2 a3 a4 a5 a38 v40_voters a41 a75 r13 x1 x2 x3 x5 x7 (x8 + 1))
set_option maxHeartbeats 4000000 in
set_option maxRecDepth 100000 in
theorem tX11_appeal_N_L128 {G : GT} {b : Nat} {c0 : Hp} {n : Nat} (hw : e_wf (kW41) n) {v0_faultPlace : Int32} {v0_quashedRows : Int32} {v0_lastRefusal : Int32} {v1_meals : Int32} {v37_height : Int32} {v37_answer : Int64} {Fu : Nat} {k82 : Int32 → Int32 → Int32 → Int32 → (Nat → Int32) → (Nat → Int32) → (Nat → Int32) → (Nat → Option Nat) → (Nat → Int32) → Int32 → (Nat → Int64) → (Nat → Int64) → (Nat → Int64) → Int32 → Int32 → Int64 → Int64 → Int32 → Option (Int32 × (Nat → Int32) × Int32 × (Nat → Int64) × (Nat → Int64) × (Nat → Int64))} {k105 : Int32 → Int32 → Int32 → Int32 → (Nat → Int32) → (Nat → Int32) → (Nat → Int32) → (Nat → Option Nat) → (Nat → Int32) → Int32 → (Nat → Int64) → (Nat → Int64) → (Nat → Int64) → Int32 → Int32 → Int64 → Int64 → Int32 → Int32 → Option (Int32 × (Nat → Int32) × Int32 × (Nat → Int64) × (Nat → Int64) × (Nat → Int64))} (hk82 : ∀ {v1_beasts : Int32} {v1_seats : Int32} {v1_laws : Int32} {v1_inForce : Int32} {a2 : Nat → Int32} {a3 : Nat → Int32} {a4 : Nat → Int32} {a5 : Nat → Option Nat} {a38 : Nat → Int32} {v40_voters : Int32} {a41 : Nat → Int64} {a75 : Nat → Int64} {a77 : Nat → Int64} {x1 : Int32} {x2 : Int32} {x3 : Int64} {x5 : Int64} {x7 : Int32} {R : Int32 × (Nat → Int32) × Int32 × (Nat → Int64) × (Nat → Int64) × (Nat → Int64)}, k82 v1_beasts v1_seats v1_laws v1_inForce a2 a3 a4 a5 a38 v40_voters a41 a75 a77 x1 x2 x3 x5 x7 = some R → E G b yX11_appeal cX11_appeal 9 (some .int) (e_rm 5 0 0) e_X0 (e_Z G b (pD (some (.int R.1)) (e_ov (kW41) (wW41 G b v0_faultPlace v0_quashedRows v0_lastRefusal v1_beasts v1_meals v1_seats v1_laws v1_inForce a2 a3 a4 a5 v37_height v37_answer R.2.1 R.2.2.1 R.2.2.2.1 R.2.2.2.2.1 R.2.2.2.2.2) c0) n) 0 0) 82 [(0, .ref (b + 0)), (1, .int x1), (2, .int x2), (3, .long x3), (5, .long x5), (7, .int x7)] [] (e_ov (kW41) (wW41 G b v0_faultPlace v0_quashedRows v0_lastRefusal v1_beasts v1_meals v1_seats v1_laws v1_inForce a2 a3 a4 a5 v37_height v37_answer a38 v40_voters a41 a75 a77) c0) n 0 0) (hk105 : ∀ {v1_beasts : Int32} {v1_seats : Int32} {v1_laws : Int32} {v1_inForce : Int32} {a2 : Nat → Int32} {a3 : Nat → Int32} {a4 : Nat → Int32} {a5 : Nat → Option Nat} {a38 : Nat → Int32} {v40_voters : Int32} {a41 : Nat → Int64} {a75 : Nat → Int64} {a77 : Nat → Int64} {x1 : Int32} {x2 : Int32} {x3 : Int64} {x5 : Int64} {x7 : Int32} {x8 : Int32} {R : Int32 × (Nat → Int32) × Int32 × (Nat → Int64) × (Nat → Int64) × (Nat → Int64)}, k105 v1_beasts v1_seats v1_laws v1_inForce a2 a3 a4 a5 a38 v40_voters a41 a75 a77 x1 x2 x3 x5 x7 x8 = some R → E G b yX11_appeal cX11_appeal 9 (some .int) (e_rm 5 0 0) e_X0 (e_Z G b (pD (some (.int R.1)) (e_ov (kW41) (wW41 G b v0_faultPlace v0_quashedRows v0_lastRefusal v1_beasts v1_meals v1_seats v1_laws v1_inForce a2 a3 a4 a5 v37_height v37_answer R.2.1 R.2.2.1 R.2.2.2.1 R.2.2.2.2.1 R.2.2.2.2.2) c0) n) 0 0) 105 [(0, .ref (b + 0)), (1, .int x1), (2, .int x2), (3, .long x3), (5, .long x5), (7, .int x7), (8, .int x8)] [] (e_ov (kW41) (wW41 G b v0_faultPlace v0_quashedRows v0_lastRefusal v1_beasts v1_meals v1_seats v1_laws v1_inForce a2 a3 a4 a5 v37_height v37_answer a38 v40_voters a41 a75 a77) c0) n 0 0) {v1_beasts : Int32} {v1_seats : Int32} {v1_laws : Int32} {v1_inForce : Int32} {a2 : Nat → Int32} {a3 : Nat → Int32} {a4 : Nat → Int32} {a5 : Nat → Option Nat} {a38 : Nat → Int32} {v40_voters : Int32} {a41 : Nat → Int64} {a75 : Nat → Int64} {a77 : Nat → Int64} {x1 : Int32} {x2 : Int32} {x3 : Int64} {x5 : Int64} {x7 : Int32} {x8 : Int32} {s0 : Int64} {R : Int32 × (Nat → Int32) × Int32 × (Nat → Int64) × (Nat → Int64) × (Nat → Int64)} (hf : fX11_appeal_N_L128 Fu k82 k105 v1_beasts v1_seats v1_laws v1_inForce a2 a3 a4 a5 a38 v40_voters a41 a75 a77 x1 x2 x3 x5 x7 x8 s0 = some R) : E G b yX11_appeal cX11_appeal 9 (some .int) (e_rm 5 0 0) e_X0 (e_Z G b (pD (some (.int R.1)) (e_ov (kW41) (wW41 G b v0_faultPlace v0_quashedRows v0_lastRefusal v1_beasts v1_meals v1_seats v1_laws v1_inForce a2 a3 a4 a5 v37_height v37_answer R.2.1 R.2.2.1 R.2.2.2.1 R.2.2.2.2.1 R.2.2.2.2.2) c0) n) 0 0) 128 [(0, .ref (b + 0)), (1, .int x1), (2, .int x2), (3, .long x3), (5, .long x5), (7, .int x7), (8, .int x8)] [.long s0, .ref (b + 76)] (e_ov (kW41) (wW41 G b v0_faultPlace v0_quashedRows v0_lastRefusal v1_beasts v1_meals v1_seats v1_laws v1_inForce a2 a3 a4 a5 v37_height v37_answer a38 v40_voters a41 a75 a77) c0) n 0 0 := by
  unfold fX11_appeal_N_L128 at hf
  obtain ⟨r13, hc13, hf⟩ := e_bind hf
  refine E.callVDs (es' := (wW41 G b v0_faultPlace v0_quashedRows v0_lastRefusal v1_beasts v1_meals v1_seats v1_laws v1_inForce a2 a3 a4 a5 v37_height v37_answer a38 v40_voters a41 a75 r13)) [] [12, 13] 12 76 dX11_appeal_128 mlX11_253 hw rfl rfl rfl rfl (mX4_multiply (hw.pick2 [12, 13] rfl (by decide)) hc13) rfl rfl rfl rfl ⟨Nat.le_of_ble_eq_true rfl, Nat.le_of_ble_eq_true rfl⟩ rfl rfl (Nat.le_of_ble_eq_true rfl) ⟨Nat.le_refl _, Nat.le_refl _⟩ rfl ?_
  refine E.iinc (q := 6) (v := (x8 + 1)) (lv' := [(8, .int (x8 + 1)), (0, .ref (b + 0)), (1, .int x1), (2, .int x2), (3, .long x3), (5, .long x5), (7, .int x7)]) dX11_appeal_131 rfl rfl (by decide) rfl ?_
  refine E.goto dX11_appeal_134 ?_
  refine E.locals [1, 2, 3, 4, 5, 6, 0] rfl ?_
  exact hk105 hf
def fX11_appeal_N_L105 (Fu : Nat) (k82 : Int32 → Int32 → Int32 → Int32 → (Nat → Int32) → (Nat → Int32) → (Nat → Int32) → (Nat → Option Nat) → (Nat → Int32) → Int32 → (Nat → Int64) → (Nat → Int64) → (Nat → Int64) → Int32 → Int32 → Int64 → Int64 → Int32 → Option (Int32 × (Nat → Int32) × Int32 × (Nat → Int64) × (Nat → Int64) × (Nat → Int64))) : Nat → Int32 → Int32 → Int32 → Int32 → (Nat → Int32) → (Nat → Int32) → (Nat → Int32) → (Nat → Option Nat) → (Nat → Int32) → Int32 → (Nat → Int64) → (Nat → Int64) → (Nat → Int64) → Int32 → Int32 → Int64 → Int64 → Int32 → Int32 → Option (Int32 × (Nat → Int32) × Int32 × (Nat → Int64) × (Nat → Int64) × (Nat → Int64))
  | 0, _, _, _, _, _, _, _, _, _, _, _, _, _, _, _, _, _, _, _ => none
  | k + 1, v1_beasts, v1_seats, v1_laws, v1_inForce, a2, a3, a4, a5, a38, v40_voters, a41, a75, a77, x1, x2, x3, x5, x7, x8 => if (x1 : Int32) ≤ (x8 : Int32) then ((fX4_increase Fu a75 a77).bind fun r12 => (k82 v1_beasts v1_seats v1_laws v1_inForce a2 a3 a4 a5 a38 v40_voters a41 r12 a77 x1 x2 x3 x5 (x7 + 1))) else (if (x7 : Int32) ≤ (x8 : Int32) then (fX11_appeal_N_L128 Fu k82 (fX11_appeal_N_L105 Fu k82 k) v1_beasts v1_seats v1_laws v1_inForce a2 a3 a4 a5 a38 v40_voters a41 a75 a77 x1 x2 x3 x5 x7 x8 x5) else (fX11_appeal_N_L128 Fu k82 (fX11_appeal_N_L105 Fu k82 k) v1_beasts v1_seats v1_laws v1_inForce a2 a3 a4 a5 a38 v40_voters a41 a75 a77 x1 x2 x3 x5 x7 x8 x3))
set_option maxHeartbeats 4000000 in
set_option maxRecDepth 100000 in
theorem tX11_appeal_N_L105 {G : GT} {b : Nat} {c0 : Hp} {n : Nat} (hw : e_wf (kW41) n) {v0_faultPlace : Int32} {v0_quashedRows : Int32} {v0_lastRefusal : Int32} {v1_meals : Int32} {v37_height : Int32} {v37_answer : Int64} {Fu : Nat} {k82 : Int32 → Int32 → Int32 → Int32 → (Nat → Int32) → (Nat → Int32) → (Nat → Int32) → (Nat → Option Nat) → (Nat → Int32) → Int32 → (Nat → Int64) → (Nat → Int64) → (Nat → Int64) → Int32 → Int32 → Int64 → Int64 → Int32 → Option (Int32 × (Nat → Int32) × Int32 × (Nat → Int64) × (Nat → Int64) × (Nat → Int64))} (hk82 : ∀ {v1_beasts : Int32} {v1_seats : Int32} {v1_laws : Int32} {v1_inForce : Int32} {a2 : Nat → Int32} {a3 : Nat → Int32} {a4 : Nat → Int32} {a5 : Nat → Option Nat} {a38 : Nat → Int32} {v40_voters : Int32} {a41 : Nat → Int64} {a75 : Nat → Int64} {a77 : Nat → Int64} {x1 : Int32} {x2 : Int32} {x3 : Int64} {x5 : Int64} {x7 : Int32} {R : Int32 × (Nat → Int32) × Int32 × (Nat → Int64) × (Nat → Int64) × (Nat → Int64)}, k82 v1_beasts v1_seats v1_laws v1_inForce a2 a3 a4 a5 a38 v40_voters a41 a75 a77 x1 x2 x3 x5 x7 = some R → E G b yX11_appeal cX11_appeal 9 (some .int) (e_rm 5 0 0) e_X0 (e_Z G b (pD (some (.int R.1)) (e_ov (kW41) (wW41 G b v0_faultPlace v0_quashedRows v0_lastRefusal v1_beasts v1_meals v1_seats v1_laws v1_inForce a2 a3 a4 a5 v37_height v37_answer R.2.1 R.2.2.1 R.2.2.2.1 R.2.2.2.2.1 R.2.2.2.2.2) c0) n) 0 0) 82 [(0, .ref (b + 0)), (1, .int x1), (2, .int x2), (3, .long x3), (5, .long x5), (7, .int x7)] [] (e_ov (kW41) (wW41 G b v0_faultPlace v0_quashedRows v0_lastRefusal v1_beasts v1_meals v1_seats v1_laws v1_inForce a2 a3 a4 a5 v37_height v37_answer a38 v40_voters a41 a75 a77) c0) n 0 0) : ∀ (k : Nat) {v1_beasts : Int32} {v1_seats : Int32} {v1_laws : Int32} {v1_inForce : Int32} {a2 : Nat → Int32} {a3 : Nat → Int32} {a4 : Nat → Int32} {a5 : Nat → Option Nat} {a38 : Nat → Int32} {v40_voters : Int32} {a41 : Nat → Int64} {a75 : Nat → Int64} {a77 : Nat → Int64} {x1 : Int32} {x2 : Int32} {x3 : Int64} {x5 : Int64} {x7 : Int32} {x8 : Int32} {R : Int32 × (Nat → Int32) × Int32 × (Nat → Int64) × (Nat → Int64) × (Nat → Int64)}, fX11_appeal_N_L105 Fu k82 k v1_beasts v1_seats v1_laws v1_inForce a2 a3 a4 a5 a38 v40_voters a41 a75 a77 x1 x2 x3 x5 x7 x8 = some R → E G b yX11_appeal cX11_appeal 9 (some .int) (e_rm 5 0 0) e_X0 (e_Z G b (pD (some (.int R.1)) (e_ov (kW41) (wW41 G b v0_faultPlace v0_quashedRows v0_lastRefusal v1_beasts v1_meals v1_seats v1_laws v1_inForce a2 a3 a4 a5 v37_height v37_answer R.2.1 R.2.2.1 R.2.2.2.1 R.2.2.2.2.1 R.2.2.2.2.2) c0) n) 0 0) 105 [(0, .ref (b + 0)), (1, .int x1), (2, .int x2), (3, .long x3), (5, .long x5), (7, .int x7), (8, .int x8)] [] (e_ov (kW41) (wW41 G b v0_faultPlace v0_quashedRows v0_lastRefusal v1_beasts v1_meals v1_seats v1_laws v1_inForce a2 a3 a4 a5 v37_height v37_answer a38 v40_voters a41 a75 a77) c0) n 0 0 := by
  intro k
  induction k with
  | zero =>
    intro _ _ _ _ _ _ _ _ _ _ _ _ _ _ _ _ _ _ _ _ hf
    have hf : (none : Option (Int32 × (Nat → Int32) × Int32 × (Nat → Int64) × (Nat → Int64) × (Nat → Int64))) = some _ := hf
    cases hf
  | succ k ih =>
    intro v1_beasts v1_seats v1_laws v1_inForce a2 a3 a4 a5 a38 v40_voters a41 a75 a77 x1 x2 x3 x5 x7 x8 R hf
    rw [fX11_appeal_N_L105] at hf
    refine E.iload 6 dX11_appeal_105 rfl ?_
    refine E.iload_n 1 dX11_appeal_107 rfl ?_
    refine E.icmp_ge dX11_appeal_108 (fun h => ?_) (fun h => ?_)
    · have hf := e_ift hf h
      refine E.aload_n 0 dX11_appeal_137 rfl ?_
      refine E.get hw 0 0 dX11_appeal_138 flX11_78 rfl rfl rfl rfl ?_
      refine E.aload_n 0 dX11_appeal_141 rfl ?_
      refine E.get hw 0 0 dX11_appeal_142 flX11_82 rfl rfl rfl rfl ?_
      obtain ⟨r12, hc12, hf⟩ := e_bind hf
      refine E.callVDs (es' := (wW41 G b v0_faultPlace v0_quashedRows v0_lastRefusal v1_beasts v1_meals v1_seats v1_laws v1_inForce a2 a3 a4 a5 v37_height v37_answer a38 v40_voters a41 r12 a77)) [] [10, 11, 12, 13] 10 74 dX11_appeal_145 mlX11_256 hw rfl rfl rfl rfl (mX4_increase (hw.pick2 [10, 11, 12, 13] rfl (by decide)) hc12) rfl rfl rfl rfl ⟨Nat.le_of_ble_eq_true rfl, Nat.le_of_ble_eq_true rfl⟩ rfl rfl (Nat.le_of_ble_eq_true rfl) ⟨Nat.le_refl _, Nat.le_refl _⟩ rfl ?_
      refine E.iinc (q := 5) (v := (x7 + 1)) (lv' := [(7, .int (x7 + 1)), (0, .ref (b + 0)), (1, .int x1), (2, .int x2), (3, .long x3), (5, .long x5), (8, .int x8)]) dX11_appeal_148 rfl rfl (by decide) rfl ?_
      refine E.goto dX11_appeal_151 ?_
      refine E.locals [1, 2, 3, 4, 5, 0] rfl ?_
      exact hk82 hf
    · have hf := e_iff hf h
      refine E.aload_n 0 dX11_appeal_111 rfl ?_
      refine E.get hw 0 0 dX11_appeal_112 flX11_82 rfl rfl rfl rfl ?_
      refine E.iload 6 dX11_appeal_115 rfl ?_
      refine E.iload 5 dX11_appeal_117 rfl ?_
      refine E.icmp_ge dX11_appeal_119 (fun h => ?_) (fun h => ?_)
      · have hf := e_ift hf h
        refine E.lload 4 dX11_appeal_126 rfl ?_
        exact tX11_appeal_N_L128 hw hk82 ih hf
      · have hf := e_iff hf h
        refine E.lload_n 3 dX11_appeal_122 rfl ?_
        refine E.goto dX11_appeal_123 ?_
        exact tX11_appeal_N_L128 hw hk82 ih hf
def fX11_appeal_N_L82 (Fu : Nat) : Nat → Int32 → Int32 → Int32 → Int32 → (Nat → Int32) → (Nat → Int32) → (Nat → Int32) → (Nat → Option Nat) → (Nat → Int32) → Int32 → (Nat → Int64) → (Nat → Int64) → (Nat → Int64) → Int32 → Int32 → Int64 → Int64 → Int32 → Option (Int32 × (Nat → Int32) × Int32 × (Nat → Int64) × (Nat → Int64) × (Nat → Int64))
  | 0, _, _, _, _, _, _, _, _, _, _, _, _, _, _, _, _, _, _ => none
  | k + 1, v1_beasts, v1_seats, v1_laws, v1_inForce, a2, a3, a4, a5, a38, v40_voters, a41, a75, a77, x1, x2, x3, x5, x7 => if (x1 : Int32) < (x7 : Int32) then ((fX4_millionths Fu a75 (x2 * x1)).bind fun r9 => (some (r9, a38, v40_voters, a41, a75, a77))) else ((fX11_ways Fu x1 x7).bind fun r10 => ((fX4_become Fu a77 ((r10 : Int32).toInt64)).bind fun r11 => (fX11_appeal_N_L105 Fu (fX11_appeal_N_L82 Fu k) Fu v1_beasts v1_seats v1_laws v1_inForce a2 a3 a4 a5 a38 v40_voters a41 a75 r11 x1 x2 x3 x5 x7 0)))
set_option maxHeartbeats 4000000 in
set_option maxRecDepth 100000 in
theorem tX11_appeal_N_L82 {G : GT} {b : Nat} {c0 : Hp} {n : Nat} (hw : e_wf (kW41) n) {v0_faultPlace : Int32} {v0_quashedRows : Int32} {v0_lastRefusal : Int32} {v1_meals : Int32} {v37_height : Int32} {v37_answer : Int64} {Fu : Nat} : ∀ (k : Nat) {v1_beasts : Int32} {v1_seats : Int32} {v1_laws : Int32} {v1_inForce : Int32} {a2 : Nat → Int32} {a3 : Nat → Int32} {a4 : Nat → Int32} {a5 : Nat → Option Nat} {a38 : Nat → Int32} {v40_voters : Int32} {a41 : Nat → Int64} {a75 : Nat → Int64} {a77 : Nat → Int64} {x1 : Int32} {x2 : Int32} {x3 : Int64} {x5 : Int64} {x7 : Int32} {R : Int32 × (Nat → Int32) × Int32 × (Nat → Int64) × (Nat → Int64) × (Nat → Int64)}, fX11_appeal_N_L82 Fu k v1_beasts v1_seats v1_laws v1_inForce a2 a3 a4 a5 a38 v40_voters a41 a75 a77 x1 x2 x3 x5 x7 = some R → E G b yX11_appeal cX11_appeal 9 (some .int) (e_rm 5 0 0) e_X0 (e_Z G b (pD (some (.int R.1)) (e_ov (kW41) (wW41 G b v0_faultPlace v0_quashedRows v0_lastRefusal v1_beasts v1_meals v1_seats v1_laws v1_inForce a2 a3 a4 a5 v37_height v37_answer R.2.1 R.2.2.1 R.2.2.2.1 R.2.2.2.2.1 R.2.2.2.2.2) c0) n) 0 0) 82 [(0, .ref (b + 0)), (1, .int x1), (2, .int x2), (3, .long x3), (5, .long x5), (7, .int x7)] [] (e_ov (kW41) (wW41 G b v0_faultPlace v0_quashedRows v0_lastRefusal v1_beasts v1_meals v1_seats v1_laws v1_inForce a2 a3 a4 a5 v37_height v37_answer a38 v40_voters a41 a75 a77) c0) n 0 0 := by
  intro k
  induction k with
  | zero =>
    intro _ _ _ _ _ _ _ _ _ _ _ _ _ _ _ _ _ _ _ hf
    have hf : (none : Option (Int32 × (Nat → Int32) × Int32 × (Nat → Int64) × (Nat → Int64) × (Nat → Int64))) = some _ := hf
    cases hf
  | succ k ih =>
    intro v1_beasts v1_seats v1_laws v1_inForce a2 a3 a4 a5 a38 v40_voters a41 a75 a77 x1 x2 x3 x5 x7 R hf
    rw [fX11_appeal_N_L82] at hf
    refine E.iload 5 dX11_appeal_82 rfl ?_
    refine E.iload_n 1 dX11_appeal_84 rfl ?_
    refine E.icmp_gt dX11_appeal_85 (fun h => ?_) (fun h => ?_)
    · have hf := e_ift hf h
      refine E.aload_n 0 dX11_appeal_154 rfl ?_
      refine E.get hw 0 0 dX11_appeal_155 flX11_78 rfl rfl rfl rfl ?_
      refine E.iload_n 2 dX11_appeal_158 rfl ?_
      refine E.iload_n 1 dX11_appeal_159 rfl ?_
      refine E.imul dX11_appeal_160 ?_
      obtain ⟨r9, hc9, hf⟩ := e_bind hf
      refine E.callVDs (es' := (wW41 G b v0_faultPlace v0_quashedRows v0_lastRefusal v1_beasts v1_meals v1_seats v1_laws v1_inForce a2 a3 a4 a5 v37_height v37_answer a38 v40_voters a41 a75 a77)) [] [10, 11] 10 74 dX11_appeal_161 mlX11_260 hw rfl rfl rfl rfl (mX4_millionths (hw.pick2 [10, 11] rfl (by decide)) hc9) rfl rfl rfl rfl ⟨Nat.le_of_ble_eq_true rfl, Nat.le_of_ble_eq_true rfl⟩ rfl rfl (Nat.le_of_ble_eq_true rfl) ⟨Nat.le_refl _, Nat.le_refl _⟩ rfl ?_
      cases hf
      exact E.iret dX11_appeal_164 (Nat.le_refl _) (Nat.le_refl _) (pD_rf _ _ _)
    · have hf := e_iff hf h
      refine E.aload_n 0 dX11_appeal_88 rfl ?_
      refine E.get hw 0 0 dX11_appeal_89 flX11_82 rfl rfl rfl rfl ?_
      refine E.iload_n 1 dX11_appeal_92 rfl ?_
      refine E.iload 5 dX11_appeal_93 rfl ?_
      obtain ⟨r10, hc10, hf⟩ := e_bind hf
      refine E.callSD [.ref (b + 76)] dX11_appeal_95 mlX11_250 (mX11_ways hc10) ⟨Nat.le_of_ble_eq_true rfl, Nat.le_of_ble_eq_true rfl⟩ rfl rfl (Nat.le_of_ble_eq_true rfl) ⟨Nat.le_refl _, Nat.le_refl _⟩ rfl ?_
      refine E.i2l dX11_appeal_98 ?_
      obtain ⟨r11, hc11, hf⟩ := e_bind hf
      refine E.callVDs (es' := (wW41 G b v0_faultPlace v0_quashedRows v0_lastRefusal v1_beasts v1_meals v1_seats v1_laws v1_inForce a2 a3 a4 a5 v37_height v37_answer a38 v40_voters a41 a75 r11)) [] [12, 13] 12 76 dX11_appeal_99 mlX11_246 hw rfl rfl rfl rfl (mX4_become (hw.pick2 [12, 13] rfl (by decide)) hc11) rfl rfl rfl rfl ⟨Nat.le_of_ble_eq_true rfl, Nat.le_of_ble_eq_true rfl⟩ rfl rfl (Nat.le_of_ble_eq_true rfl) ⟨Nat.le_refl _, Nat.le_refl _⟩ rfl ?_
      refine E.iconst (v := 0) dX11_appeal_102 (by decide) ?_
      refine E.istore (lv' := [(8, .int 0), (0, .ref (b + 0)), (1, .int x1), (2, .int x2), (3, .long x3), (5, .long x5), (7, .int x7)]) dX11_appeal_103 (by decide) rfl ?_
      refine E.locals [1, 2, 3, 4, 5, 6, 0] rfl ?_
      exact tX11_appeal_N_L105 hw ih _ hf
def fX11_appeal_N_L17 (Fu : Nat) (v1_beasts : Int32) (v1_seats : Int32) (v1_laws : Int32) (v1_inForce : Int32) (a2 : Nat → Int32) (a3 : Nat → Int32) (a4 : Nat → Int32) (a5 : Nat → Option Nat) (a38 : Nat → Int32) (v40_voters : Int32) (a41 : Nat → Int64) (a75 : Nat → Int64) (a77 : Nat → Int64) (x1 : Int32) : Option (Int32 × (Nat → Int32) × Int32 × (Nat → Int64) × (Nat → Int64) × (Nat → Int64)) := (fJ6_bitCount_0f7a4 v1_seats).bind fun r1 => (gd 1 6 ((fX11_tallyBench_N Fu v1_beasts v1_seats v1_laws v1_inForce a2 a3 a4 a5 a38 v40_voters a41 (a4 (1 : Int32).toNatClampNeg) (-1 : Int32)).bind fun r3 => (gd 0 6 ((fX8_atLeast Fu r3.2.1 r3.2.2 (a4 (0 : Int32).toNatClampNeg)).bind fun r5 => ((fX11_power Fu r1).bind fun r6 => ((fX4_become Fu a75 0).bind fun r7 => (gz 2 (fX11_appeal_N_L82 Fu Fu v1_beasts v1_seats v1_laws v1_inForce a2 a3 a4 a5 r3.1 r3.2.1 r3.2.2 r7 a77 x1 r1 r5 (r6 - r5) ((x1 / 2) + 1)))))))))
set_option maxHeartbeats 4000000 in
set_option maxRecDepth 100000 in
theorem tX11_appeal_N_L17 {G : GT} {b : Nat} {c0 : Hp} {n : Nat} (hw : e_wf (kW41) n) {v0_faultPlace : Int32} {v0_quashedRows : Int32} {v0_lastRefusal : Int32} {v1_meals : Int32} {v37_height : Int32} {v37_answer : Int64} {Fu : Nat} {v1_beasts : Int32} {v1_seats : Int32} {v1_laws : Int32} {v1_inForce : Int32} {a2 : Nat → Int32} {a3 : Nat → Int32} {a4 : Nat → Int32} {a5 : Nat → Option Nat} {a38 : Nat → Int32} {v40_voters : Int32} {a41 : Nat → Int64} {a75 : Nat → Int64} {a77 : Nat → Int64} {x1 : Int32} {R : Int32 × (Nat → Int32) × Int32 × (Nat → Int64) × (Nat → Int64) × (Nat → Int64)} (hf : fX11_appeal_N_L17 Fu v1_beasts v1_seats v1_laws v1_inForce a2 a3 a4 a5 a38 v40_voters a41 a75 a77 x1 = some R) : E G b yX11_appeal cX11_appeal 9 (some .int) (e_rm 5 0 0) e_X0 (e_Z G b (pD (some (.int R.1)) (e_ov (kW41) (wW41 G b v0_faultPlace v0_quashedRows v0_lastRefusal v1_beasts v1_meals v1_seats v1_laws v1_inForce a2 a3 a4 a5 v37_height v37_answer R.2.1 R.2.2.1 R.2.2.2.1 R.2.2.2.2.1 R.2.2.2.2.2) c0) n) 0 0) 17 [(0, .ref (b + 0)), (1, .int x1)] [] (e_ov (kW41) (wW41 G b v0_faultPlace v0_quashedRows v0_lastRefusal v1_beasts v1_meals v1_seats v1_laws v1_inForce a2 a3 a4 a5 v37_height v37_answer a38 v40_voters a41 a75 a77) c0) n 0 0 := by
  unfold fX11_appeal_N_L17 at hf
  refine E.aload_n 0 dX11_appeal_17 rfl ?_
  refine E.get hw 0 0 dX11_appeal_18 flX11_10 rfl rfl rfl rfl ?_
  refine E.getN hw 1 1 dX11_appeal_21 fnX11_140 rfl rfl rfl rfl ?_
  obtain ⟨r1, hc1, hf⟩ := e_bind hf
  refine E.callSD [] dX11_appeal_24 mlX11_226 (mJ6_bitCount_0f7a4 hc1) ⟨Nat.le_of_ble_eq_true rfl, Nat.le_of_ble_eq_true rfl⟩ rfl rfl (Nat.le_of_ble_eq_true rfl) ⟨Nat.le_refl _, Nat.le_refl _⟩ rfl ?_
  refine E.istore_n (lv' := [(2, .int r1), (0, .ref (b + 0)), (1, .int x1)]) dX11_appeal_27 (by decide) rfl ?_
  refine E.aload_n 1 dX11_appeal_28 rfl ?_
  refine E.aload_n 1 dX11_appeal_29 rfl ?_
  refine E.get hw 0 0 dX11_appeal_30 flX11_10 rfl rfl rfl rfl ?_
  refine E.getN hw 1 1 dX11_appeal_33 fnX11_149 rfl rfl rfl rfl ?_
  refine E.iconst (v := 1) dX11_appeal_36 (by decide) ?_
  obtain ⟨g2, hf⟩ := gd_some hf
  refine E.iald hw 4 4 dX11_appeal_37 rfl rfl g2 ?_
  refine E.iconst (v := -1) dX11_appeal_38 (by decide) ?_
  obtain ⟨r3, hc3, hf⟩ := e_bind hf
  refine E.callVDs (es' := (wW41 G b v0_faultPlace v0_quashedRows v0_lastRefusal v1_beasts v1_meals v1_seats v1_laws v1_inForce a2 a3 a4 a5 v37_height v37_answer r3.1 r3.2.1 r3.2.2 a75 a77)) [] [0, 1, 2, 3, 4, 5, 6, 7, 8, 9] 0 0 dX11_appeal_39 mlX11_212 hw rfl rfl rfl rfl (mX11_tallyBench_N (hw.pick2 [0, 1, 2, 3, 4, 5, 6, 7, 8, 9] rfl (by decide)) hc3) rfl rfl rfl rfl ⟨Nat.le_of_ble_eq_true rfl, Nat.le_of_ble_eq_true rfl⟩ rfl rfl (Nat.le_of_ble_eq_true rfl) ⟨Nat.le_refl _, Nat.le_refl _⟩ rfl ?_
  refine E.aload_n 1 dX11_appeal_42 rfl ?_
  refine E.get hw 0 0 dX11_appeal_43 flX11_50 rfl rfl rfl rfl ?_
  refine E.aload_n 1 dX11_appeal_46 rfl ?_
  refine E.get hw 0 0 dX11_appeal_47 flX11_10 rfl rfl rfl rfl ?_
  refine E.getN hw 1 1 dX11_appeal_50 fnX11_149 rfl rfl rfl rfl ?_
  refine E.iconst (v := 0) dX11_appeal_53 (by decide) ?_
  obtain ⟨g4, hf⟩ := gd_some hf
  refine E.iald hw 4 4 dX11_appeal_54 rfl rfl g4 ?_
  obtain ⟨r5, hc5, hf⟩ := e_bind hf
  refine E.callVDs (es' := (wW41 G b v0_faultPlace v0_quashedRows v0_lastRefusal v1_beasts v1_meals v1_seats v1_laws v1_inForce a2 a3 a4 a5 v37_height v37_answer r3.1 r3.2.1 r3.2.2 a75 a77)) [] [8, 9] 8 40 dX11_appeal_55 mlX11_216 hw rfl rfl rfl rfl (mX8_atLeast (hw.pick2 [8, 9] rfl (by decide)) hc5) rfl rfl rfl rfl ⟨Nat.le_of_ble_eq_true rfl, Nat.le_of_ble_eq_true rfl⟩ rfl rfl (Nat.le_of_ble_eq_true rfl) ⟨Nat.le_refl _, Nat.le_refl _⟩ rfl ?_
  refine E.lstore_n (lv' := [(3, .long r5), (2, .int r1), (0, .ref (b + 0)), (1, .int x1)]) dX11_appeal_58 (by decide) rfl ?_
  refine E.iload_n 1 dX11_appeal_59 rfl ?_
  obtain ⟨r6, hc6, hf⟩ := e_bind hf
  refine E.callSD [] dX11_appeal_60 mlX11_231 (mX11_power hc6) ⟨Nat.le_of_ble_eq_true rfl, Nat.le_of_ble_eq_true rfl⟩ rfl rfl (Nat.le_of_ble_eq_true rfl) ⟨Nat.le_refl _, Nat.le_refl _⟩ rfl ?_
  refine E.lload_n 0 dX11_appeal_63 rfl ?_
  refine E.lsub dX11_appeal_64 ?_
  refine E.lstore (lv' := [(5, .long (r6 - r5)), (3, .long r5), (2, .int r1), (0, .ref (b + 0)), (1, .int x1)]) dX11_appeal_65 (by decide) rfl ?_
  refine E.aload_n 3 dX11_appeal_67 rfl ?_
  refine E.get hw 0 0 dX11_appeal_68 flX11_78 rfl rfl rfl rfl ?_
  refine E.lconst (v := 0) dX11_appeal_71 (by decide) ?_
  obtain ⟨r7, hc7, hf⟩ := e_bind hf
  refine E.callVDs (es' := (wW41 G b v0_faultPlace v0_quashedRows v0_lastRefusal v1_beasts v1_meals v1_seats v1_laws v1_inForce a2 a3 a4 a5 v37_height v37_answer r3.1 r3.2.1 r3.2.2 r7 a77)) [] [10, 11] 10 74 dX11_appeal_72 mlX11_246 hw rfl rfl rfl rfl (mX4_become (hw.pick2 [10, 11] rfl (by decide)) hc7) rfl rfl rfl rfl ⟨Nat.le_of_ble_eq_true rfl, Nat.le_of_ble_eq_true rfl⟩ rfl rfl (Nat.le_of_ble_eq_true rfl) ⟨Nat.le_refl _, Nat.le_refl _⟩ rfl ?_
  refine E.iload_n 4 dX11_appeal_75 rfl ?_
  refine E.iconst (v := 2) dX11_appeal_76 (by decide) ?_
  obtain ⟨g8, hf⟩ := gz_some hf
  refine E.idiv dX11_appeal_77 g8 ?_
  refine E.iconst (v := 1) dX11_appeal_78 (by decide) ?_
  refine E.iadd dX11_appeal_79 ?_
  refine E.istore (lv' := [(7, .int ((x1 / 2) + 1)), (5, .long (r6 - r5)), (3, .long r5), (2, .int r1), (0, .ref (b + 0)), (1, .int x1)]) dX11_appeal_80 (by decide) rfl ?_
  refine E.locals [4, 5, 3, 2, 1, 0] rfl ?_
  exact tX11_appeal_N_L82 hw _ hf
def fX11_appeal_N (Fu : Nat) (v1_beasts : Int32) (v1_seats : Int32) (v1_laws : Int32) (v1_inForce : Int32) (a2 : Nat → Int32) (a3 : Nat → Int32) (a4 : Nat → Int32) (a5 : Nat → Option Nat) (a38 : Nat → Int32) (v40_voters : Int32) (a41 : Nat → Int64) (a75 : Nat → Int64) (a77 : Nat → Int64) (x1 : Int32) : Option (Int32 × (Nat → Int32) × Int32 × (Nat → Int64) × (Nat → Int64) × (Nat → Int64)) := if (x1 : Int32) = (1 : Int32) then (fX11_appeal_N_L17 Fu v1_beasts v1_seats v1_laws v1_inForce a2 a3 a4 a5 a38 v40_voters a41 a75 a77 x1) else (if (x1 : Int32) = (3 : Int32) then (fX11_appeal_N_L17 Fu v1_beasts v1_seats v1_laws v1_inForce a2 a3 a4 a5 a38 v40_voters a41 a75 a77 x1) else (if (x1 : Int32) = (5 : Int32) then (fX11_appeal_N_L17 Fu v1_beasts v1_seats v1_laws v1_inForce a2 a3 a4 a5 a38 v40_voters a41 a75 a77 x1) else (some ((-1 : Int32), a38, v40_voters, a41, a75, a77))))
set_option maxHeartbeats 4000000 in
set_option maxRecDepth 100000 in
theorem tX11_appeal_N {G : GT} {b : Nat} {c0 : Hp} {n : Nat} (hw : e_wf (kW41) n) {v0_faultPlace : Int32} {v0_quashedRows : Int32} {v0_lastRefusal : Int32} {v1_meals : Int32} {v37_height : Int32} {v37_answer : Int64} {Fu : Nat} {v1_beasts : Int32} {v1_seats : Int32} {v1_laws : Int32} {v1_inForce : Int32} {a2 : Nat → Int32} {a3 : Nat → Int32} {a4 : Nat → Int32} {a5 : Nat → Option Nat} {a38 : Nat → Int32} {v40_voters : Int32} {a41 : Nat → Int64} {a75 : Nat → Int64} {a77 : Nat → Int64} {x1 : Int32} {R : Int32 × (Nat → Int32) × Int32 × (Nat → Int64) × (Nat → Int64) × (Nat → Int64)} (hf : fX11_appeal_N Fu v1_beasts v1_seats v1_laws v1_inForce a2 a3 a4 a5 a38 v40_voters a41 a75 a77 x1 = some R) : E G b yX11_appeal cX11_appeal 9 (some .int) (e_rm 5 0 0) e_X0 (e_Z G b (pD (some (.int R.1)) (e_ov (kW41) (wW41 G b v0_faultPlace v0_quashedRows v0_lastRefusal v1_beasts v1_meals v1_seats v1_laws v1_inForce a2 a3 a4 a5 v37_height v37_answer R.2.1 R.2.2.1 R.2.2.2.1 R.2.2.2.2.1 R.2.2.2.2.2) c0) n) 0 0) 0 [(0, .ref (b + 0)), (1, .int x1)] [] (e_ov (kW41) (wW41 G b v0_faultPlace v0_quashedRows v0_lastRefusal v1_beasts v1_meals v1_seats v1_laws v1_inForce a2 a3 a4 a5 v37_height v37_answer a38 v40_voters a41 a75 a77) c0) n 0 0 := by
  unfold fX11_appeal_N at hf
  refine E.iload_n 1 dX11_appeal_0 rfl ?_
  refine E.iconst (v := 1) dX11_appeal_1 (by decide) ?_
  refine E.icmp_eq dX11_appeal_2 (fun h => ?_) (fun h => ?_)
  · have hf := e_ift hf h
    exact tX11_appeal_N_L17 hw hf
  · have hf := e_iff hf h
    refine E.iload_n 1 dX11_appeal_5 rfl ?_
    refine E.iconst (v := 3) dX11_appeal_6 (by decide) ?_
    refine E.icmp_eq dX11_appeal_7 (fun h => ?_) (fun h => ?_)
    · have hf := e_ift hf h
      exact tX11_appeal_N_L17 hw hf
    · have hf := e_iff hf h
      refine E.iload_n 1 dX11_appeal_10 rfl ?_
      refine E.iconst (v := 5) dX11_appeal_11 (by decide) ?_
      refine E.icmp_eq dX11_appeal_12 (fun h => ?_) (fun h => ?_)
      · have hf := e_ift hf h
        exact tX11_appeal_N_L17 hw hf
      · have hf := e_iff hf h
        refine E.iconst (v := -1) dX11_appeal_15 (by decide) ?_
        cases hf
        exact E.iret dX11_appeal_16 (Nat.le_refl _) (Nat.le_refl _) (pD_rf _ _ _)
set_option maxRecDepth 100000 in
theorem mX11_appeal_N {G : GT} {b : Nat} {c0 : Hp} {n : Nat} (hw : e_wf (kW41) n) {v0_faultPlace : Int32} {v0_quashedRows : Int32} {v0_lastRefusal : Int32} {v1_meals : Int32} {v37_height : Int32} {v37_answer : Int64} {Fu : Nat} {v1_beasts : Int32} {v1_seats : Int32} {v1_laws : Int32} {v1_inForce : Int32} {a2 : Nat → Int32} {a3 : Nat → Int32} {a4 : Nat → Int32} {a5 : Nat → Option Nat} {a38 : Nat → Int32} {v40_voters : Int32} {a41 : Nat → Int64} {a75 : Nat → Int64} {a77 : Nat → Int64} {x1 : Int32} {R : Int32 × (Nat → Int32) × Int32 × (Nat → Int64) × (Nat → Int64) × (Nat → Int64)} (hf : fX11_appeal_N Fu v1_beasts v1_seats v1_laws v1_inForce a2 a3 a4 a5 a38 v40_voters a41 a75 a77 x1 = some R) : e_C G b yX11_appeal cX11_appeal 9 (some .int) 5 0 0 [.ref (b + 0), .int x1] (e_ov (kW41) (wW41 G b v0_faultPlace v0_quashedRows v0_lastRefusal v1_beasts v1_meals v1_seats v1_laws v1_inForce a2 a3 a4 a5 v37_height v37_answer a38 v40_voters a41 a75 a77) c0) n (pD (some (.int R.1)) (e_ov (kW41) (wW41 G b v0_faultPlace v0_quashedRows v0_lastRefusal v1_beasts v1_meals v1_seats v1_laws v1_inForce a2 a3 a4 a5 v37_height v37_answer R.2.1 R.2.2.1 R.2.2.2.1 R.2.2.2.2.1 R.2.2.2.2.2) c0) n) := e_C.of (by decide) (Nat.le_of_ble_eq_true rfl) (tX11_appeal_N hw hf)
abbrev kW42 (q : Nat) : List Nat := [0, 1, 2, 3, 4, 5, 37, 38, 39, 40, 41, 74, 75, 76, 77, q, (q + 1), (q + 2), (q + 3), (q + 4)]
abbrev wW42 (G : GT) (b q nh nt ne ns : Nat) (v0_faultPlace : Int32) (v0_quashedRows : Int32) (v0_lastRefusal : Int32) (v1_beasts : Int32) (v1_meals : Int32) (v1_seats : Int32) (v1_laws : Int32) (v1_inForce : Int32) (a2 : Nat → Int32) (a3 : Nat → Int32) (a4 : Nat → Int32) (a5 : Nat → Option Nat) (v37_height : Int32) (v37_answer : Int64) (a38 : Nat → Int32) (a39 : Nat → Int64) (v40_voters : Int32) (a41 : Nat → Int64) (a75 : Nat → Int64) (a77 : Nat → Int64) (aL1 : Nat → Int32) (aL2 : Nat → Int32) (aL3 : Nat → Int32) (aL4 : Nat → Int32) : List va_E := [.inr (11, [.ref (b + 1), .ref (b + 10), .ref (b + 29), .ref (b + 30), .ref (b + 32), .ref (b + 37), .ref (b + 40), .ref (b + 42), .ref (b + 69), .ref (b + 73), .ref (b + 74), .ref (b + 76), .ref (b + 78), .int v0_faultPlace, .int v0_quashedRows, .int v0_lastRefusal]), .inr (10, [.ref (b + 2), .ref (b + 3), .ref (b + 4), .ref (b + 5), .ref (b + 6), .int v1_beasts, .int v1_meals, .int v1_seats, .int v1_laws, .int v1_inForce]), aI G 48 a2, aI G 8 a3, aI G 6 a4, aQ G 4 6 a5, .inr (0, [.ref (b + 38), .ref (b + 39), .int v37_height, .long v37_answer]), aI G 10 a38, aJ G 51 a39, .inr (8, [.ref (b + 41), .int v40_voters]), aJ G 9 a41, .inr (4, [.ref (b + 75)]), aJ G 48 a75, .inr (4, [.ref (b + 77)]), aJ G 48 a77, .inr (5, [.ref (b + (q + 1)), .ref (b + (q + 2)), .ref (b + (q + 3)), .ref (b + (q + 4))]), aI G nh aL1, aI G nt aL2, aI G ne aL3, aI G ns aL4]
def fX11_appeal_L_L128 (Fu : Nat) (nh : Nat) (nt : Nat) (ne : Nat) (ns : Nat) (b q : Nat) (k82 : Int32 → Int32 → Int32 → Int32 → (Nat → Int32) → (Nat → Int32) → (Nat → Int32) → (Nat → Option Nat) → Int32 → Int64 → (Nat → Int32) → (Nat → Int64) → Int32 → (Nat → Int64) → (Nat → Int64) → (Nat → Int64) → (Nat → Int32) → (Nat → Int32) → (Nat → Int32) → (Nat → Int32) → Int32 → Int32 → Int64 → Int64 → Int32 → Option (Int32 × Int32 × Int64 × (Nat → Int32) × (Nat → Int64) × Int32 × (Nat → Int64) × (Nat → Int64) × (Nat → Int64))) (k105 : Int32 → Int32 → Int32 → Int32 → (Nat → Int32) → (Nat → Int32) → (Nat → Int32) → (Nat → Option Nat) → Int32 → Int64 → (Nat → Int32) → (Nat → Int64) → Int32 → (Nat → Int64) → (Nat → Int64) → (Nat → Int64) → (Nat → Int32) → (Nat → Int32) → (Nat → Int32) → (Nat → Int32) → Int32 → Int32 → Int64 → Int64 → Int32 → Int32 → Option (Int32 × Int32 × Int64 × (Nat → Int32) × (Nat → Int64) × Int32 × (Nat → Int64) × (Nat → Int64) × (Nat → Int64))) (v1_beasts : Int32) (v1_seats : Int32) (v1_laws : Int32) (v1_inForce : Int32) (a2 : Nat → Int32) (a3 : Nat → Int32) (a4 : Nat → Int32) (a5 : Nat → Option Nat) (v37_height : Int32) (v37_answer : Int64) (a38 : Nat → Int32) (a39 : Nat → Int64) (v40_voters : Int32) (a41 : Nat → Int64) (a75 : Nat → Int64) (a77 : Nat → Int64) (aL1 : Nat → Int32) (aL2 : Nat → Int32) (aL3 : Nat → Int32) (aL4 : Nat → Int32) (x1 : Int32) (x2 : Int32) (x3 : Int64) (x5 : Int64) (x7 : Int32) (x8 : Int32) (s0 : Int64) : Option (Int32 × Int32 × Int64 × (Nat → Int32) × (Nat → Int64) × Int32 × (Nat → Int64) × (Nat → Int64) × (Nat → Int64)) := (fX4_multiply Fu a77 s0).bind fun r13 => (k105 v1_beasts v1_seats v1_laws v1_inForce a2 a3 a4 a5 v37_height v37_answer a38 a39 v40_voters a41 a75 r13 aL1 aL2 aL3 aL4 x1 x2 x3 x5 x7 (x8 + 1))
set_option maxHeartbeats 4000000 in
set_option maxRecDepth 100000 in
theorem tX11_appeal_L_L128 {G : GT} {b : Nat} {q nh nt ne ns : Nat} {c0 : Hp} {n : Nat} (hw : e_wf (kW42 q) n) {v0_faultPlace : Int32} {v0_quashedRows : Int32} {v0_lastRefusal : Int32} {v1_meals : Int32} {Fu : Nat} {k82 : Int32 → Int32 → Int32 → Int32 → (Nat → Int32) → (Nat → Int32) → (Nat → Int32) → (Nat → Option Nat) → Int32 → Int64 → (Nat → Int32) → (Nat → Int64) → Int32 → (Nat → Int64) → (Nat → Int64) → (Nat → Int64) → (Nat → Int32) → (Nat → Int32) → (Nat → Int32) → (Nat → Int32) → Int32 → Int32 → Int64 → Int64 → Int32 → Option (Int32 × Int32 × Int64 × (Nat → Int32) × (Nat → Int64) × Int32 × (Nat → Int64) × (Nat → Int64) × (Nat → Int64))} {k105 : Int32 → Int32 → Int32 → Int32 → (Nat → Int32) → (Nat → Int32) → (Nat → Int32) → (Nat → Option Nat) → Int32 → Int64 → (Nat → Int32) → (Nat → Int64) → Int32 → (Nat → Int64) → (Nat → Int64) → (Nat → Int64) → (Nat → Int32) → (Nat → Int32) → (Nat → Int32) → (Nat → Int32) → Int32 → Int32 → Int64 → Int64 → Int32 → Int32 → Option (Int32 × Int32 × Int64 × (Nat → Int32) × (Nat → Int64) × Int32 × (Nat → Int64) × (Nat → Int64) × (Nat → Int64))} (hk82 : ∀ {v1_beasts : Int32} {v1_seats : Int32} {v1_laws : Int32} {v1_inForce : Int32} {a2 : Nat → Int32} {a3 : Nat → Int32} {a4 : Nat → Int32} {a5 : Nat → Option Nat} {v37_height : Int32} {v37_answer : Int64} {a38 : Nat → Int32} {a39 : Nat → Int64} {v40_voters : Int32} {a41 : Nat → Int64} {a75 : Nat → Int64} {a77 : Nat → Int64} {aL1 : Nat → Int32} {aL2 : Nat → Int32} {aL3 : Nat → Int32} {aL4 : Nat → Int32} {x1 : Int32} {x2 : Int32} {x3 : Int64} {x5 : Int64} {x7 : Int32} {R : Int32 × Int32 × Int64 × (Nat → Int32) × (Nat → Int64) × Int32 × (Nat → Int64) × (Nat → Int64) × (Nat → Int64)}, k82 v1_beasts v1_seats v1_laws v1_inForce a2 a3 a4 a5 v37_height v37_answer a38 a39 v40_voters a41 a75 a77 aL1 aL2 aL3 aL4 x1 x2 x3 x5 x7 = some R → E G b yX11_appeal cX11_appeal 9 (some .int) (e_rm 6 0 0) e_X0 (e_Z G b (pD (some (.int R.1)) (e_ov (kW42 q) (wW42 G b q nh nt ne ns v0_faultPlace v0_quashedRows v0_lastRefusal v1_beasts v1_meals v1_seats v1_laws v1_inForce a2 a3 a4 a5 R.2.1 R.2.2.1 R.2.2.2.1 R.2.2.2.2.1 R.2.2.2.2.2.1 R.2.2.2.2.2.2.1 R.2.2.2.2.2.2.2.1 R.2.2.2.2.2.2.2.2 aL1 aL2 aL3 aL4) c0) n) 0 0) 82 [(0, .ref (b + 0)), (1, .int x1), (2, .int x2), (3, .long x3), (5, .long x5), (7, .int x7)] [] (e_ov (kW42 q) (wW42 G b q nh nt ne ns v0_faultPlace v0_quashedRows v0_lastRefusal v1_beasts v1_meals v1_seats v1_laws v1_inForce a2 a3 a4 a5 v37_height v37_answer a38 a39 v40_voters a41 a75 a77 aL1 aL2 aL3 aL4) c0) n 0 0) (hk105 : ∀ {v1_beasts : Int32} {v1_seats : Int32} {v1_laws : Int32} {v1_inForce : Int32} {a2 : Nat → Int32} {a3 : Nat → Int32} {a4 : Nat → Int32} {a5 : Nat → Option Nat} {v37_height : Int32} {v37_answer : Int64} {a38 : Nat → Int32} {a39 : Nat → Int64} {v40_voters : Int32} {a41 : Nat → Int64} {a75 : Nat → Int64} {a77 : Nat → Int64} {aL1 : Nat → Int32} {aL2 : Nat → Int32} {aL3 : Nat → Int32} {aL4 : Nat → Int32} {x1 : Int32} {x2 : Int32} {x3 : Int64} {x5 : Int64} {x7 : Int32} {x8 : Int32} {R : Int32 × Int32 × Int64 × (Nat → Int32) × (Nat → Int64) × Int32 × (Nat → Int64) × (Nat → Int64) × (Nat → Int64)}, k105 v1_beasts v1_seats v1_laws v1_inForce a2 a3 a4 a5 v37_height v37_answer a38 a39 v40_voters a41 a75 a77 aL1 aL2 aL3 aL4 x1 x2 x3 x5 x7 x8 = some R → E G b yX11_appeal cX11_appeal 9 (some .int) (e_rm 6 0 0) e_X0 (e_Z G b (pD (some (.int R.1)) (e_ov (kW42 q) (wW42 G b q nh nt ne ns v0_faultPlace v0_quashedRows v0_lastRefusal v1_beasts v1_meals v1_seats v1_laws v1_inForce a2 a3 a4 a5 R.2.1 R.2.2.1 R.2.2.2.1 R.2.2.2.2.1 R.2.2.2.2.2.1 R.2.2.2.2.2.2.1 R.2.2.2.2.2.2.2.1 R.2.2.2.2.2.2.2.2 aL1 aL2 aL3 aL4) c0) n) 0 0) 105 [(0, .ref (b + 0)), (1, .int x1), (2, .int x2), (3, .long x3), (5, .long x5), (7, .int x7), (8, .int x8)] [] (e_ov (kW42 q) (wW42 G b q nh nt ne ns v0_faultPlace v0_quashedRows v0_lastRefusal v1_beasts v1_meals v1_seats v1_laws v1_inForce a2 a3 a4 a5 v37_height v37_answer a38 a39 v40_voters a41 a75 a77 aL1 aL2 aL3 aL4) c0) n 0 0) {v1_beasts : Int32} {v1_seats : Int32} {v1_laws : Int32} {v1_inForce : Int32} {a2 : Nat → Int32} {a3 : Nat → Int32} {a4 : Nat → Int32} {a5 : Nat → Option Nat} {v37_height : Int32} {v37_answer : Int64} {a38 : Nat → Int32} {a39 : Nat → Int64} {v40_voters : Int32} {a41 : Nat → Int64} {a75 : Nat → Int64} {a77 : Nat → Int64} {aL1 : Nat → Int32} {aL2 : Nat → Int32} {aL3 : Nat → Int32} {aL4 : Nat → Int32} {x1 : Int32} {x2 : Int32} {x3 : Int64} {x5 : Int64} {x7 : Int32} {x8 : Int32} {s0 : Int64} {R : Int32 × Int32 × Int64 × (Nat → Int32) × (Nat → Int64) × Int32 × (Nat → Int64) × (Nat → Int64) × (Nat → Int64)} (hf : fX11_appeal_L_L128 Fu nh nt ne ns b q k82 k105 v1_beasts v1_seats v1_laws v1_inForce a2 a3 a4 a5 v37_height v37_answer a38 a39 v40_voters a41 a75 a77 aL1 aL2 aL3 aL4 x1 x2 x3 x5 x7 x8 s0 = some R) : E G b yX11_appeal cX11_appeal 9 (some .int) (e_rm 6 0 0) e_X0 (e_Z G b (pD (some (.int R.1)) (e_ov (kW42 q) (wW42 G b q nh nt ne ns v0_faultPlace v0_quashedRows v0_lastRefusal v1_beasts v1_meals v1_seats v1_laws v1_inForce a2 a3 a4 a5 R.2.1 R.2.2.1 R.2.2.2.1 R.2.2.2.2.1 R.2.2.2.2.2.1 R.2.2.2.2.2.2.1 R.2.2.2.2.2.2.2.1 R.2.2.2.2.2.2.2.2 aL1 aL2 aL3 aL4) c0) n) 0 0) 128 [(0, .ref (b + 0)), (1, .int x1), (2, .int x2), (3, .long x3), (5, .long x5), (7, .int x7), (8, .int x8)] [.long s0, .ref (b + 76)] (e_ov (kW42 q) (wW42 G b q nh nt ne ns v0_faultPlace v0_quashedRows v0_lastRefusal v1_beasts v1_meals v1_seats v1_laws v1_inForce a2 a3 a4 a5 v37_height v37_answer a38 a39 v40_voters a41 a75 a77 aL1 aL2 aL3 aL4) c0) n 0 0 := by
  unfold fX11_appeal_L_L128 at hf
  obtain ⟨r13, hc13, hf⟩ := e_bind hf
  refine E.callVDs (es' := (wW42 G b q nh nt ne ns v0_faultPlace v0_quashedRows v0_lastRefusal v1_beasts v1_meals v1_seats v1_laws v1_inForce a2 a3 a4 a5 v37_height v37_answer a38 a39 v40_voters a41 a75 r13 aL1 aL2 aL3 aL4)) [] [13, 14] 13 76 dX11_appeal_128 mlX11_253 hw rfl rfl rfl rfl (mX4_multiply (hw.pick2 [13, 14] rfl (by decide)) hc13) rfl rfl rfl rfl ⟨Nat.le_of_ble_eq_true rfl, Nat.le_of_ble_eq_true rfl⟩ rfl rfl (Nat.le_of_ble_eq_true rfl) ⟨Nat.le_refl _, Nat.le_refl _⟩ rfl ?_
  refine E.iinc (q := 6) (v := (x8 + 1)) (lv' := [(8, .int (x8 + 1)), (0, .ref (b + 0)), (1, .int x1), (2, .int x2), (3, .long x3), (5, .long x5), (7, .int x7)]) dX11_appeal_131 rfl rfl (by decide) rfl ?_
  refine E.goto dX11_appeal_134 ?_
  refine E.locals [1, 2, 3, 4, 5, 6, 0] rfl ?_
  exact hk105 hf
def fX11_appeal_L_L105 (Fu : Nat) (nh : Nat) (nt : Nat) (ne : Nat) (ns : Nat) (b q : Nat) (k82 : Int32 → Int32 → Int32 → Int32 → (Nat → Int32) → (Nat → Int32) → (Nat → Int32) → (Nat → Option Nat) → Int32 → Int64 → (Nat → Int32) → (Nat → Int64) → Int32 → (Nat → Int64) → (Nat → Int64) → (Nat → Int64) → (Nat → Int32) → (Nat → Int32) → (Nat → Int32) → (Nat → Int32) → Int32 → Int32 → Int64 → Int64 → Int32 → Option (Int32 × Int32 × Int64 × (Nat → Int32) × (Nat → Int64) × Int32 × (Nat → Int64) × (Nat → Int64) × (Nat → Int64))) : Nat → Int32 → Int32 → Int32 → Int32 → (Nat → Int32) → (Nat → Int32) → (Nat → Int32) → (Nat → Option Nat) → Int32 → Int64 → (Nat → Int32) → (Nat → Int64) → Int32 → (Nat → Int64) → (Nat → Int64) → (Nat → Int64) → (Nat → Int32) → (Nat → Int32) → (Nat → Int32) → (Nat → Int32) → Int32 → Int32 → Int64 → Int64 → Int32 → Int32 → Option (Int32 × Int32 × Int64 × (Nat → Int32) × (Nat → Int64) × Int32 × (Nat → Int64) × (Nat → Int64) × (Nat → Int64))
  | 0, _, _, _, _, _, _, _, _, _, _, _, _, _, _, _, _, _, _, _, _, _, _, _, _, _, _ => none
  | k + 1, v1_beasts, v1_seats, v1_laws, v1_inForce, a2, a3, a4, a5, v37_height, v37_answer, a38, a39, v40_voters, a41, a75, a77, aL1, aL2, aL3, aL4, x1, x2, x3, x5, x7, x8 => if (x1 : Int32) ≤ (x8 : Int32) then ((fX4_increase Fu a75 a77).bind fun r12 => (k82 v1_beasts v1_seats v1_laws v1_inForce a2 a3 a4 a5 v37_height v37_answer a38 a39 v40_voters a41 r12 a77 aL1 aL2 aL3 aL4 x1 x2 x3 x5 (x7 + 1))) else (if (x7 : Int32) ≤ (x8 : Int32) then (fX11_appeal_L_L128 Fu nh nt ne ns b q k82 (fX11_appeal_L_L105 Fu nh nt ne ns b q k82 k) v1_beasts v1_seats v1_laws v1_inForce a2 a3 a4 a5 v37_height v37_answer a38 a39 v40_voters a41 a75 a77 aL1 aL2 aL3 aL4 x1 x2 x3 x5 x7 x8 x5) else (fX11_appeal_L_L128 Fu nh nt ne ns b q k82 (fX11_appeal_L_L105 Fu nh nt ne ns b q k82 k) v1_beasts v1_seats v1_laws v1_inForce a2 a3 a4 a5 v37_height v37_answer a38 a39 v40_voters a41 a75 a77 aL1 aL2 aL3 aL4 x1 x2 x3 x5 x7 x8 x3))
set_option maxHeartbeats 4000000 in
set_option maxRecDepth 100000 in
theorem tX11_appeal_L_L105 {G : GT} {b : Nat} {q nh nt ne ns : Nat} {c0 : Hp} {n : Nat} (hw : e_wf (kW42 q) n) {v0_faultPlace : Int32} {v0_quashedRows : Int32} {v0_lastRefusal : Int32} {v1_meals : Int32} {Fu : Nat} {k82 : Int32 → Int32 → Int32 → Int32 → (Nat → Int32) → (Nat → Int32) → (Nat → Int32) → (Nat → Option Nat) → Int32 → Int64 → (Nat → Int32) → (Nat → Int64) → Int32 → (Nat → Int64) → (Nat → Int64) → (Nat → Int64) → (Nat → Int32) → (Nat → Int32) → (Nat → Int32) → (Nat → Int32) → Int32 → Int32 → Int64 → Int64 → Int32 → Option (Int32 × Int32 × Int64 × (Nat → Int32) × (Nat → Int64) × Int32 × (Nat → Int64) × (Nat → Int64) × (Nat → Int64))} (hk82 : ∀ {v1_beasts : Int32} {v1_seats : Int32} {v1_laws : Int32} {v1_inForce : Int32} {a2 : Nat → Int32} {a3 : Nat → Int32} {a4 : Nat → Int32} {a5 : Nat → Option Nat} {v37_height : Int32} {v37_answer : Int64} {a38 : Nat → Int32} {a39 : Nat → Int64} {v40_voters : Int32} {a41 : Nat → Int64} {a75 : Nat → Int64} {a77 : Nat → Int64} {aL1 : Nat → Int32} {aL2 : Nat → Int32} {aL3 : Nat → Int32} {aL4 : Nat → Int32} {x1 : Int32} {x2 : Int32} {x3 : Int64} {x5 : Int64} {x7 : Int32} {R : Int32 × Int32 × Int64 × (Nat → Int32) × (Nat → Int64) × Int32 × (Nat → Int64) × (Nat → Int64) × (Nat → Int64)}, k82 v1_beasts v1_seats v1_laws v1_inForce a2 a3 a4 a5 v37_height v37_answer a38 a39 v40_voters a41 a75 a77 aL1 aL2 aL3 aL4 x1 x2 x3 x5 x7 = some R → E G b yX11_appeal cX11_appeal 9 (some .int) (e_rm 6 0 0) e_X0 (e_Z G b (pD (some (.int R.1)) (e_ov (kW42 q) (wW42 G b q nh nt ne ns v0_faultPlace v0_quashedRows v0_lastRefusal v1_beasts v1_meals v1_seats v1_laws v1_inForce a2 a3 a4 a5 R.2.1 R.2.2.1 R.2.2.2.1 R.2.2.2.2.1 R.2.2.2.2.2.1 R.2.2.2.2.2.2.1 R.2.2.2.2.2.2.2.1 R.2.2.2.2.2.2.2.2 aL1 aL2 aL3 aL4) c0) n) 0 0) 82 [(0, .ref (b + 0)), (1, .int x1), (2, .int x2), (3, .long x3), (5, .long x5), (7, .int x7)] [] (e_ov (kW42 q) (wW42 G b q nh nt ne ns v0_faultPlace v0_quashedRows v0_lastRefusal v1_beasts v1_meals v1_seats v1_laws v1_inForce a2 a3 a4 a5 v37_height v37_answer a38 a39 v40_voters a41 a75 a77 aL1 aL2 aL3 aL4) c0) n 0 0) : ∀ (k : Nat) {v1_beasts : Int32} {v1_seats : Int32} {v1_laws : Int32} {v1_inForce : Int32} {a2 : Nat → Int32} {a3 : Nat → Int32} {a4 : Nat → Int32} {a5 : Nat → Option Nat} {v37_height : Int32} {v37_answer : Int64} {a38 : Nat → Int32} {a39 : Nat → Int64} {v40_voters : Int32} {a41 : Nat → Int64} {a75 : Nat → Int64} {a77 : Nat → Int64} {aL1 : Nat → Int32} {aL2 : Nat → Int32} {aL3 : Nat → Int32} {aL4 : Nat → Int32} {x1 : Int32} {x2 : Int32} {x3 : Int64} {x5 : Int64} {x7 : Int32} {x8 : Int32} {R : Int32 × Int32 × Int64 × (Nat → Int32) × (Nat → Int64) × Int32 × (Nat → Int64) × (Nat → Int64) × (Nat → Int64)}, fX11_appeal_L_L105 Fu nh nt ne ns b q k82 k v1_beasts v1_seats v1_laws v1_inForce a2 a3 a4 a5 v37_height v37_answer a38 a39 v40_voters a41 a75 a77 aL1 aL2 aL3 aL4 x1 x2 x3 x5 x7 x8 = some R → E G b yX11_appeal cX11_appeal 9 (some .int) (e_rm 6 0 0) e_X0 (e_Z G b (pD (some (.int R.1)) (e_ov (kW42 q) (wW42 G b q nh nt ne ns v0_faultPlace v0_quashedRows v0_lastRefusal v1_beasts v1_meals v1_seats v1_laws v1_inForce a2 a3 a4 a5 R.2.1 R.2.2.1 R.2.2.2.1 R.2.2.2.2.1 R.2.2.2.2.2.1 R.2.2.2.2.2.2.1 R.2.2.2.2.2.2.2.1 R.2.2.2.2.2.2.2.2 aL1 aL2 aL3 aL4) c0) n) 0 0) 105 [(0, .ref (b + 0)), (1, .int x1), (2, .int x2), (3, .long x3), (5, .long x5), (7, .int x7), (8, .int x8)] [] (e_ov (kW42 q) (wW42 G b q nh nt ne ns v0_faultPlace v0_quashedRows v0_lastRefusal v1_beasts v1_meals v1_seats v1_laws v1_inForce a2 a3 a4 a5 v37_height v37_answer a38 a39 v40_voters a41 a75 a77 aL1 aL2 aL3 aL4) c0) n 0 0 := by
  intro k
  induction k with
  | zero =>
    intro _ _ _ _ _ _ _ _ _ _ _ _ _ _ _ _ _ _ _ _ _ _ _ _ _ _ _ hf
    have hf : (none : Option (Int32 × Int32 × Int64 × (Nat → Int32) × (Nat → Int64) × Int32 × (Nat → Int64) × (Nat → Int64) × (Nat → Int64))) = some _ := hf
    cases hf
  | succ k ih =>
    intro v1_beasts v1_seats v1_laws v1_inForce a2 a3 a4 a5 v37_height v37_answer a38 a39 v40_voters a41 a75 a77 aL1 aL2 aL3 aL4 x1 x2 x3 x5 x7 x8 R hf
    rw [fX11_appeal_L_L105] at hf
    refine E.iload 6 dX11_appeal_105 rfl ?_
    refine E.iload_n 1 dX11_appeal_107 rfl ?_
    refine E.icmp_ge dX11_appeal_108 (fun h => ?_) (fun h => ?_)
    · have hf := e_ift hf h
      refine E.aload_n 0 dX11_appeal_137 rfl ?_
      refine E.get hw 0 0 dX11_appeal_138 flX11_78 rfl rfl rfl rfl ?_
      refine E.aload_n 0 dX11_appeal_141 rfl ?_
      refine E.get hw 0 0 dX11_appeal_142 flX11_82 rfl rfl rfl rfl ?_
      obtain ⟨r12, hc12, hf⟩ := e_bind hf
      refine E.callVDs (es' := (wW42 G b q nh nt ne ns v0_faultPlace v0_quashedRows v0_lastRefusal v1_beasts v1_meals v1_seats v1_laws v1_inForce a2 a3 a4 a5 v37_height v37_answer a38 a39 v40_voters a41 r12 a77 aL1 aL2 aL3 aL4)) [] [11, 12, 13, 14] 11 74 dX11_appeal_145 mlX11_256 hw rfl rfl rfl rfl (mX4_increase (hw.pick2 [11, 12, 13, 14] rfl (by decide)) hc12) rfl rfl rfl rfl ⟨Nat.le_of_ble_eq_true rfl, Nat.le_of_ble_eq_true rfl⟩ rfl rfl (Nat.le_of_ble_eq_true rfl) ⟨Nat.le_refl _, Nat.le_refl _⟩ rfl ?_
      refine E.iinc (q := 5) (v := (x7 + 1)) (lv' := [(7, .int (x7 + 1)), (0, .ref (b + 0)), (1, .int x1), (2, .int x2), (3, .long x3), (5, .long x5), (8, .int x8)]) dX11_appeal_148 rfl rfl (by decide) rfl ?_
      refine E.goto dX11_appeal_151 ?_
      refine E.locals [1, 2, 3, 4, 5, 0] rfl ?_
      exact hk82 hf
    · have hf := e_iff hf h
      refine E.aload_n 0 dX11_appeal_111 rfl ?_
      refine E.get hw 0 0 dX11_appeal_112 flX11_82 rfl rfl rfl rfl ?_
      refine E.iload 6 dX11_appeal_115 rfl ?_
      refine E.iload 5 dX11_appeal_117 rfl ?_
      refine E.icmp_ge dX11_appeal_119 (fun h => ?_) (fun h => ?_)
      · have hf := e_ift hf h
        refine E.lload 4 dX11_appeal_126 rfl ?_
        exact tX11_appeal_L_L128 hw hk82 ih hf
      · have hf := e_iff hf h
        refine E.lload_n 3 dX11_appeal_122 rfl ?_
        refine E.goto dX11_appeal_123 ?_
        exact tX11_appeal_L_L128 hw hk82 ih hf
def fX11_appeal_L_L82 (Fu : Nat) (nh : Nat) (nt : Nat) (ne : Nat) (ns : Nat) (b q : Nat) : Nat → Int32 → Int32 → Int32 → Int32 → (Nat → Int32) → (Nat → Int32) → (Nat → Int32) → (Nat → Option Nat) → Int32 → Int64 → (Nat → Int32) → (Nat → Int64) → Int32 → (Nat → Int64) → (Nat → Int64) → (Nat → Int64) → (Nat → Int32) → (Nat → Int32) → (Nat → Int32) → (Nat → Int32) → Int32 → Int32 → Int64 → Int64 → Int32 → Option (Int32 × Int32 × Int64 × (Nat → Int32) × (Nat → Int64) × Int32 × (Nat → Int64) × (Nat → Int64) × (Nat → Int64))
  | 0, _, _, _, _, _, _, _, _, _, _, _, _, _, _, _, _, _, _, _, _, _, _, _, _, _ => none
  | k + 1, v1_beasts, v1_seats, v1_laws, v1_inForce, a2, a3, a4, a5, v37_height, v37_answer, a38, a39, v40_voters, a41, a75, a77, aL1, aL2, aL3, aL4, x1, x2, x3, x5, x7 => if (x1 : Int32) < (x7 : Int32) then ((fX4_millionths Fu a75 (x2 * x1)).bind fun r9 => (some (r9, v37_height, v37_answer, a38, a39, v40_voters, a41, a75, a77))) else ((fX11_ways Fu x1 x7).bind fun r10 => ((fX4_become Fu a77 ((r10 : Int32).toInt64)).bind fun r11 => (fX11_appeal_L_L105 Fu nh nt ne ns b q (fX11_appeal_L_L82 Fu nh nt ne ns b q k) Fu v1_beasts v1_seats v1_laws v1_inForce a2 a3 a4 a5 v37_height v37_answer a38 a39 v40_voters a41 a75 r11 aL1 aL2 aL3 aL4 x1 x2 x3 x5 x7 0)))
set_option maxHeartbeats 4000000 in
set_option maxRecDepth 100000 in
theorem tX11_appeal_L_L82 {G : GT} {b : Nat} {q nh nt ne ns : Nat} {c0 : Hp} {n : Nat} (hw : e_wf (kW42 q) n) {v0_faultPlace : Int32} {v0_quashedRows : Int32} {v0_lastRefusal : Int32} {v1_meals : Int32} {Fu : Nat} : ∀ (k : Nat) {v1_beasts : Int32} {v1_seats : Int32} {v1_laws : Int32} {v1_inForce : Int32} {a2 : Nat → Int32} {a3 : Nat → Int32} {a4 : Nat → Int32} {a5 : Nat → Option Nat} {v37_height : Int32} {v37_answer : Int64} {a38 : Nat → Int32} {a39 : Nat → Int64} {v40_voters : Int32} {a41 : Nat → Int64} {a75 : Nat → Int64} {a77 : Nat → Int64} {aL1 : Nat → Int32} {aL2 : Nat → Int32} {aL3 : Nat → Int32} {aL4 : Nat → Int32} {x1 : Int32} {x2 : Int32} {x3 : Int64} {x5 : Int64} {x7 : Int32} {R : Int32 × Int32 × Int64 × (Nat → Int32) × (Nat → Int64) × Int32 × (Nat → Int64) × (Nat → Int64) × (Nat → Int64)}, fX11_appeal_L_L82 Fu nh nt ne ns b q k v1_beasts v1_seats v1_laws v1_inForce a2 a3 a4 a5 v37_height v37_answer a38 a39 v40_voters a41 a75 a77 aL1 aL2 aL3 aL4 x1 x2 x3 x5 x7 = some R → E G b yX11_appeal cX11_appeal 9 (some .int) (e_rm 6 0 0) e_X0 (e_Z G b (pD (some (.int R.1)) (e_ov (kW42 q) (wW42 G b q nh nt ne ns v0_faultPlace v0_quashedRows v0_lastRefusal v1_beasts v1_meals v1_seats v1_laws v1_inForce a2 a3 a4 a5 R.2.1 R.2.2.1 R.2.2.2.1 R.2.2.2.2.1 R.2.2.2.2.2.1 R.2.2.2.2.2.2.1 R.2.2.2.2.2.2.2.1 R.2.2.2.2.2.2.2.2 aL1 aL2 aL3 aL4) c0) n) 0 0) 82 [(0, .ref (b + 0)), (1, .int x1), (2, .int x2), (3, .long x3), (5, .long x5), (7, .int x7)] [] (e_ov (kW42 q) (wW42 G b q nh nt ne ns v0_faultPlace v0_quashedRows v0_lastRefusal v1_beasts v1_meals v1_seats v1_laws v1_inForce a2 a3 a4 a5 v37_height v37_answer a38 a39 v40_voters a41 a75 a77 aL1 aL2 aL3 aL4) c0) n 0 0 := by
  intro k
  induction k with
  | zero =>
    intro _ _ _ _ _ _ _ _ _ _ _ _ _ _ _ _ _ _ _ _ _ _ _ _ _ _ hf
    have hf : (none : Option (Int32 × Int32 × Int64 × (Nat → Int32) × (Nat → Int64) × Int32 × (Nat → Int64) × (Nat → Int64) × (Nat → Int64))) = some _ := hf
    cases hf
  | succ k ih =>
    intro v1_beasts v1_seats v1_laws v1_inForce a2 a3 a4 a5 v37_height v37_answer a38 a39 v40_voters a41 a75 a77 aL1 aL2 aL3 aL4 x1 x2 x3 x5 x7 R hf
    rw [fX11_appeal_L_L82] at hf
    refine E.iload 5 dX11_appeal_82 rfl ?_
    refine E.iload_n 1 dX11_appeal_84 rfl ?_
    refine E.icmp_gt dX11_appeal_85 (fun h => ?_) (fun h => ?_)
    · have hf := e_ift hf h
      refine E.aload_n 0 dX11_appeal_154 rfl ?_
      refine E.get hw 0 0 dX11_appeal_155 flX11_78 rfl rfl rfl rfl ?_
      refine E.iload_n 2 dX11_appeal_158 rfl ?_
      refine E.iload_n 1 dX11_appeal_159 rfl ?_
      refine E.imul dX11_appeal_160 ?_
      obtain ⟨r9, hc9, hf⟩ := e_bind hf
      refine E.callVDs (es' := (wW42 G b q nh nt ne ns v0_faultPlace v0_quashedRows v0_lastRefusal v1_beasts v1_meals v1_seats v1_laws v1_inForce a2 a3 a4 a5 v37_height v37_answer a38 a39 v40_voters a41 a75 a77 aL1 aL2 aL3 aL4)) [] [11, 12] 11 74 dX11_appeal_161 mlX11_260 hw rfl rfl rfl rfl (mX4_millionths (hw.pick2 [11, 12] rfl (by decide)) hc9) rfl rfl rfl rfl ⟨Nat.le_of_ble_eq_true rfl, Nat.le_of_ble_eq_true rfl⟩ rfl rfl (Nat.le_of_ble_eq_true rfl) ⟨Nat.le_refl _, Nat.le_refl _⟩ rfl ?_
      cases hf
      exact E.iret dX11_appeal_164 (Nat.le_refl _) (Nat.le_refl _) (pD_rf _ _ _)
    · have hf := e_iff hf h
      refine E.aload_n 0 dX11_appeal_88 rfl ?_
      refine E.get hw 0 0 dX11_appeal_89 flX11_82 rfl rfl rfl rfl ?_
      refine E.iload_n 1 dX11_appeal_92 rfl ?_
      refine E.iload 5 dX11_appeal_93 rfl ?_
      obtain ⟨r10, hc10, hf⟩ := e_bind hf
      refine E.callSD [.ref (b + 76)] dX11_appeal_95 mlX11_250 (mX11_ways hc10) ⟨Nat.le_of_ble_eq_true rfl, Nat.le_of_ble_eq_true rfl⟩ rfl rfl (Nat.le_of_ble_eq_true rfl) ⟨Nat.le_refl _, Nat.le_refl _⟩ rfl ?_
      refine E.i2l dX11_appeal_98 ?_
      obtain ⟨r11, hc11, hf⟩ := e_bind hf
      refine E.callVDs (es' := (wW42 G b q nh nt ne ns v0_faultPlace v0_quashedRows v0_lastRefusal v1_beasts v1_meals v1_seats v1_laws v1_inForce a2 a3 a4 a5 v37_height v37_answer a38 a39 v40_voters a41 a75 r11 aL1 aL2 aL3 aL4)) [] [13, 14] 13 76 dX11_appeal_99 mlX11_246 hw rfl rfl rfl rfl (mX4_become (hw.pick2 [13, 14] rfl (by decide)) hc11) rfl rfl rfl rfl ⟨Nat.le_of_ble_eq_true rfl, Nat.le_of_ble_eq_true rfl⟩ rfl rfl (Nat.le_of_ble_eq_true rfl) ⟨Nat.le_refl _, Nat.le_refl _⟩ rfl ?_
      refine E.iconst (v := 0) dX11_appeal_102 (by decide) ?_
      refine E.istore (lv' := [(8, .int 0), (0, .ref (b + 0)), (1, .int x1), (2, .int x2), (3, .long x3), (5, .long x5), (7, .int x7)]) dX11_appeal_103 (by decide) rfl ?_
      refine E.locals [1, 2, 3, 4, 5, 6, 0] rfl ?_
      exact tX11_appeal_L_L105 hw ih _ hf
def fX11_appeal_L_L17 (Fu : Nat) (nh : Nat) (nt : Nat) (ne : Nat) (ns : Nat) (b q : Nat) (v1_beasts : Int32) (v1_seats : Int32) (v1_laws : Int32) (v1_inForce : Int32) (a2 : Nat → Int32) (a3 : Nat → Int32) (a4 : Nat → Int32) (a5 : Nat → Option Nat) (v37_height : Int32) (v37_answer : Int64) (a38 : Nat → Int32) (a39 : Nat → Int64) (v40_voters : Int32) (a41 : Nat → Int64) (a75 : Nat → Int64) (a77 : Nat → Int64) (aL1 : Nat → Int32) (aL2 : Nat → Int32) (aL3 : Nat → Int32) (aL4 : Nat → Int32) (x1 : Int32) : Option (Int32 × Int32 × Int64 × (Nat → Int32) × (Nat → Int64) × Int32 × (Nat → Int64) × (Nat → Int64) × (Nat → Int64)) := (fJ6_bitCount_0f7a4 v1_seats).bind fun r1 => (gd 1 6 ((fX11_tallyBench_L Fu nh nt ne ns b q v1_beasts v1_seats v1_laws v1_inForce a2 a3 a4 a5 v37_height v37_answer a38 a39 v40_voters a41 aL1 aL2 aL3 aL4 (a4 (1 : Int32).toNatClampNeg) (-1 : Int32)).bind fun r3 => (gd 0 6 ((fX8_atLeast Fu r3.2.2.2.2.1 r3.2.2.2.2.2 (a4 (0 : Int32).toNatClampNeg)).bind fun r5 => ((fX11_power Fu r1).bind fun r6 => ((fX4_become Fu a75 0).bind fun r7 => (gz 2 (fX11_appeal_L_L82 Fu nh nt ne ns b q Fu v1_beasts v1_seats v1_laws v1_inForce a2 a3 a4 a5 r3.1 r3.2.1 r3.2.2.1 r3.2.2.2.1 r3.2.2.2.2.1 r3.2.2.2.2.2 r7 a77 aL1 aL2 aL3 aL4 x1 r1 r5 (r6 - r5) ((x1 / 2) + 1)))))))))
set_option maxHeartbeats 4000000 in
set_option maxRecDepth 100000 in
theorem tX11_appeal_L_L17 {G : GT} {b : Nat} {q nh nt ne ns : Nat} {c0 : Hp} {n : Nat} (hw : e_wf (kW42 q) n) {v0_faultPlace : Int32} {v0_quashedRows : Int32} {v0_lastRefusal : Int32} {v1_meals : Int32} {Fu : Nat} {v1_beasts : Int32} {v1_seats : Int32} {v1_laws : Int32} {v1_inForce : Int32} {a2 : Nat → Int32} {a3 : Nat → Int32} {a4 : Nat → Int32} {a5 : Nat → Option Nat} {v37_height : Int32} {v37_answer : Int64} {a38 : Nat → Int32} {a39 : Nat → Int64} {v40_voters : Int32} {a41 : Nat → Int64} {a75 : Nat → Int64} {a77 : Nat → Int64} {aL1 : Nat → Int32} {aL2 : Nat → Int32} {aL3 : Nat → Int32} {aL4 : Nat → Int32} {x1 : Int32} {R : Int32 × Int32 × Int64 × (Nat → Int32) × (Nat → Int64) × Int32 × (Nat → Int64) × (Nat → Int64) × (Nat → Int64)} (hf : fX11_appeal_L_L17 Fu nh nt ne ns b q v1_beasts v1_seats v1_laws v1_inForce a2 a3 a4 a5 v37_height v37_answer a38 a39 v40_voters a41 a75 a77 aL1 aL2 aL3 aL4 x1 = some R) : E G b yX11_appeal cX11_appeal 9 (some .int) (e_rm 6 0 0) e_X0 (e_Z G b (pD (some (.int R.1)) (e_ov (kW42 q) (wW42 G b q nh nt ne ns v0_faultPlace v0_quashedRows v0_lastRefusal v1_beasts v1_meals v1_seats v1_laws v1_inForce a2 a3 a4 a5 R.2.1 R.2.2.1 R.2.2.2.1 R.2.2.2.2.1 R.2.2.2.2.2.1 R.2.2.2.2.2.2.1 R.2.2.2.2.2.2.2.1 R.2.2.2.2.2.2.2.2 aL1 aL2 aL3 aL4) c0) n) 0 0) 17 [(0, .ref (b + 0)), (1, .int x1)] [] (e_ov (kW42 q) (wW42 G b q nh nt ne ns v0_faultPlace v0_quashedRows v0_lastRefusal v1_beasts v1_meals v1_seats v1_laws v1_inForce a2 a3 a4 a5 v37_height v37_answer a38 a39 v40_voters a41 a75 a77 aL1 aL2 aL3 aL4) c0) n 0 0 := by
  unfold fX11_appeal_L_L17 at hf
  refine E.aload_n 0 dX11_appeal_17 rfl ?_
  refine E.get hw 0 0 dX11_appeal_18 flX11_10 rfl rfl rfl rfl ?_
  refine E.getN hw 1 1 dX11_appeal_21 fnX11_140 rfl rfl rfl rfl ?_
  obtain ⟨r1, hc1, hf⟩ := e_bind hf
  refine E.callSD [] dX11_appeal_24 mlX11_226 (mJ6_bitCount_0f7a4 hc1) ⟨Nat.le_of_ble_eq_true rfl, Nat.le_of_ble_eq_true rfl⟩ rfl rfl (Nat.le_of_ble_eq_true rfl) ⟨Nat.le_refl _, Nat.le_refl _⟩ rfl ?_
  refine E.istore_n (lv' := [(2, .int r1), (0, .ref (b + 0)), (1, .int x1)]) dX11_appeal_27 (by decide) rfl ?_
  refine E.aload_n 1 dX11_appeal_28 rfl ?_
  refine E.aload_n 1 dX11_appeal_29 rfl ?_
  refine E.get hw 0 0 dX11_appeal_30 flX11_10 rfl rfl rfl rfl ?_
  refine E.getN hw 1 1 dX11_appeal_33 fnX11_149 rfl rfl rfl rfl ?_
  refine E.iconst (v := 1) dX11_appeal_36 (by decide) ?_
  obtain ⟨g2, hf⟩ := gd_some hf
  refine E.iald hw 4 4 dX11_appeal_37 rfl rfl g2 ?_
  refine E.iconst (v := -1) dX11_appeal_38 (by decide) ?_
  obtain ⟨r3, hc3, hf⟩ := e_bind hf
  refine E.callVDs (es' := (wW42 G b q nh nt ne ns v0_faultPlace v0_quashedRows v0_lastRefusal v1_beasts v1_meals v1_seats v1_laws v1_inForce a2 a3 a4 a5 r3.1 r3.2.1 r3.2.2.1 r3.2.2.2.1 r3.2.2.2.2.1 r3.2.2.2.2.2 a75 a77 aL1 aL2 aL3 aL4)) [] [0, 1, 2, 3, 4, 5, 6, 7, 8, 9, 10, 15, 16, 17, 18, 19] 0 0 dX11_appeal_39 mlX11_212 hw rfl rfl rfl rfl (mX11_tallyBench_L (hw.pick2 [0, 1, 2, 3, 4, 5, 6, 7, 8, 9, 10, 15, 16, 17, 18, 19] rfl (by decide)) hc3) rfl rfl rfl rfl ⟨Nat.le_of_ble_eq_true rfl, Nat.le_of_ble_eq_true rfl⟩ rfl rfl (Nat.le_of_ble_eq_true rfl) ⟨Nat.le_refl _, Nat.le_refl _⟩ rfl ?_
  refine E.aload_n 1 dX11_appeal_42 rfl ?_
  refine E.get hw 0 0 dX11_appeal_43 flX11_50 rfl rfl rfl rfl ?_
  refine E.aload_n 1 dX11_appeal_46 rfl ?_
  refine E.get hw 0 0 dX11_appeal_47 flX11_10 rfl rfl rfl rfl ?_
  refine E.getN hw 1 1 dX11_appeal_50 fnX11_149 rfl rfl rfl rfl ?_
  refine E.iconst (v := 0) dX11_appeal_53 (by decide) ?_
  obtain ⟨g4, hf⟩ := gd_some hf
  refine E.iald hw 4 4 dX11_appeal_54 rfl rfl g4 ?_
  obtain ⟨r5, hc5, hf⟩ := e_bind hf
  refine E.callVDs (es' := (wW42 G b q nh nt ne ns v0_faultPlace v0_quashedRows v0_lastRefusal v1_beasts v1_meals v1_seats v1_laws v1_inForce a2 a3 a4 a5 r3.1 r3.2.1 r3.2.2.1 r3.2.2.2.1 r3.2.2.2.2.1 r3.2.2.2.2.2 a75 a77 aL1 aL2 aL3 aL4)) [] [9, 10] 9 40 dX11_appeal_55 mlX11_216 hw rfl rfl rfl rfl (mX8_atLeast (hw.pick2 [9, 10] rfl (by decide)) hc5) rfl rfl rfl rfl ⟨Nat.le_of_ble_eq_true rfl, Nat.le_of_ble_eq_true rfl⟩ rfl rfl (Nat.le_of_ble_eq_true rfl) ⟨Nat.le_refl _, Nat.le_refl _⟩ rfl ?_
  refine E.lstore_n (lv' := [(3, .long r5), (2, .int r1), (0, .ref (b + 0)), (1, .int x1)]) dX11_appeal_58 (by decide) rfl ?_
  refine E.iload_n 1 dX11_appeal_59 rfl ?_
  obtain ⟨r6, hc6, hf⟩ := e_bind hf
  refine E.callSD [] dX11_appeal_60 mlX11_231 (mX11_power hc6) ⟨Nat.le_of_ble_eq_true rfl, Nat.le_of_ble_eq_true rfl⟩ rfl rfl (Nat.le_of_ble_eq_true rfl) ⟨Nat.le_refl _, Nat.le_refl _⟩ rfl ?_
  refine E.lload_n 0 dX11_appeal_63 rfl ?_
  refine E.lsub dX11_appeal_64 ?_
  refine E.lstore (lv' := [(5, .long (r6 - r5)), (3, .long r5), (2, .int r1), (0, .ref (b + 0)), (1, .int x1)]) dX11_appeal_65 (by decide) rfl ?_
  refine E.aload_n 3 dX11_appeal_67 rfl ?_
  refine E.get hw 0 0 dX11_appeal_68 flX11_78 rfl rfl rfl rfl ?_
  refine E.lconst (v := 0) dX11_appeal_71 (by decide) ?_
  obtain ⟨r7, hc7, hf⟩ := e_bind hf
  refine E.callVDs (es' := (wW42 G b q nh nt ne ns v0_faultPlace v0_quashedRows v0_lastRefusal v1_beasts v1_meals v1_seats v1_laws v1_inForce a2 a3 a4 a5 r3.1 r3.2.1 r3.2.2.1 r3.2.2.2.1 r3.2.2.2.2.1 r3.2.2.2.2.2 r7 a77 aL1 aL2 aL3 aL4)) [] [11, 12] 11 74 dX11_appeal_72 mlX11_246 hw rfl rfl rfl rfl (mX4_become (hw.pick2 [11, 12] rfl (by decide)) hc7) rfl rfl rfl rfl ⟨Nat.le_of_ble_eq_true rfl, Nat.le_of_ble_eq_true rfl⟩ rfl rfl (Nat.le_of_ble_eq_true rfl) ⟨Nat.le_refl _, Nat.le_refl _⟩ rfl ?_
  refine E.iload_n 4 dX11_appeal_75 rfl ?_
  refine E.iconst (v := 2) dX11_appeal_76 (by decide) ?_
  obtain ⟨g8, hf⟩ := gz_some hf
  refine E.idiv dX11_appeal_77 g8 ?_
  refine E.iconst (v := 1) dX11_appeal_78 (by decide) ?_
  refine E.iadd dX11_appeal_79 ?_
  refine E.istore (lv' := [(7, .int ((x1 / 2) + 1)), (5, .long (r6 - r5)), (3, .long r5), (2, .int r1), (0, .ref (b + 0)), (1, .int x1)]) dX11_appeal_80 (by decide) rfl ?_
  refine E.locals [4, 5, 3, 2, 1, 0] rfl ?_
  exact tX11_appeal_L_L82 hw _ hf
def fX11_appeal_L (Fu : Nat) (nh : Nat) (nt : Nat) (ne : Nat) (ns : Nat) (b q : Nat) (v1_beasts : Int32) (v1_seats : Int32) (v1_laws : Int32) (v1_inForce : Int32) (a2 : Nat → Int32) (a3 : Nat → Int32) (a4 : Nat → Int32) (a5 : Nat → Option Nat) (v37_height : Int32) (v37_answer : Int64) (a38 : Nat → Int32) (a39 : Nat → Int64) (v40_voters : Int32) (a41 : Nat → Int64) (a75 : Nat → Int64) (a77 : Nat → Int64) (aL1 : Nat → Int32) (aL2 : Nat → Int32) (aL3 : Nat → Int32) (aL4 : Nat → Int32) (x1 : Int32) : Option (Int32 × Int32 × Int64 × (Nat → Int32) × (Nat → Int64) × Int32 × (Nat → Int64) × (Nat → Int64) × (Nat → Int64)) := if (x1 : Int32) = (1 : Int32) then (fX11_appeal_L_L17 Fu nh nt ne ns b q v1_beasts v1_seats v1_laws v1_inForce a2 a3 a4 a5 v37_height v37_answer a38 a39 v40_voters a41 a75 a77 aL1 aL2 aL3 aL4 x1) else (if (x1 : Int32) = (3 : Int32) then (fX11_appeal_L_L17 Fu nh nt ne ns b q v1_beasts v1_seats v1_laws v1_inForce a2 a3 a4 a5 v37_height v37_answer a38 a39 v40_voters a41 a75 a77 aL1 aL2 aL3 aL4 x1) else (if (x1 : Int32) = (5 : Int32) then (fX11_appeal_L_L17 Fu nh nt ne ns b q v1_beasts v1_seats v1_laws v1_inForce a2 a3 a4 a5 v37_height v37_answer a38 a39 v40_voters a41 a75 a77 aL1 aL2 aL3 aL4 x1) else (some ((-1 : Int32), v37_height, v37_answer, a38, a39, v40_voters, a41, a75, a77))))
set_option maxHeartbeats 4000000 in
set_option maxRecDepth 100000 in
theorem tX11_appeal_L {G : GT} {b : Nat} {q nh nt ne ns : Nat} {c0 : Hp} {n : Nat} (hw : e_wf (kW42 q) n) {v0_faultPlace : Int32} {v0_quashedRows : Int32} {v0_lastRefusal : Int32} {v1_meals : Int32} {Fu : Nat} {v1_beasts : Int32} {v1_seats : Int32} {v1_laws : Int32} {v1_inForce : Int32} {a2 : Nat → Int32} {a3 : Nat → Int32} {a4 : Nat → Int32} {a5 : Nat → Option Nat} {v37_height : Int32} {v37_answer : Int64} {a38 : Nat → Int32} {a39 : Nat → Int64} {v40_voters : Int32} {a41 : Nat → Int64} {a75 : Nat → Int64} {a77 : Nat → Int64} {aL1 : Nat → Int32} {aL2 : Nat → Int32} {aL3 : Nat → Int32} {aL4 : Nat → Int32} {x1 : Int32} {R : Int32 × Int32 × Int64 × (Nat → Int32) × (Nat → Int64) × Int32 × (Nat → Int64) × (Nat → Int64) × (Nat → Int64)} (hf : fX11_appeal_L Fu nh nt ne ns b q v1_beasts v1_seats v1_laws v1_inForce a2 a3 a4 a5 v37_height v37_answer a38 a39 v40_voters a41 a75 a77 aL1 aL2 aL3 aL4 x1 = some R) : E G b yX11_appeal cX11_appeal 9 (some .int) (e_rm 6 0 0) e_X0 (e_Z G b (pD (some (.int R.1)) (e_ov (kW42 q) (wW42 G b q nh nt ne ns v0_faultPlace v0_quashedRows v0_lastRefusal v1_beasts v1_meals v1_seats v1_laws v1_inForce a2 a3 a4 a5 R.2.1 R.2.2.1 R.2.2.2.1 R.2.2.2.2.1 R.2.2.2.2.2.1 R.2.2.2.2.2.2.1 R.2.2.2.2.2.2.2.1 R.2.2.2.2.2.2.2.2 aL1 aL2 aL3 aL4) c0) n) 0 0) 0 [(0, .ref (b + 0)), (1, .int x1)] [] (e_ov (kW42 q) (wW42 G b q nh nt ne ns v0_faultPlace v0_quashedRows v0_lastRefusal v1_beasts v1_meals v1_seats v1_laws v1_inForce a2 a3 a4 a5 v37_height v37_answer a38 a39 v40_voters a41 a75 a77 aL1 aL2 aL3 aL4) c0) n 0 0 := by
  unfold fX11_appeal_L at hf
  refine E.iload_n 1 dX11_appeal_0 rfl ?_
  refine E.iconst (v := 1) dX11_appeal_1 (by decide) ?_
  refine E.icmp_eq dX11_appeal_2 (fun h => ?_) (fun h => ?_)
  · have hf := e_ift hf h
    exact tX11_appeal_L_L17 hw hf
  · have hf := e_iff hf h
    refine E.iload_n 1 dX11_appeal_5 rfl ?_
    refine E.iconst (v := 3) dX11_appeal_6 (by decide) ?_
    refine E.icmp_eq dX11_appeal_7 (fun h => ?_) (fun h => ?_)
    · have hf := e_ift hf h
      exact tX11_appeal_L_L17 hw hf
    · have hf := e_iff hf h
      refine E.iload_n 1 dX11_appeal_10 rfl ?_
      refine E.iconst (v := 5) dX11_appeal_11 (by decide) ?_
      refine E.icmp_eq dX11_appeal_12 (fun h => ?_) (fun h => ?_)
      · have hf := e_ift hf h
        exact tX11_appeal_L_L17 hw hf
      · have hf := e_iff hf h
        refine E.iconst (v := -1) dX11_appeal_15 (by decide) ?_
        cases hf
        exact E.iret dX11_appeal_16 (Nat.le_refl _) (Nat.le_refl _) (pD_rf _ _ _)
set_option maxRecDepth 100000 in
theorem mX11_appeal_L {G : GT} {b : Nat} {q nh nt ne ns : Nat} {c0 : Hp} {n : Nat} (hw : e_wf (kW42 q) n) {v0_faultPlace : Int32} {v0_quashedRows : Int32} {v0_lastRefusal : Int32} {v1_meals : Int32} {Fu : Nat} {v1_beasts : Int32} {v1_seats : Int32} {v1_laws : Int32} {v1_inForce : Int32} {a2 : Nat → Int32} {a3 : Nat → Int32} {a4 : Nat → Int32} {a5 : Nat → Option Nat} {v37_height : Int32} {v37_answer : Int64} {a38 : Nat → Int32} {a39 : Nat → Int64} {v40_voters : Int32} {a41 : Nat → Int64} {a75 : Nat → Int64} {a77 : Nat → Int64} {aL1 : Nat → Int32} {aL2 : Nat → Int32} {aL3 : Nat → Int32} {aL4 : Nat → Int32} {x1 : Int32} {R : Int32 × Int32 × Int64 × (Nat → Int32) × (Nat → Int64) × Int32 × (Nat → Int64) × (Nat → Int64) × (Nat → Int64)} (hf : fX11_appeal_L Fu nh nt ne ns b q v1_beasts v1_seats v1_laws v1_inForce a2 a3 a4 a5 v37_height v37_answer a38 a39 v40_voters a41 a75 a77 aL1 aL2 aL3 aL4 x1 = some R) : e_C G b yX11_appeal cX11_appeal 9 (some .int) 6 0 0 [.ref (b + 0), .int x1] (e_ov (kW42 q) (wW42 G b q nh nt ne ns v0_faultPlace v0_quashedRows v0_lastRefusal v1_beasts v1_meals v1_seats v1_laws v1_inForce a2 a3 a4 a5 v37_height v37_answer a38 a39 v40_voters a41 a75 a77 aL1 aL2 aL3 aL4) c0) n (pD (some (.int R.1)) (e_ov (kW42 q) (wW42 G b q nh nt ne ns v0_faultPlace v0_quashedRows v0_lastRefusal v1_beasts v1_meals v1_seats v1_laws v1_inForce a2 a3 a4 a5 R.2.1 R.2.2.1 R.2.2.2.1 R.2.2.2.2.1 R.2.2.2.2.2.1 R.2.2.2.2.2.2.1 R.2.2.2.2.2.2.2.1 R.2.2.2.2.2.2.2.2 aL1 aL2 aL3 aL4) c0) n) := e_C.of (by decide) (Nat.le_of_ble_eq_true rfl) (tX11_appeal_L hw hf)
def fJ6_numberOfTrailingZeros_0f7a4_L74 (x0 : Int32) (x1 : Int32) : Option (Int32) := some ((x1 + (((x0 : Int32).toUInt32 >>> ((1 : Int32).toUInt32 &&& Int32.toUInt32 31)).toInt32)))
set_option maxHeartbeats 4000000 in
set_option maxRecDepth 100000 in
theorem tJ6_numberOfTrailingZeros_0f7a4_L74 {G : GT} {b : Nat} {c : Hp} {n : Nat} {x0 : Int32} {x1 : Int32} {R : Int32} (hf : fJ6_numberOfTrailingZeros_0f7a4_L74 x0 x1 = some R) : E G b yJ6_numberOfTrailingZeros_0f7a4 cJ6_numberOfTrailingZeros_0f7a4 2 (some .int) (e_rm 0 0 0) e_X0 (e_Z G b (pD (some (.int R)) c n) 0 0) 74 [(0, .int x0), (1, .int x1)] [] c n 0 0 := by
  unfold fJ6_numberOfTrailingZeros_0f7a4_L74 at hf
  refine E.iload_n 1 dJ6_numberOfTrailingZeros_0f7a4_74 rfl ?_
  refine E.iload_n 0 dJ6_numberOfTrailingZeros_0f7a4_75 rfl ?_
  refine E.iconst (v := 1) dJ6_numberOfTrailingZeros_0f7a4_76 (by decide) ?_
  refine E.iushr dJ6_numberOfTrailingZeros_0f7a4_77 ?_
  refine E.iadd dJ6_numberOfTrailingZeros_0f7a4_78 ?_
  cases hf
  exact E.iret dJ6_numberOfTrailingZeros_0f7a4_79 (Nat.le_refl _) (Nat.le_refl _) (pD_rf _ _ _)
def fJ6_numberOfTrailingZeros_0f7a4_L62 (x0 : Int32) (x1 : Int32) : Option (Int32) := if (x0 : Int32) ≤ (4 : Int32) then (fJ6_numberOfTrailingZeros_0f7a4_L74 x0 x1) else (fJ6_numberOfTrailingZeros_0f7a4_L74 (((x0 : Int32).toUInt32 >>> ((2 : Int32).toUInt32 &&& Int32.toUInt32 31)).toInt32) (x1 + 2))
set_option maxHeartbeats 4000000 in
set_option maxRecDepth 100000 in
theorem tJ6_numberOfTrailingZeros_0f7a4_L62 {G : GT} {b : Nat} {c : Hp} {n : Nat} {x0 : Int32} {x1 : Int32} {R : Int32} (hf : fJ6_numberOfTrailingZeros_0f7a4_L62 x0 x1 = some R) : E G b yJ6_numberOfTrailingZeros_0f7a4 cJ6_numberOfTrailingZeros_0f7a4 2 (some .int) (e_rm 0 0 0) e_X0 (e_Z G b (pD (some (.int R)) c n) 0 0) 62 [(0, .int x0), (1, .int x1)] [] c n 0 0 := by
  unfold fJ6_numberOfTrailingZeros_0f7a4_L62 at hf
  refine E.iload_n 0 dJ6_numberOfTrailingZeros_0f7a4_62 rfl ?_
  refine E.iconst (v := 4) dJ6_numberOfTrailingZeros_0f7a4_63 (by decide) ?_
  refine E.icmp_le dJ6_numberOfTrailingZeros_0f7a4_64 (fun h => ?_) (fun h => ?_)
  · have hf := e_ift hf h
    exact tJ6_numberOfTrailingZeros_0f7a4_L74 hf
  · have hf := e_iff hf h
    refine E.iinc (q := 1) (v := (x1 + 2)) (lv' := [(1, .int (x1 + 2)), (0, .int x0)]) dJ6_numberOfTrailingZeros_0f7a4_67 rfl rfl (by decide) rfl ?_
    refine E.iload_n 1 dJ6_numberOfTrailingZeros_0f7a4_70 rfl ?_
    refine E.iconst (v := 2) dJ6_numberOfTrailingZeros_0f7a4_71 (by decide) ?_
    refine E.iushr dJ6_numberOfTrailingZeros_0f7a4_72 ?_
    refine E.istore_n (lv' := [(0, .int (((x0 : Int32).toUInt32 >>> ((2 : Int32).toUInt32 &&& Int32.toUInt32 31)).toInt32)), (1, .int (x1 + 2))]) dJ6_numberOfTrailingZeros_0f7a4_73 (by decide) rfl ?_
    exact tJ6_numberOfTrailingZeros_0f7a4_L74 hf
def fJ6_numberOfTrailingZeros_0f7a4_L49 (x0 : Int32) (x1 : Int32) : Option (Int32) := if (x0 : Int32) ≤ (16 : Int32) then (fJ6_numberOfTrailingZeros_0f7a4_L62 x0 x1) else (fJ6_numberOfTrailingZeros_0f7a4_L62 (((x0 : Int32).toUInt32 >>> ((4 : Int32).toUInt32 &&& Int32.toUInt32 31)).toInt32) (x1 + 4))
set_option maxHeartbeats 4000000 in
set_option maxRecDepth 100000 in
theorem tJ6_numberOfTrailingZeros_0f7a4_L49 {G : GT} {b : Nat} {c : Hp} {n : Nat} {x0 : Int32} {x1 : Int32} {R : Int32} (hf : fJ6_numberOfTrailingZeros_0f7a4_L49 x0 x1 = some R) : E G b yJ6_numberOfTrailingZeros_0f7a4 cJ6_numberOfTrailingZeros_0f7a4 2 (some .int) (e_rm 0 0 0) e_X0 (e_Z G b (pD (some (.int R)) c n) 0 0) 49 [(0, .int x0), (1, .int x1)] [] c n 0 0 := by
  unfold fJ6_numberOfTrailingZeros_0f7a4_L49 at hf
  refine E.iload_n 0 dJ6_numberOfTrailingZeros_0f7a4_49 rfl ?_
  refine E.bipush (v := 16) dJ6_numberOfTrailingZeros_0f7a4_50 (by decide) ?_
  refine E.icmp_le dJ6_numberOfTrailingZeros_0f7a4_52 (fun h => ?_) (fun h => ?_)
  · have hf := e_ift hf h
    exact tJ6_numberOfTrailingZeros_0f7a4_L62 hf
  · have hf := e_iff hf h
    refine E.iinc (q := 1) (v := (x1 + 4)) (lv' := [(1, .int (x1 + 4)), (0, .int x0)]) dJ6_numberOfTrailingZeros_0f7a4_55 rfl rfl (by decide) rfl ?_
    refine E.iload_n 1 dJ6_numberOfTrailingZeros_0f7a4_58 rfl ?_
    refine E.iconst (v := 4) dJ6_numberOfTrailingZeros_0f7a4_59 (by decide) ?_
    refine E.iushr dJ6_numberOfTrailingZeros_0f7a4_60 ?_
    refine E.istore_n (lv' := [(0, .int (((x0 : Int32).toUInt32 >>> ((4 : Int32).toUInt32 &&& Int32.toUInt32 31)).toInt32)), (1, .int (x1 + 4))]) dJ6_numberOfTrailingZeros_0f7a4_61 (by decide) rfl ?_
    exact tJ6_numberOfTrailingZeros_0f7a4_L62 hf
def fJ6_numberOfTrailingZeros_0f7a4_L34 (x0 : Int32) (x1 : Int32) : Option (Int32) := if (x0 : Int32) ≤ (256 : Int32) then (fJ6_numberOfTrailingZeros_0f7a4_L49 x0 x1) else (fJ6_numberOfTrailingZeros_0f7a4_L49 (((x0 : Int32).toUInt32 >>> ((8 : Int32).toUInt32 &&& Int32.toUInt32 31)).toInt32) (x1 + 8))
set_option maxHeartbeats 4000000 in
set_option maxRecDepth 100000 in
theorem tJ6_numberOfTrailingZeros_0f7a4_L34 {G : GT} {b : Nat} {c : Hp} {n : Nat} {x0 : Int32} {x1 : Int32} {R : Int32} (hf : fJ6_numberOfTrailingZeros_0f7a4_L34 x0 x1 = some R) : E G b yJ6_numberOfTrailingZeros_0f7a4 cJ6_numberOfTrailingZeros_0f7a4 2 (some .int) (e_rm 0 0 0) e_X0 (e_Z G b (pD (some (.int R)) c n) 0 0) 34 [(0, .int x0), (1, .int x1)] [] c n 0 0 := by
  unfold fJ6_numberOfTrailingZeros_0f7a4_L34 at hf
  refine E.iload_n 0 dJ6_numberOfTrailingZeros_0f7a4_34 rfl ?_
  refine E.sipush (v := 256) dJ6_numberOfTrailingZeros_0f7a4_35 (by decide) ?_
  refine E.icmp_le dJ6_numberOfTrailingZeros_0f7a4_38 (fun h => ?_) (fun h => ?_)
  · have hf := e_ift hf h
    exact tJ6_numberOfTrailingZeros_0f7a4_L49 hf
  · have hf := e_iff hf h
    refine E.iinc (q := 1) (v := (x1 + 8)) (lv' := [(1, .int (x1 + 8)), (0, .int x0)]) dJ6_numberOfTrailingZeros_0f7a4_41 rfl rfl (by decide) rfl ?_
    refine E.iload_n 1 dJ6_numberOfTrailingZeros_0f7a4_44 rfl ?_
    refine E.bipush (v := 8) dJ6_numberOfTrailingZeros_0f7a4_45 (by decide) ?_
    refine E.iushr dJ6_numberOfTrailingZeros_0f7a4_47 ?_
    refine E.istore_n (lv' := [(0, .int (((x0 : Int32).toUInt32 >>> ((8 : Int32).toUInt32 &&& Int32.toUInt32 31)).toInt32)), (1, .int (x1 + 8))]) dJ6_numberOfTrailingZeros_0f7a4_48 (by decide) rfl ?_
    exact tJ6_numberOfTrailingZeros_0f7a4_L49 hf
def fJ6_numberOfTrailingZeros_0f7a4 (x0 : Int32) : Option (Int32) := if (0 : Int32) < (((x0 ^^^ (-1 : Int32)) &&& (x0 - 1)) : Int32) then (if (((x0 ^^^ (-1 : Int32)) &&& (x0 - 1)) : Int32) ≤ (65536 : Int32) then (fJ6_numberOfTrailingZeros_0f7a4_L34 ((x0 ^^^ (-1 : Int32)) &&& (x0 - 1)) 1) else (fJ6_numberOfTrailingZeros_0f7a4_L34 (((((x0 ^^^ (-1 : Int32)) &&& (x0 - 1)) : Int32).toUInt32 >>> ((16 : Int32).toUInt32 &&& Int32.toUInt32 31)).toInt32) (1 + 16))) else (some ((((x0 ^^^ (-1 : Int32)) &&& (x0 - 1)) &&& 32)))
set_option maxHeartbeats 4000000 in
set_option maxRecDepth 100000 in
theorem tJ6_numberOfTrailingZeros_0f7a4 {G : GT} {b : Nat} {c : Hp} {n : Nat} {x0 : Int32} {R : Int32} (hf : fJ6_numberOfTrailingZeros_0f7a4 x0 = some R) : E G b yJ6_numberOfTrailingZeros_0f7a4 cJ6_numberOfTrailingZeros_0f7a4 2 (some .int) (e_rm 0 0 0) e_X0 (e_Z G b (pD (some (.int R)) c n) 0 0) 0 [(0, .int x0)] [] c n 0 0 := by
  unfold fJ6_numberOfTrailingZeros_0f7a4 at hf
  refine E.iload_n 0 dJ6_numberOfTrailingZeros_0f7a4_0 rfl ?_
  refine E.iconst (v := -1) dJ6_numberOfTrailingZeros_0f7a4_1 (by decide) ?_
  refine E.ixor dJ6_numberOfTrailingZeros_0f7a4_2 ?_
  refine E.iload_n 0 dJ6_numberOfTrailingZeros_0f7a4_3 rfl ?_
  refine E.iconst (v := 1) dJ6_numberOfTrailingZeros_0f7a4_4 (by decide) ?_
  refine E.isub dJ6_numberOfTrailingZeros_0f7a4_5 ?_
  refine E.iand dJ6_numberOfTrailingZeros_0f7a4_6 ?_
  refine E.istore_n (lv' := [(0, .int ((x0 ^^^ (-1 : Int32)) &&& (x0 - 1)))]) dJ6_numberOfTrailingZeros_0f7a4_7 (by decide) rfl ?_
  refine E.iload_n 0 dJ6_numberOfTrailingZeros_0f7a4_8 rfl ?_
  refine E.if_gt dJ6_numberOfTrailingZeros_0f7a4_9 (fun h => ?_) (fun h => ?_)
  · have hf := e_ift hf h
    refine E.iconst (v := 1) dJ6_numberOfTrailingZeros_0f7a4_17 (by decide) ?_
    refine E.istore_n (lv' := [(1, .int 1), (0, .int ((x0 ^^^ (-1 : Int32)) &&& (x0 - 1)))]) dJ6_numberOfTrailingZeros_0f7a4_18 (by decide) rfl ?_
    refine E.iload_n 1 dJ6_numberOfTrailingZeros_0f7a4_19 rfl ?_
    refine E.ldcw dJ6_numberOfTrailingZeros_0f7a4_20 kJ6_264 ?_
    refine E.icmp_le dJ6_numberOfTrailingZeros_0f7a4_23 (fun h => ?_) (fun h => ?_)
    · have hf := e_ift hf h
      refine E.locals [1, 0] rfl ?_
      exact tJ6_numberOfTrailingZeros_0f7a4_L34 hf
    · have hf := e_iff hf h
      refine E.iinc (q := 0) (v := (1 + 16)) (lv' := [(1, .int (1 + 16)), (0, .int ((x0 ^^^ (-1 : Int32)) &&& (x0 - 1)))]) dJ6_numberOfTrailingZeros_0f7a4_26 rfl rfl (by decide) rfl ?_
      refine E.iload_n 1 dJ6_numberOfTrailingZeros_0f7a4_29 rfl ?_
      refine E.bipush (v := 16) dJ6_numberOfTrailingZeros_0f7a4_30 (by decide) ?_
      refine E.iushr dJ6_numberOfTrailingZeros_0f7a4_32 ?_
      refine E.istore_n (lv' := [(0, .int (((((x0 ^^^ (-1 : Int32)) &&& (x0 - 1)) : Int32).toUInt32 >>> ((16 : Int32).toUInt32 &&& Int32.toUInt32 31)).toInt32)), (1, .int (1 + 16))]) dJ6_numberOfTrailingZeros_0f7a4_33 (by decide) rfl ?_
      exact tJ6_numberOfTrailingZeros_0f7a4_L34 hf
  · have hf := e_iff hf h
    refine E.iload_n 0 dJ6_numberOfTrailingZeros_0f7a4_12 rfl ?_
    refine E.bipush (v := 32) dJ6_numberOfTrailingZeros_0f7a4_13 (by decide) ?_
    refine E.iand dJ6_numberOfTrailingZeros_0f7a4_15 ?_
    cases hf
    exact E.iret dJ6_numberOfTrailingZeros_0f7a4_16 (Nat.le_refl _) (Nat.le_refl _) (pD_rf _ _ _)
set_option maxRecDepth 100000 in
theorem mJ6_numberOfTrailingZeros_0f7a4 {G : GT} {b : Nat} {c : Hp} {n : Nat} {x0 : Int32} {R : Int32} (hf : fJ6_numberOfTrailingZeros_0f7a4 x0 = some R) : e_C G b yJ6_numberOfTrailingZeros_0f7a4 cJ6_numberOfTrailingZeros_0f7a4 2 (some .int) 0 0 0 [.int x0] c n (pD (some (.int R)) c n) := e_C.of (by decide) (Nat.le_of_ble_eq_true rfl) (tJ6_numberOfTrailingZeros_0f7a4 hf)
abbrev kW43 : List Nat := [42, 45, 46]
abbrev wW43 (G : GT) (b  : Nat) (v42_beasts : Int32) (v42_seats : Int32) (v42_seated : Int32) (v42_quota : Int32) (v42_known : Int32) (v42_surveyed : Int32) (v42_steadyBench : Int32) (v42_steadyWays : Int32) (v42_steadySwing : Int64) (a45 : Nat → Int32) (a46 : Nat → Int32) : List va_E := [.inr (1, [.ref (b + 43), .ref (b + 44), .ref (b + 45), .ref (b + 46), .ref (b + 47), .ref (b + 48), .ref (b + 49), .ref (b + 50), .ref (b + 67), .int v42_beasts, .int v42_seats, .int v42_seated, .int v42_quota, .int v42_known, .int v42_surveyed, .int v42_steadyBench, .int v42_steadyWays, .long v42_steadySwing]), aI G 16 a45, aI G 512 a46]
def fX1_addPrices_L13 (Fu : Nat) : Nat → Int32 → (Nat → Int32) → (Nat → Int32) → Int32 → Int32 → Option ((Nat → Int32))
  | 0, _, _, _, _, _ => none
  | k + 1, v42_beasts, a45, a46, x1, x2 => if (((1 : Int32) <<< ((v42_beasts : Int32) &&& 31)) : Int32) ≤ (x2 : Int32) then (some (a46)) else ((fJ6_numberOfTrailingZeros_0f7a4 x2).bind fun r2 => (gd ((x1 * 256) + (x2 &&& (x2 - 1))) 512 (gd ((x1 * 8) + r2) 16 (gd ((x1 * 256) + x2) 512 ((fX1_addPrices_L13 Fu k) v42_beasts a45 (va_up a46 (((x1 * 256) + x2) : Int32).toNatClampNeg ((a46 (((x1 * 256) + (x2 &&& (x2 - 1))) : Int32).toNatClampNeg) + (a45 (((x1 * 8) + r2) : Int32).toNatClampNeg))) x1 (x2 + 1))))))
set_option maxHeartbeats 4000000 in
set_option maxRecDepth 100000 in
theorem tX1_addPrices_L13 {G : GT} {b : Nat} {c0 : Hp} {n : Nat} (hw : e_wf (kW43) n) {v42_seats : Int32} {v42_seated : Int32} {v42_quota : Int32} {v42_known : Int32} {v42_surveyed : Int32} {v42_steadyBench : Int32} {v42_steadyWays : Int32} {v42_steadySwing : Int64} {Fu : Nat} : ∀ (k : Nat) {v42_beasts : Int32} {a45 : Nat → Int32} {a46 : Nat → Int32} {x1 : Int32} {x2 : Int32} {R : (Nat → Int32)}, fX1_addPrices_L13 Fu k v42_beasts a45 a46 x1 x2 = some R → E G b yX1_addPrices cX1_addPrices 5 none (e_rm 1 0 0) e_X0 (e_Z G b (pD none (e_ov (kW43) (wW43 G b v42_beasts v42_seats v42_seated v42_quota v42_known v42_surveyed v42_steadyBench v42_steadyWays v42_steadySwing a45 R) c0) n) 0 0) 13 [(0, .ref (b + 42)), (1, .int x1), (2, .int x2)] [] (e_ov (kW43) (wW43 G b v42_beasts v42_seats v42_seated v42_quota v42_known v42_surveyed v42_steadyBench v42_steadyWays v42_steadySwing a45 a46) c0) n 0 0 := by
  intro k
  induction k with
  | zero =>
    intro _ _ _ _ _ _ hf
    have hf : (none : Option ((Nat → Int32))) = some _ := hf
    cases hf
  | succ k ih =>
    intro v42_beasts a45 a46 x1 x2 R hf
    rw [fX1_addPrices_L13] at hf
    refine E.iload_n 2 dX1_addPrices_13 rfl ?_
    refine E.iconst (v := 1) dX1_addPrices_14 (by decide) ?_
    refine E.aload_n 0 dX1_addPrices_15 rfl ?_
    refine E.get hw 0 42 dX1_addPrices_16 flX1_58 rfl rfl rfl rfl ?_
    refine E.ishl dX1_addPrices_19 ?_
    refine E.icmp_ge dX1_addPrices_20 (fun h => ?_) (fun h => ?_)
    · have hf := e_ift hf h
      cases hf
      exact E.vret dX1_addPrices_78 (Nat.le_refl _) (Nat.le_refl _) (pD_rf _ _ _)
    · have hf := e_iff hf h
      refine E.iload_n 2 dX1_addPrices_23 rfl ?_
      obtain ⟨r2, hc2, hf⟩ := e_bind hf
      refine E.callSD [] dX1_addPrices_24 mlX1_94 (mJ6_numberOfTrailingZeros_0f7a4 hc2) ⟨Nat.le_of_ble_eq_true rfl, Nat.le_of_ble_eq_true rfl⟩ rfl rfl (Nat.le_of_ble_eq_true rfl) ⟨Nat.le_refl _, Nat.le_refl _⟩ rfl ?_
      refine E.istore_n (lv' := [(3, .int r2), (0, .ref (b + 42)), (1, .int x1), (2, .int x2)]) dX1_addPrices_27 (by decide) rfl ?_
      refine E.iload_n 3 dX1_addPrices_28 rfl ?_
      refine E.iload_n 3 dX1_addPrices_29 rfl ?_
      refine E.iconst (v := 1) dX1_addPrices_30 (by decide) ?_
      refine E.isub dX1_addPrices_31 ?_
      refine E.iand dX1_addPrices_32 ?_
      refine E.istore (lv' := [(4, .int (x2 &&& (x2 - 1))), (3, .int r2), (0, .ref (b + 42)), (1, .int x1), (2, .int x2)]) dX1_addPrices_33 (by decide) rfl ?_
      refine E.aload_n 2 dX1_addPrices_35 rfl ?_
      refine E.get hw 0 42 dX1_addPrices_36 flX1_21 rfl rfl rfl rfl ?_
      refine E.iload_n 3 dX1_addPrices_39 rfl ?_
      refine E.sipush (v := 256) dX1_addPrices_40 (by decide) ?_
      refine E.imul dX1_addPrices_43 ?_
      refine E.iload_n 4 dX1_addPrices_44 rfl ?_
      refine E.iadd dX1_addPrices_45 ?_
      refine E.aload_n 2 dX1_addPrices_46 rfl ?_
      refine E.get hw 0 42 dX1_addPrices_47 flX1_21 rfl rfl rfl rfl ?_
      refine E.iload_n 3 dX1_addPrices_50 rfl ?_
      refine E.sipush (v := 256) dX1_addPrices_51 (by decide) ?_
      refine E.imul dX1_addPrices_54 ?_
      refine E.iload 0 dX1_addPrices_55 rfl ?_
      refine E.iadd dX1_addPrices_57 ?_
      obtain ⟨g3, hf⟩ := gd_some hf
      refine E.iald hw 2 46 dX1_addPrices_58 rfl rfl g3 ?_
      refine E.aload_n 2 dX1_addPrices_59 rfl ?_
      refine E.get hw 0 42 dX1_addPrices_60 flX1_18 rfl rfl rfl rfl ?_
      refine E.iload_n 3 dX1_addPrices_63 rfl ?_
      refine E.bipush (v := 8) dX1_addPrices_64 (by decide) ?_
      refine E.imul dX1_addPrices_66 ?_
      refine E.iload_n 1 dX1_addPrices_67 rfl ?_
      refine E.iadd dX1_addPrices_68 ?_
      obtain ⟨g4, hf⟩ := gd_some hf
      refine E.iald hw 1 45 dX1_addPrices_69 rfl rfl g4 ?_
      refine E.iadd dX1_addPrices_70 ?_
      obtain ⟨g5, hf⟩ := gd_some hf
      refine E.iast (es' := (wW43 G b v42_beasts v42_seats v42_seated v42_quota v42_known v42_surveyed v42_steadyBench v42_steadyWays v42_steadySwing a45 (va_up a46 (((x1 * 256) + x2) : Int32).toNatClampNeg ((a46 (((x1 * 256) + (x2 &&& (x2 - 1))) : Int32).toNatClampNeg) + (a45 (((x1 * 8) + r2) : Int32).toNatClampNeg))))) hw 2 46 dX1_addPrices_71 rfl rfl g5 rfl ?_
      refine E.iinc (q := 4) (v := (x2 + 1)) (lv' := [(2, .int (x2 + 1)), (4, .int (x2 &&& (x2 - 1))), (3, .int r2), (0, .ref (b + 42)), (1, .int x1)]) dX1_addPrices_72 rfl rfl (by decide) rfl ?_
      refine E.goto dX1_addPrices_75 ?_
      refine E.locals [3, 4, 0] rfl ?_
      exact ih hf
def fX1_addPrices (Fu : Nat) (v42_beasts : Int32) (a45 : Nat → Int32) (a46 : Nat → Int32) (x1 : Int32) : Option ((Nat → Int32)) := gd (x1 * 256) 512 (fX1_addPrices_L13 Fu Fu v42_beasts a45 (va_up a46 ((x1 * 256) : Int32).toNatClampNeg 0) x1 1)
set_option maxHeartbeats 4000000 in
set_option maxRecDepth 100000 in
theorem tX1_addPrices {G : GT} {b : Nat} {c0 : Hp} {n : Nat} (hw : e_wf (kW43) n) {v42_seats : Int32} {v42_seated : Int32} {v42_quota : Int32} {v42_known : Int32} {v42_surveyed : Int32} {v42_steadyBench : Int32} {v42_steadyWays : Int32} {v42_steadySwing : Int64} {Fu : Nat} {v42_beasts : Int32} {a45 : Nat → Int32} {a46 : Nat → Int32} {x1 : Int32} {R : (Nat → Int32)} (hf : fX1_addPrices Fu v42_beasts a45 a46 x1 = some R) : E G b yX1_addPrices cX1_addPrices 5 none (e_rm 1 0 0) e_X0 (e_Z G b (pD none (e_ov (kW43) (wW43 G b v42_beasts v42_seats v42_seated v42_quota v42_known v42_surveyed v42_steadyBench v42_steadyWays v42_steadySwing a45 R) c0) n) 0 0) 0 [(0, .ref (b + 42)), (1, .int x1)] [] (e_ov (kW43) (wW43 G b v42_beasts v42_seats v42_seated v42_quota v42_known v42_surveyed v42_steadyBench v42_steadyWays v42_steadySwing a45 a46) c0) n 0 0 := by
  unfold fX1_addPrices at hf
  refine E.aload_n 0 dX1_addPrices_0 rfl ?_
  refine E.get hw 0 42 dX1_addPrices_1 flX1_21 rfl rfl rfl rfl ?_
  refine E.iload_n 1 dX1_addPrices_4 rfl ?_
  refine E.sipush (v := 256) dX1_addPrices_5 (by decide) ?_
  refine E.imul dX1_addPrices_8 ?_
  refine E.iconst (v := 0) dX1_addPrices_9 (by decide) ?_
  obtain ⟨g1, hf⟩ := gd_some hf
  refine E.iast (es' := (wW43 G b v42_beasts v42_seats v42_seated v42_quota v42_known v42_surveyed v42_steadyBench v42_steadyWays v42_steadySwing a45 (va_up a46 ((x1 * 256) : Int32).toNatClampNeg 0))) hw 2 46 dX1_addPrices_10 rfl rfl g1 rfl ?_
  refine E.iconst (v := 1) dX1_addPrices_11 (by decide) ?_
  refine E.istore_n (lv' := [(2, .int 1), (0, .ref (b + 42)), (1, .int x1)]) dX1_addPrices_12 (by decide) rfl ?_
  refine E.locals [1, 2, 0] rfl ?_
  exact tX1_addPrices_L13 hw _ hf
set_option maxRecDepth 100000 in
theorem mX1_addPrices {G : GT} {b : Nat} {c0 : Hp} {n : Nat} (hw : e_wf (kW43) n) {v42_seats : Int32} {v42_seated : Int32} {v42_quota : Int32} {v42_known : Int32} {v42_surveyed : Int32} {v42_steadyBench : Int32} {v42_steadyWays : Int32} {v42_steadySwing : Int64} {Fu : Nat} {v42_beasts : Int32} {a45 : Nat → Int32} {a46 : Nat → Int32} {x1 : Int32} {R : (Nat → Int32)} (hf : fX1_addPrices Fu v42_beasts a45 a46 x1 = some R) : e_C G b yX1_addPrices cX1_addPrices 5 none 1 0 0 [.ref (b + 42), .int x1] (e_ov (kW43) (wW43 G b v42_beasts v42_seats v42_seated v42_quota v42_known v42_surveyed v42_steadyBench v42_steadyWays v42_steadySwing a45 a46) c0) n (pD none (e_ov (kW43) (wW43 G b v42_beasts v42_seats v42_seated v42_quota v42_known v42_surveyed v42_steadyBench v42_steadyWays v42_steadySwing a45 R) c0) n) := e_C.of (by decide) (Nat.le_of_ble_eq_true rfl) (tX1_addPrices hw hf)
abbrev kW44 : List Nat := [1, 2, 3, 4, 5, 37, 38, 42, 43, 44, 45, 46, 47, 49]
abbrev wW44 (G : GT) (b  : Nat) (v1_beasts : Int32) (v1_meals : Int32) (v1_seats : Int32) (v1_laws : Int32) (v1_inForce : Int32) (a2 : Nat → Int32) (a3 : Nat → Int32) (a4 : Nat → Int32) (a5 : Nat → Option Nat) (v37_height : Int32) (v37_answer : Int64) (a38 : Nat → Int32) (v42_beasts : Int32) (v42_seats : Int32) (v42_seated : Int32) (v42_quota : Int32) (v42_known : Int32) (v42_surveyed : Int32) (v42_steadyBench : Int32) (v42_steadyWays : Int32) (v42_steadySwing : Int64) (a43 : Nat → Int32) (a44 : Nat → Int32) (a45 : Nat → Int32) (a46 : Nat → Int32) (a47 : Nat → Int32) (a49 : Nat → Int32) : List va_E := [.inr (10, [.ref (b + 2), .ref (b + 3), .ref (b + 4), .ref (b + 5), .ref (b + 6), .int v1_beasts, .int v1_meals, .int v1_seats, .int v1_laws, .int v1_inForce]), aI G 48 a2, aI G 8 a3, aI G 6 a4, aQ G 4 6 a5, .inr (0, [.ref (b + 38), .ref (b + 39), .int v37_height, .long v37_answer]), aI G 10 a38, .inr (1, [.ref (b + 43), .ref (b + 44), .ref (b + 45), .ref (b + 46), .ref (b + 47), .ref (b + 48), .ref (b + 49), .ref (b + 50), .ref (b + 67), .int v42_beasts, .int v42_seats, .int v42_seated, .int v42_quota, .int v42_known, .int v42_surveyed, .int v42_steadyBench, .int v42_steadyWays, .long v42_steadySwing]), aI G 32 a43, aI G 8 a44, aI G 16 a45, aI G 512 a46, aI G 2 a47, aI G 8 a49]
def fX1_learn_N_L170 (Fu : Nat) (k148 : Int32 → Int32 → Int32 → Int32 → (Nat → Int32) → (Nat → Int32) → (Nat → Int32) → (Nat → Option Nat) → (Nat → Int32) → Int32 → Int32 → Int32 → Int32 → Int32 → Int32 → (Nat → Int32) → (Nat → Int32) → (Nat → Int32) → (Nat → Int32) → (Nat → Int32) → (Nat → Int32) → Int32 → Option ((Nat → Int32) × Int32 × Int32 × Int32 × Int32 × Int32 × Int32 × (Nat → Int32) × (Nat → Int32) × (Nat → Int32) × (Nat → Int32) × (Nat → Int32) × (Nat → Int32))) : Nat → Int32 → Int32 → Int32 → Int32 → (Nat → Int32) → (Nat → Int32) → (Nat → Int32) → (Nat → Option Nat) → (Nat → Int32) → Int32 → Int32 → Int32 → Int32 → Int32 → Int32 → (Nat → Int32) → (Nat → Int32) → (Nat → Int32) → (Nat → Int32) → (Nat → Int32) → (Nat → Int32) → Int32 → Int32 → Option ((Nat → Int32) × Int32 × Int32 × Int32 × Int32 × Int32 × Int32 × (Nat → Int32) × (Nat → Int32) × (Nat → Int32) × (Nat → Int32) × (Nat → Int32) × (Nat → Int32))
  | 0, _, _, _, _, _, _, _, _, _, _, _, _, _, _, _, _, _, _, _, _, _, _, _ => none
  | k + 1, v1_beasts, v1_seats, v1_laws, v1_inForce, a2, a3, a4, a5, a38, v42_beasts, v42_seats, v42_seated, v42_quota, v42_known, v42_surveyed, a43, a44, a45, a46, a47, a49, x3, x4 => if (v42_beasts : Int32) ≤ (x4 : Int32) then ((fX1_addPrices Fu v42_beasts a45 a46 x3).bind fun r6 => (k148 v1_beasts v1_seats v1_laws v1_inForce a2 a3 a4 a5 a38 v42_beasts v42_seats v42_seated v42_quota v42_known v42_surveyed a43 a44 a45 r6 a47 a49 (x3 + 1))) else ((fX0_priceOf_N Fu v1_laws v1_inForce a2 a3 a4 a5 a38 x4 x3).bind fun r7 => (gd ((x3 * 8) + x4) 16 ((fX1_learn_N_L170 Fu k148 k) v1_beasts v1_seats v1_laws v1_inForce a2 a3 a4 a5 r7.2 v42_beasts v42_seats v42_seated v42_quota v42_known v42_surveyed a43 a44 (va_up a45 (((x3 * 8) + x4) : Int32).toNatClampNeg r7.1) a46 a47 a49 x3 (x4 + 1))))
set_option maxHeartbeats 4000000 in
set_option maxRecDepth 100000 in
theorem tX1_learn_N_L170 {G : GT} {b : Nat} {c0 : Hp} {n : Nat} (hw : e_wf (kW44) n) {v1_meals : Int32} {v37_height : Int32} {v37_answer : Int64} {v42_steadyBench : Int32} {v42_steadyWays : Int32} {v42_steadySwing : Int64} {Fu : Nat} {k148 : Int32 → Int32 → Int32 → Int32 → (Nat → Int32) → (Nat → Int32) → (Nat → Int32) → (Nat → Option Nat) → (Nat → Int32) → Int32 → Int32 → Int32 → Int32 → Int32 → Int32 → (Nat → Int32) → (Nat → Int32) → (Nat → Int32) → (Nat → Int32) → (Nat → Int32) → (Nat → Int32) → Int32 → Option ((Nat → Int32) × Int32 × Int32 × Int32 × Int32 × Int32 × Int32 × (Nat → Int32) × (Nat → Int32) × (Nat → Int32) × (Nat → Int32) × (Nat → Int32) × (Nat → Int32))} (hk148 : ∀ {v1_beasts : Int32} {v1_seats : Int32} {v1_laws : Int32} {v1_inForce : Int32} {a2 : Nat → Int32} {a3 : Nat → Int32} {a4 : Nat → Int32} {a5 : Nat → Option Nat} {a38 : Nat → Int32} {v42_beasts : Int32} {v42_seats : Int32} {v42_seated : Int32} {v42_quota : Int32} {v42_known : Int32} {v42_surveyed : Int32} {a43 : Nat → Int32} {a44 : Nat → Int32} {a45 : Nat → Int32} {a46 : Nat → Int32} {a47 : Nat → Int32} {a49 : Nat → Int32} {x3 : Int32} {R : (Nat → Int32) × Int32 × Int32 × Int32 × Int32 × Int32 × Int32 × (Nat → Int32) × (Nat → Int32) × (Nat → Int32) × (Nat → Int32) × (Nat → Int32) × (Nat → Int32)}, k148 v1_beasts v1_seats v1_laws v1_inForce a2 a3 a4 a5 a38 v42_beasts v42_seats v42_seated v42_quota v42_known v42_surveyed a43 a44 a45 a46 a47 a49 x3 = some R → E G b yX1_learn cX1_learn 5 none (e_rm 4 0 0) e_X0 (e_Z G b (pD none (e_ov (kW44) (wW44 G b v1_beasts v1_meals v1_seats v1_laws v1_inForce a2 a3 a4 a5 v37_height v37_answer R.1 R.2.1 R.2.2.1 R.2.2.2.1 R.2.2.2.2.1 R.2.2.2.2.2.1 R.2.2.2.2.2.2.1 v42_steadyBench v42_steadyWays v42_steadySwing R.2.2.2.2.2.2.2.1 R.2.2.2.2.2.2.2.2.1 R.2.2.2.2.2.2.2.2.2.1 R.2.2.2.2.2.2.2.2.2.2.1 R.2.2.2.2.2.2.2.2.2.2.2.1 R.2.2.2.2.2.2.2.2.2.2.2.2) c0) n) 0 0) 148 [(0, .ref (b + 42)), (1, .ref (b + 1)), (2, .ref (b + 37)), (3, .int x3)] [] (e_ov (kW44) (wW44 G b v1_beasts v1_meals v1_seats v1_laws v1_inForce a2 a3 a4 a5 v37_height v37_answer a38 v42_beasts v42_seats v42_seated v42_quota v42_known v42_surveyed v42_steadyBench v42_steadyWays v42_steadySwing a43 a44 a45 a46 a47 a49) c0) n 0 0) : ∀ (k : Nat) {v1_beasts : Int32} {v1_seats : Int32} {v1_laws : Int32} {v1_inForce : Int32} {a2 : Nat → Int32} {a3 : Nat → Int32} {a4 : Nat → Int32} {a5 : Nat → Option Nat} {a38 : Nat → Int32} {v42_beasts : Int32} {v42_seats : Int32} {v42_seated : Int32} {v42_quota : Int32} {v42_known : Int32} {v42_surveyed : Int32} {a43 : Nat → Int32} {a44 : Nat → Int32} {a45 : Nat → Int32} {a46 : Nat → Int32} {a47 : Nat → Int32} {a49 : Nat → Int32} {x3 : Int32} {x4 : Int32} {R : (Nat → Int32) × Int32 × Int32 × Int32 × Int32 × Int32 × Int32 × (Nat → Int32) × (Nat → Int32) × (Nat → Int32) × (Nat → Int32) × (Nat → Int32) × (Nat → Int32)}, fX1_learn_N_L170 Fu k148 k v1_beasts v1_seats v1_laws v1_inForce a2 a3 a4 a5 a38 v42_beasts v42_seats v42_seated v42_quota v42_known v42_surveyed a43 a44 a45 a46 a47 a49 x3 x4 = some R → E G b yX1_learn cX1_learn 5 none (e_rm 4 0 0) e_X0 (e_Z G b (pD none (e_ov (kW44) (wW44 G b v1_beasts v1_meals v1_seats v1_laws v1_inForce a2 a3 a4 a5 v37_height v37_answer R.1 R.2.1 R.2.2.1 R.2.2.2.1 R.2.2.2.2.1 R.2.2.2.2.2.1 R.2.2.2.2.2.2.1 v42_steadyBench v42_steadyWays v42_steadySwing R.2.2.2.2.2.2.2.1 R.2.2.2.2.2.2.2.2.1 R.2.2.2.2.2.2.2.2.2.1 R.2.2.2.2.2.2.2.2.2.2.1 R.2.2.2.2.2.2.2.2.2.2.2.1 R.2.2.2.2.2.2.2.2.2.2.2.2) c0) n) 0 0) 170 [(0, .ref (b + 42)), (1, .ref (b + 1)), (2, .ref (b + 37)), (3, .int x3), (4, .int x4)] [] (e_ov (kW44) (wW44 G b v1_beasts v1_meals v1_seats v1_laws v1_inForce a2 a3 a4 a5 v37_height v37_answer a38 v42_beasts v42_seats v42_seated v42_quota v42_known v42_surveyed v42_steadyBench v42_steadyWays v42_steadySwing a43 a44 a45 a46 a47 a49) c0) n 0 0 := by
  intro k
  induction k with
  | zero =>
    intro _ _ _ _ _ _ _ _ _ _ _ _ _ _ _ _ _ _ _ _ _ _ _ _ hf
    have hf : (none : Option ((Nat → Int32) × Int32 × Int32 × Int32 × Int32 × Int32 × Int32 × (Nat → Int32) × (Nat → Int32) × (Nat → Int32) × (Nat → Int32) × (Nat → Int32) × (Nat → Int32))) = some _ := hf
    cases hf
  | succ k ih =>
    intro v1_beasts v1_seats v1_laws v1_inForce a2 a3 a4 a5 a38 v42_beasts v42_seats v42_seated v42_quota v42_known v42_surveyed a43 a44 a45 a46 a47 a49 x3 x4 R hf
    rw [fX1_learn_N_L170] at hf
    refine E.iload 4 dX1_learn_170 rfl ?_
    refine E.aload_n 0 dX1_learn_172 rfl ?_
    refine E.get hw 7 42 dX1_learn_173 flX1_58 rfl rfl rfl rfl ?_
    refine E.icmp_ge dX1_learn_176 (fun h => ?_) (fun h => ?_)
    · have hf := e_ift hf h
      refine E.aload_n 0 dX1_learn_205 rfl ?_
      refine E.iload_n 3 dX1_learn_206 rfl ?_
      obtain ⟨r6, hc6, hf⟩ := e_bind hf
      refine E.callVDs (es' := (wW44 G b v1_beasts v1_meals v1_seats v1_laws v1_inForce a2 a3 a4 a5 v37_height v37_answer a38 v42_beasts v42_seats v42_seated v42_quota v42_known v42_surveyed v42_steadyBench v42_steadyWays v42_steadySwing a43 a44 a45 r6 a47 a49)) [] [7, 10, 11] 7 42 dX1_learn_207 mlX1_90 hw rfl rfl rfl rfl (mX1_addPrices (hw.pick2 [7, 10, 11] rfl (by decide)) hc6) rfl rfl rfl rfl ⟨Nat.le_of_ble_eq_true rfl, Nat.le_of_ble_eq_true rfl⟩ rfl rfl (Nat.le_of_ble_eq_true rfl) ⟨Nat.le_refl _, Nat.le_refl _⟩ rfl ?_
      refine E.iinc (q := 3) (v := (x3 + 1)) (lv' := [(3, .int (x3 + 1)), (0, .ref (b + 42)), (1, .ref (b + 1)), (2, .ref (b + 37)), (4, .int x4)]) dX1_learn_210 rfl rfl (by decide) rfl ?_
      refine E.goto dX1_learn_213 ?_
      refine E.locals [1, 2, 3, 0] rfl ?_
      exact hk148 hf
    · have hf := e_iff hf h
      refine E.aload_n 0 dX1_learn_179 rfl ?_
      refine E.get hw 7 42 dX1_learn_180 flX1_18 rfl rfl rfl rfl ?_
      refine E.iload_n 3 dX1_learn_183 rfl ?_
      refine E.bipush (v := 8) dX1_learn_184 (by decide) ?_
      refine E.imul dX1_learn_186 ?_
      refine E.iload 4 dX1_learn_187 rfl ?_
      refine E.iadd dX1_learn_189 ?_
      refine E.aload_n 2 dX1_learn_190 rfl ?_
      refine E.aload_n 1 dX1_learn_191 rfl ?_
      refine E.iload 4 dX1_learn_192 rfl ?_
      refine E.iload_n 3 dX1_learn_194 rfl ?_
      obtain ⟨r7, hc7, hf⟩ := e_bind hf
      refine E.callVDs (es' := (wW44 G b v1_beasts v1_meals v1_seats v1_laws v1_inForce a2 a3 a4 a5 v37_height v37_answer r7.2 v42_beasts v42_seats v42_seated v42_quota v42_known v42_surveyed v42_steadyBench v42_steadyWays v42_steadySwing a43 a44 a45 a46 a47 a49)) [.int ((x3 * 8) + x4), .ref (b + 45)] [0, 1, 2, 3, 4, 5, 6] 5 37 dX1_learn_195 mlX1_86 hw rfl rfl rfl rfl (mX0_priceOf_N (hw.pick2 [0, 1, 2, 3, 4, 5, 6] rfl (by decide)) hc7) rfl rfl rfl rfl ⟨Nat.le_of_ble_eq_true rfl, Nat.le_of_ble_eq_true rfl⟩ rfl rfl (Nat.le_of_ble_eq_true rfl) ⟨Nat.le_refl _, Nat.le_refl _⟩ rfl ?_
      obtain ⟨g8, hf⟩ := gd_some hf
      refine E.iast (es' := (wW44 G b v1_beasts v1_meals v1_seats v1_laws v1_inForce a2 a3 a4 a5 v37_height v37_answer r7.2 v42_beasts v42_seats v42_seated v42_quota v42_known v42_surveyed v42_steadyBench v42_steadyWays v42_steadySwing a43 a44 (va_up a45 (((x3 * 8) + x4) : Int32).toNatClampNeg r7.1) a46 a47 a49)) hw 10 45 dX1_learn_198 rfl rfl g8 rfl ?_
      refine E.iinc (q := 4) (v := (x4 + 1)) (lv' := [(4, .int (x4 + 1)), (0, .ref (b + 42)), (1, .ref (b + 1)), (2, .ref (b + 37)), (3, .int x3)]) dX1_learn_199 rfl rfl (by decide) rfl ?_
      refine E.goto dX1_learn_202 ?_
      refine E.locals [1, 2, 3, 4, 0] rfl ?_
      exact ih hf
def fX1_learn_N_L148 (Fu : Nat) : Nat → Int32 → Int32 → Int32 → Int32 → (Nat → Int32) → (Nat → Int32) → (Nat → Int32) → (Nat → Option Nat) → (Nat → Int32) → Int32 → Int32 → Int32 → Int32 → Int32 → Int32 → (Nat → Int32) → (Nat → Int32) → (Nat → Int32) → (Nat → Int32) → (Nat → Int32) → (Nat → Int32) → Int32 → Option ((Nat → Int32) × Int32 × Int32 × Int32 × Int32 × Int32 × Int32 × (Nat → Int32) × (Nat → Int32) × (Nat → Int32) × (Nat → Int32) × (Nat → Int32) × (Nat → Int32))
  | 0, _, _, _, _, _, _, _, _, _, _, _, _, _, _, _, _, _, _, _, _, _, _ => none
  | k + 1, v1_beasts, v1_seats, v1_laws, v1_inForce, a2, a3, a4, a5, a38, v42_beasts, v42_seats, v42_seated, v42_quota, v42_known, v42_surveyed, a43, a44, a45, a46, a47, a49, x3 => if (2 : Int32) ≤ (x3 : Int32) then (some (a38, v42_beasts, v42_seats, v42_seated, v42_quota, v42_known, v42_surveyed, a43, a44, a45, a46, a47, a49)) else (gd (3 + x3) 6 (gd x3 2 (fX1_learn_N_L170 Fu (fX1_learn_N_L148 Fu k) Fu v1_beasts v1_seats v1_laws v1_inForce a2 a3 a4 a5 a38 v42_beasts v42_seats v42_seated v42_quota v42_known v42_surveyed a43 a44 a45 a46 (va_up a47 (x3 : Int32).toNatClampNeg (a4 ((3 + x3) : Int32).toNatClampNeg)) a49 x3 0)))
set_option maxHeartbeats 4000000 in
set_option maxRecDepth 100000 in
theorem tX1_learn_N_L148 {G : GT} {b : Nat} {c0 : Hp} {n : Nat} (hw : e_wf (kW44) n) {v1_meals : Int32} {v37_height : Int32} {v37_answer : Int64} {v42_steadyBench : Int32} {v42_steadyWays : Int32} {v42_steadySwing : Int64} {Fu : Nat} : ∀ (k : Nat) {v1_beasts : Int32} {v1_seats : Int32} {v1_laws : Int32} {v1_inForce : Int32} {a2 : Nat → Int32} {a3 : Nat → Int32} {a4 : Nat → Int32} {a5 : Nat → Option Nat} {a38 : Nat → Int32} {v42_beasts : Int32} {v42_seats : Int32} {v42_seated : Int32} {v42_quota : Int32} {v42_known : Int32} {v42_surveyed : Int32} {a43 : Nat → Int32} {a44 : Nat → Int32} {a45 : Nat → Int32} {a46 : Nat → Int32} {a47 : Nat → Int32} {a49 : Nat → Int32} {x3 : Int32} {R : (Nat → Int32) × Int32 × Int32 × Int32 × Int32 × Int32 × Int32 × (Nat → Int32) × (Nat → Int32) × (Nat → Int32) × (Nat → Int32) × (Nat → Int32) × (Nat → Int32)}, fX1_learn_N_L148 Fu k v1_beasts v1_seats v1_laws v1_inForce a2 a3 a4 a5 a38 v42_beasts v42_seats v42_seated v42_quota v42_known v42_surveyed a43 a44 a45 a46 a47 a49 x3 = some R → E G b yX1_learn cX1_learn 5 none (e_rm 4 0 0) e_X0 (e_Z G b (pD none (e_ov (kW44) (wW44 G b v1_beasts v1_meals v1_seats v1_laws v1_inForce a2 a3 a4 a5 v37_height v37_answer R.1 R.2.1 R.2.2.1 R.2.2.2.1 R.2.2.2.2.1 R.2.2.2.2.2.1 R.2.2.2.2.2.2.1 v42_steadyBench v42_steadyWays v42_steadySwing R.2.2.2.2.2.2.2.1 R.2.2.2.2.2.2.2.2.1 R.2.2.2.2.2.2.2.2.2.1 R.2.2.2.2.2.2.2.2.2.2.1 R.2.2.2.2.2.2.2.2.2.2.2.1 R.2.2.2.2.2.2.2.2.2.2.2.2) c0) n) 0 0) 148 [(0, .ref (b + 42)), (1, .ref (b + 1)), (2, .ref (b + 37)), (3, .int x3)] [] (e_ov (kW44) (wW44 G b v1_beasts v1_meals v1_seats v1_laws v1_inForce a2 a3 a4 a5 v37_height v37_answer a38 v42_beasts v42_seats v42_seated v42_quota v42_known v42_surveyed v42_steadyBench v42_steadyWays v42_steadySwing a43 a44 a45 a46 a47 a49) c0) n 0 0 := by
  intro k
  induction k with
  | zero =>
    intro _ _ _ _ _ _ _ _ _ _ _ _ _ _ _ _ _ _ _ _ _ _ _ hf
    have hf : (none : Option ((Nat → Int32) × Int32 × Int32 × Int32 × Int32 × Int32 × Int32 × (Nat → Int32) × (Nat → Int32) × (Nat → Int32) × (Nat → Int32) × (Nat → Int32) × (Nat → Int32))) = some _ := hf
    cases hf
  | succ k ih =>
    intro v1_beasts v1_seats v1_laws v1_inForce a2 a3 a4 a5 a38 v42_beasts v42_seats v42_seated v42_quota v42_known v42_surveyed a43 a44 a45 a46 a47 a49 x3 R hf
    rw [fX1_learn_N_L148] at hf
    refine E.iload_n 3 dX1_learn_148 rfl ?_
    refine E.iconst (v := 2) dX1_learn_149 (by decide) ?_
    refine E.icmp_ge dX1_learn_150 (fun h => ?_) (fun h => ?_)
    · have hf := e_ift hf h
      cases hf
      exact E.vret dX1_learn_216 (Nat.le_refl _) (Nat.le_refl _) (pD_rf _ _ _)
    · have hf := e_iff hf h
      refine E.aload_n 0 dX1_learn_153 rfl ?_
      refine E.get hw 7 42 dX1_learn_154 flX1_24 rfl rfl rfl rfl ?_
      refine E.iload_n 3 dX1_learn_157 rfl ?_
      refine E.aload_n 1 dX1_learn_158 rfl ?_
      refine E.getN hw 0 1 dX1_learn_159 fnX1_63 rfl rfl rfl rfl ?_
      refine E.iconst (v := 3) dX1_learn_162 (by decide) ?_
      refine E.iload_n 3 dX1_learn_163 rfl ?_
      refine E.iadd dX1_learn_164 ?_
      obtain ⟨g4, hf⟩ := gd_some hf
      refine E.iald hw 3 4 dX1_learn_165 rfl rfl g4 ?_
      obtain ⟨g5, hf⟩ := gd_some hf
      refine E.iast (es' := (wW44 G b v1_beasts v1_meals v1_seats v1_laws v1_inForce a2 a3 a4 a5 v37_height v37_answer a38 v42_beasts v42_seats v42_seated v42_quota v42_known v42_surveyed v42_steadyBench v42_steadyWays v42_steadySwing a43 a44 a45 a46 (va_up a47 (x3 : Int32).toNatClampNeg (a4 ((3 + x3) : Int32).toNatClampNeg)) a49)) hw 12 47 dX1_learn_166 rfl rfl g5 rfl ?_
      refine E.iconst (v := 0) dX1_learn_167 (by decide) ?_
      refine E.istore (lv' := [(4, .int 0), (0, .ref (b + 42)), (1, .ref (b + 1)), (2, .ref (b + 37)), (3, .int x3)]) dX1_learn_168 (by decide) rfl ?_
      refine E.locals [1, 2, 3, 4, 0] rfl ?_
      exact tX1_learn_N_L170 hw ih _ hf
def fX1_learn_N_L102 (Fu : Nat) (k51 : Int32 → Int32 → Int32 → Int32 → (Nat → Int32) → (Nat → Int32) → (Nat → Int32) → (Nat → Option Nat) → (Nat → Int32) → Int32 → Int32 → Int32 → Int32 → Int32 → Int32 → (Nat → Int32) → (Nat → Int32) → (Nat → Int32) → (Nat → Int32) → (Nat → Int32) → (Nat → Int32) → Int32 → Option ((Nat → Int32) × Int32 × Int32 × Int32 × Int32 × Int32 × Int32 × (Nat → Int32) × (Nat → Int32) × (Nat → Int32) × (Nat → Int32) × (Nat → Int32) × (Nat → Int32))) : Nat → Int32 → Int32 → Int32 → Int32 → (Nat → Int32) → (Nat → Int32) → (Nat → Int32) → (Nat → Option Nat) → (Nat → Int32) → Int32 → Int32 → Int32 → Int32 → Int32 → Int32 → (Nat → Int32) → (Nat → Int32) → (Nat → Int32) → (Nat → Int32) → (Nat → Int32) → (Nat → Int32) → Int32 → Int32 → Option ((Nat → Int32) × Int32 × Int32 × Int32 × Int32 × Int32 × Int32 × (Nat → Int32) × (Nat → Int32) × (Nat → Int32) × (Nat → Int32) × (Nat → Int32) × (Nat → Int32))
  | 0, _, _, _, _, _, _, _, _, _, _, _, _, _, _, _, _, _, _, _, _, _, _, _ => none
  | k + 1, v1_beasts, v1_seats, v1_laws, v1_inForce, a2, a3, a4, a5, a38, v42_beasts, v42_seats, v42_seated, v42_quota, v42_known, v42_surveyed, a43, a44, a45, a46, a47, a49, x3, x4 => if (3 : Int32) < (x4 : Int32) then (k51 v1_beasts v1_seats v1_laws v1_inForce a2 a3 a4 a5 a38 v42_beasts v42_seats v42_seated v42_quota v42_known v42_surveyed a43 a44 a45 a46 a47 a49 (x3 + 1)) else (gd 1 6 ((fX0_chanceOf_N Fu v1_laws v1_inForce a2 a3 a4 a5 a38 x3 (a4 (1 : Int32).toNatClampNeg) x4 0).bind fun r12 => (gd ((x3 * 4) + x4) 32 ((fX1_learn_N_L102 Fu k51 k) v1_beasts v1_seats v1_laws v1_inForce a2 a3 a4 a5 r12.2 v42_beasts v42_seats v42_seated v42_quota v42_known v42_surveyed (va_up a43 (((x3 * 4) + x4) : Int32).toNatClampNeg r12.1) a44 a45 a46 a47 a49 x3 (x4 + 1)))))
set_option maxHeartbeats 4000000 in
set_option maxRecDepth 100000 in
theorem tX1_learn_N_L102 {G : GT} {b : Nat} {c0 : Hp} {n : Nat} (hw : e_wf (kW44) n) {v1_meals : Int32} {v37_height : Int32} {v37_answer : Int64} {v42_steadyBench : Int32} {v42_steadyWays : Int32} {v42_steadySwing : Int64} {Fu : Nat} {k51 : Int32 → Int32 → Int32 → Int32 → (Nat → Int32) → (Nat → Int32) → (Nat → Int32) → (Nat → Option Nat) → (Nat → Int32) → Int32 → Int32 → Int32 → Int32 → Int32 → Int32 → (Nat → Int32) → (Nat → Int32) → (Nat → Int32) → (Nat → Int32) → (Nat → Int32) → (Nat → Int32) → Int32 → Option ((Nat → Int32) × Int32 × Int32 × Int32 × Int32 × Int32 × Int32 × (Nat → Int32) × (Nat → Int32) × (Nat → Int32) × (Nat → Int32) × (Nat → Int32) × (Nat → Int32))} (hk51 : ∀ {v1_beasts : Int32} {v1_seats : Int32} {v1_laws : Int32} {v1_inForce : Int32} {a2 : Nat → Int32} {a3 : Nat → Int32} {a4 : Nat → Int32} {a5 : Nat → Option Nat} {a38 : Nat → Int32} {v42_beasts : Int32} {v42_seats : Int32} {v42_seated : Int32} {v42_quota : Int32} {v42_known : Int32} {v42_surveyed : Int32} {a43 : Nat → Int32} {a44 : Nat → Int32} {a45 : Nat → Int32} {a46 : Nat → Int32} {a47 : Nat → Int32} {a49 : Nat → Int32} {x3 : Int32} {R : (Nat → Int32) × Int32 × Int32 × Int32 × Int32 × Int32 × Int32 × (Nat → Int32) × (Nat → Int32) × (Nat → Int32) × (Nat → Int32) × (Nat → Int32) × (Nat → Int32)}, k51 v1_beasts v1_seats v1_laws v1_inForce a2 a3 a4 a5 a38 v42_beasts v42_seats v42_seated v42_quota v42_known v42_surveyed a43 a44 a45 a46 a47 a49 x3 = some R → E G b yX1_learn cX1_learn 5 none (e_rm 4 0 0) e_X0 (e_Z G b (pD none (e_ov (kW44) (wW44 G b v1_beasts v1_meals v1_seats v1_laws v1_inForce a2 a3 a4 a5 v37_height v37_answer R.1 R.2.1 R.2.2.1 R.2.2.2.1 R.2.2.2.2.1 R.2.2.2.2.2.1 R.2.2.2.2.2.2.1 v42_steadyBench v42_steadyWays v42_steadySwing R.2.2.2.2.2.2.2.1 R.2.2.2.2.2.2.2.2.1 R.2.2.2.2.2.2.2.2.2.1 R.2.2.2.2.2.2.2.2.2.2.1 R.2.2.2.2.2.2.2.2.2.2.2.1 R.2.2.2.2.2.2.2.2.2.2.2.2) c0) n) 0 0) 51 [(0, .ref (b + 42)), (1, .ref (b + 1)), (2, .ref (b + 37)), (3, .int x3)] [] (e_ov (kW44) (wW44 G b v1_beasts v1_meals v1_seats v1_laws v1_inForce a2 a3 a4 a5 v37_height v37_answer a38 v42_beasts v42_seats v42_seated v42_quota v42_known v42_surveyed v42_steadyBench v42_steadyWays v42_steadySwing a43 a44 a45 a46 a47 a49) c0) n 0 0) : ∀ (k : Nat) {v1_beasts : Int32} {v1_seats : Int32} {v1_laws : Int32} {v1_inForce : Int32} {a2 : Nat → Int32} {a3 : Nat → Int32} {a4 : Nat → Int32} {a5 : Nat → Option Nat} {a38 : Nat → Int32} {v42_beasts : Int32} {v42_seats : Int32} {v42_seated : Int32} {v42_quota : Int32} {v42_known : Int32} {v42_surveyed : Int32} {a43 : Nat → Int32} {a44 : Nat → Int32} {a45 : Nat → Int32} {a46 : Nat → Int32} {a47 : Nat → Int32} {a49 : Nat → Int32} {x3 : Int32} {x4 : Int32} {R : (Nat → Int32) × Int32 × Int32 × Int32 × Int32 × Int32 × Int32 × (Nat → Int32) × (Nat → Int32) × (Nat → Int32) × (Nat → Int32) × (Nat → Int32) × (Nat → Int32)}, fX1_learn_N_L102 Fu k51 k v1_beasts v1_seats v1_laws v1_inForce a2 a3 a4 a5 a38 v42_beasts v42_seats v42_seated v42_quota v42_known v42_surveyed a43 a44 a45 a46 a47 a49 x3 x4 = some R → E G b yX1_learn cX1_learn 5 none (e_rm 4 0 0) e_X0 (e_Z G b (pD none (e_ov (kW44) (wW44 G b v1_beasts v1_meals v1_seats v1_laws v1_inForce a2 a3 a4 a5 v37_height v37_answer R.1 R.2.1 R.2.2.1 R.2.2.2.1 R.2.2.2.2.1 R.2.2.2.2.2.1 R.2.2.2.2.2.2.1 v42_steadyBench v42_steadyWays v42_steadySwing R.2.2.2.2.2.2.2.1 R.2.2.2.2.2.2.2.2.1 R.2.2.2.2.2.2.2.2.2.1 R.2.2.2.2.2.2.2.2.2.2.1 R.2.2.2.2.2.2.2.2.2.2.2.1 R.2.2.2.2.2.2.2.2.2.2.2.2) c0) n) 0 0) 102 [(0, .ref (b + 42)), (1, .ref (b + 1)), (2, .ref (b + 37)), (3, .int x3), (4, .int x4)] [] (e_ov (kW44) (wW44 G b v1_beasts v1_meals v1_seats v1_laws v1_inForce a2 a3 a4 a5 v37_height v37_answer a38 v42_beasts v42_seats v42_seated v42_quota v42_known v42_surveyed v42_steadyBench v42_steadyWays v42_steadySwing a43 a44 a45 a46 a47 a49) c0) n 0 0 := by
  intro k
  induction k with
  | zero =>
    intro _ _ _ _ _ _ _ _ _ _ _ _ _ _ _ _ _ _ _ _ _ _ _ _ hf
    have hf : (none : Option ((Nat → Int32) × Int32 × Int32 × Int32 × Int32 × Int32 × Int32 × (Nat → Int32) × (Nat → Int32) × (Nat → Int32) × (Nat → Int32) × (Nat → Int32) × (Nat → Int32))) = some _ := hf
    cases hf
  | succ k ih =>
    intro v1_beasts v1_seats v1_laws v1_inForce a2 a3 a4 a5 a38 v42_beasts v42_seats v42_seated v42_quota v42_known v42_surveyed a43 a44 a45 a46 a47 a49 x3 x4 R hf
    rw [fX1_learn_N_L102] at hf
    refine E.iload 4 dX1_learn_102 rfl ?_
    refine E.iconst (v := 3) dX1_learn_104 (by decide) ?_
    refine E.icmp_gt dX1_learn_105 (fun h => ?_) (fun h => ?_)
    · have hf := e_ift hf h
      refine E.iinc (q := 3) (v := (x3 + 1)) (lv' := [(3, .int (x3 + 1)), (0, .ref (b + 42)), (1, .ref (b + 1)), (2, .ref (b + 37)), (4, .int x4)]) dX1_learn_140 rfl rfl (by decide) rfl ?_
      refine E.goto dX1_learn_143 ?_
      refine E.locals [1, 2, 3, 0] rfl ?_
      exact hk51 hf
    · have hf := e_iff hf h
      refine E.aload_n 0 dX1_learn_108 rfl ?_
      refine E.get hw 7 42 dX1_learn_109 flX1_9 rfl rfl rfl rfl ?_
      refine E.iload_n 3 dX1_learn_112 rfl ?_
      refine E.iconst (v := 4) dX1_learn_113 (by decide) ?_
      refine E.imul dX1_learn_114 ?_
      refine E.iload 4 dX1_learn_115 rfl ?_
      refine E.iadd dX1_learn_117 ?_
      refine E.aload_n 2 dX1_learn_118 rfl ?_
      refine E.aload_n 1 dX1_learn_119 rfl ?_
      refine E.iload_n 3 dX1_learn_120 rfl ?_
      refine E.aload_n 1 dX1_learn_121 rfl ?_
      refine E.getN hw 0 1 dX1_learn_122 fnX1_63 rfl rfl rfl rfl ?_
      refine E.iconst (v := 1) dX1_learn_125 (by decide) ?_
      obtain ⟨g11, hf⟩ := gd_some hf
      refine E.iald hw 3 4 dX1_learn_126 rfl rfl g11 ?_
      refine E.iload 4 dX1_learn_127 rfl ?_
      refine E.iconst (v := 0) dX1_learn_129 (by decide) ?_
      obtain ⟨r12, hc12, hf⟩ := e_bind hf
      refine E.callVDs (es' := (wW44 G b v1_beasts v1_meals v1_seats v1_laws v1_inForce a2 a3 a4 a5 v37_height v37_answer r12.2 v42_beasts v42_seats v42_seated v42_quota v42_known v42_surveyed v42_steadyBench v42_steadyWays v42_steadySwing a43 a44 a45 a46 a47 a49)) [.int ((x3 * 4) + x4), .ref (b + 43)] [0, 1, 2, 3, 4, 5, 6] 5 37 dX1_learn_130 mlX1_80 hw rfl rfl rfl rfl (mX0_chanceOf_N (hw.pick2 [0, 1, 2, 3, 4, 5, 6] rfl (by decide)) hc12) rfl rfl rfl rfl ⟨Nat.le_of_ble_eq_true rfl, Nat.le_of_ble_eq_true rfl⟩ rfl rfl (Nat.le_of_ble_eq_true rfl) ⟨Nat.le_refl _, Nat.le_refl _⟩ rfl ?_
      obtain ⟨g13, hf⟩ := gd_some hf
      refine E.iast (es' := (wW44 G b v1_beasts v1_meals v1_seats v1_laws v1_inForce a2 a3 a4 a5 v37_height v37_answer r12.2 v42_beasts v42_seats v42_seated v42_quota v42_known v42_surveyed v42_steadyBench v42_steadyWays v42_steadySwing (va_up a43 (((x3 * 4) + x4) : Int32).toNatClampNeg r12.1) a44 a45 a46 a47 a49)) hw 8 43 dX1_learn_133 rfl rfl g13 rfl ?_
      refine E.iinc (q := 4) (v := (x4 + 1)) (lv' := [(4, .int (x4 + 1)), (0, .ref (b + 42)), (1, .ref (b + 1)), (2, .ref (b + 37)), (3, .int x3)]) dX1_learn_134 rfl rfl (by decide) rfl ?_
      refine E.goto dX1_learn_137 ?_
      refine E.locals [1, 2, 3, 4, 0] rfl ?_
      exact ih hf
def fX1_learn_N_L87 (Fu : Nat) (k51 : Int32 → Int32 → Int32 → Int32 → (Nat → Int32) → (Nat → Int32) → (Nat → Int32) → (Nat → Option Nat) → (Nat → Int32) → Int32 → Int32 → Int32 → Int32 → Int32 → Int32 → (Nat → Int32) → (Nat → Int32) → (Nat → Int32) → (Nat → Int32) → (Nat → Int32) → (Nat → Int32) → Int32 → Option ((Nat → Int32) × Int32 × Int32 × Int32 × Int32 × Int32 × Int32 × (Nat → Int32) × (Nat → Int32) × (Nat → Int32) × (Nat → Int32) × (Nat → Int32) × (Nat → Int32))) (v1_beasts : Int32) (v1_seats : Int32) (v1_laws : Int32) (v1_inForce : Int32) (a2 : Nat → Int32) (a3 : Nat → Int32) (a4 : Nat → Int32) (a5 : Nat → Option Nat) (a38 : Nat → Int32) (v42_beasts : Int32) (v42_seats : Int32) (v42_seated : Int32) (v42_quota : Int32) (v42_known : Int32) (v42_surveyed : Int32) (a43 : Nat → Int32) (a44 : Nat → Int32) (a45 : Nat → Int32) (a46 : Nat → Int32) (a47 : Nat → Int32) (a49 : Nat → Int32) (x3 : Int32) : Option ((Nat → Int32) × Int32 × Int32 × Int32 × Int32 × Int32 × Int32 × (Nat → Int32) × (Nat → Int32) × (Nat → Int32) × (Nat → Int32) × (Nat → Int32) × (Nat → Int32)) := (fX10_trait a2 x3 5).bind fun r9 => (gd x3 8 (fX1_learn_N_L102 Fu k51 Fu v1_beasts v1_seats v1_laws v1_inForce a2 a3 a4 a5 a38 v42_beasts v42_seats v42_seated v42_quota v42_known v42_surveyed a43 (va_up a44 (x3 : Int32).toNatClampNeg r9) a45 a46 a47 a49 x3 0))
set_option maxHeartbeats 4000000 in
set_option maxRecDepth 100000 in
theorem tX1_learn_N_L87 {G : GT} {b : Nat} {c0 : Hp} {n : Nat} (hw : e_wf (kW44) n) {v1_meals : Int32} {v37_height : Int32} {v37_answer : Int64} {v42_steadyBench : Int32} {v42_steadyWays : Int32} {v42_steadySwing : Int64} {Fu : Nat} {k51 : Int32 → Int32 → Int32 → Int32 → (Nat → Int32) → (Nat → Int32) → (Nat → Int32) → (Nat → Option Nat) → (Nat → Int32) → Int32 → Int32 → Int32 → Int32 → Int32 → Int32 → (Nat → Int32) → (Nat → Int32) → (Nat → Int32) → (Nat → Int32) → (Nat → Int32) → (Nat → Int32) → Int32 → Option ((Nat → Int32) × Int32 × Int32 × Int32 × Int32 × Int32 × Int32 × (Nat → Int32) × (Nat → Int32) × (Nat → Int32) × (Nat → Int32) × (Nat → Int32) × (Nat → Int32))} (hk51 : ∀ {v1_beasts : Int32} {v1_seats : Int32} {v1_laws : Int32} {v1_inForce : Int32} {a2 : Nat → Int32} {a3 : Nat → Int32} {a4 : Nat → Int32} {a5 : Nat → Option Nat} {a38 : Nat → Int32} {v42_beasts : Int32} {v42_seats : Int32} {v42_seated : Int32} {v42_quota : Int32} {v42_known : Int32} {v42_surveyed : Int32} {a43 : Nat → Int32} {a44 : Nat → Int32} {a45 : Nat → Int32} {a46 : Nat → Int32} {a47 : Nat → Int32} {a49 : Nat → Int32} {x3 : Int32} {R : (Nat → Int32) × Int32 × Int32 × Int32 × Int32 × Int32 × Int32 × (Nat → Int32) × (Nat → Int32) × (Nat → Int32) × (Nat → Int32) × (Nat → Int32) × (Nat → Int32)}, k51 v1_beasts v1_seats v1_laws v1_inForce a2 a3 a4 a5 a38 v42_beasts v42_seats v42_seated v42_quota v42_known v42_surveyed a43 a44 a45 a46 a47 a49 x3 = some R → E G b yX1_learn cX1_learn 5 none (e_rm 4 0 0) e_X0 (e_Z G b (pD none (e_ov (kW44) (wW44 G b v1_beasts v1_meals v1_seats v1_laws v1_inForce a2 a3 a4 a5 v37_height v37_answer R.1 R.2.1 R.2.2.1 R.2.2.2.1 R.2.2.2.2.1 R.2.2.2.2.2.1 R.2.2.2.2.2.2.1 v42_steadyBench v42_steadyWays v42_steadySwing R.2.2.2.2.2.2.2.1 R.2.2.2.2.2.2.2.2.1 R.2.2.2.2.2.2.2.2.2.1 R.2.2.2.2.2.2.2.2.2.2.1 R.2.2.2.2.2.2.2.2.2.2.2.1 R.2.2.2.2.2.2.2.2.2.2.2.2) c0) n) 0 0) 51 [(0, .ref (b + 42)), (1, .ref (b + 1)), (2, .ref (b + 37)), (3, .int x3)] [] (e_ov (kW44) (wW44 G b v1_beasts v1_meals v1_seats v1_laws v1_inForce a2 a3 a4 a5 v37_height v37_answer a38 v42_beasts v42_seats v42_seated v42_quota v42_known v42_surveyed v42_steadyBench v42_steadyWays v42_steadySwing a43 a44 a45 a46 a47 a49) c0) n 0 0) {v1_beasts : Int32} {v1_seats : Int32} {v1_laws : Int32} {v1_inForce : Int32} {a2 : Nat → Int32} {a3 : Nat → Int32} {a4 : Nat → Int32} {a5 : Nat → Option Nat} {a38 : Nat → Int32} {v42_beasts : Int32} {v42_seats : Int32} {v42_seated : Int32} {v42_quota : Int32} {v42_known : Int32} {v42_surveyed : Int32} {a43 : Nat → Int32} {a44 : Nat → Int32} {a45 : Nat → Int32} {a46 : Nat → Int32} {a47 : Nat → Int32} {a49 : Nat → Int32} {x3 : Int32} {R : (Nat → Int32) × Int32 × Int32 × Int32 × Int32 × Int32 × Int32 × (Nat → Int32) × (Nat → Int32) × (Nat → Int32) × (Nat → Int32) × (Nat → Int32) × (Nat → Int32)} (hf : fX1_learn_N_L87 Fu k51 v1_beasts v1_seats v1_laws v1_inForce a2 a3 a4 a5 a38 v42_beasts v42_seats v42_seated v42_quota v42_known v42_surveyed a43 a44 a45 a46 a47 a49 x3 = some R) : E G b yX1_learn cX1_learn 5 none (e_rm 4 0 0) e_X0 (e_Z G b (pD none (e_ov (kW44) (wW44 G b v1_beasts v1_meals v1_seats v1_laws v1_inForce a2 a3 a4 a5 v37_height v37_answer R.1 R.2.1 R.2.2.1 R.2.2.2.1 R.2.2.2.2.1 R.2.2.2.2.2.1 R.2.2.2.2.2.2.1 v42_steadyBench v42_steadyWays v42_steadySwing R.2.2.2.2.2.2.2.1 R.2.2.2.2.2.2.2.2.1 R.2.2.2.2.2.2.2.2.2.1 R.2.2.2.2.2.2.2.2.2.2.1 R.2.2.2.2.2.2.2.2.2.2.2.1 R.2.2.2.2.2.2.2.2.2.2.2.2) c0) n) 0 0) 87 [(0, .ref (b + 42)), (1, .ref (b + 1)), (2, .ref (b + 37)), (3, .int x3)] [] (e_ov (kW44) (wW44 G b v1_beasts v1_meals v1_seats v1_laws v1_inForce a2 a3 a4 a5 v37_height v37_answer a38 v42_beasts v42_seats v42_seated v42_quota v42_known v42_surveyed v42_steadyBench v42_steadyWays v42_steadySwing a43 a44 a45 a46 a47 a49) c0) n 0 0 := by
  unfold fX1_learn_N_L87 at hf
  refine E.aload_n 0 dX1_learn_87 rfl ?_
  refine E.get hw 7 42 dX1_learn_88 flX1_15 rfl rfl rfl rfl ?_
  refine E.iload_n 3 dX1_learn_91 rfl ?_
  refine E.aload_n 1 dX1_learn_92 rfl ?_
  refine E.iload_n 3 dX1_learn_93 rfl ?_
  refine E.iconst (v := 5) dX1_learn_94 (by decide) ?_
  obtain ⟨r9, hc9, hf⟩ := e_bind hf
  refine E.callVDs (es' := (wW44 G b v1_beasts v1_meals v1_seats v1_laws v1_inForce a2 a3 a4 a5 v37_height v37_answer a38 v42_beasts v42_seats v42_seated v42_quota v42_known v42_surveyed v42_steadyBench v42_steadyWays v42_steadySwing a43 a44 a45 a46 a47 a49)) [.int x3, .ref (b + 44)] [0, 1] 0 1 dX1_learn_95 mlX1_76 hw rfl rfl rfl rfl (mX10_trait (hw.pick2 [0, 1] rfl (by decide)) hc9) rfl rfl rfl rfl ⟨Nat.le_of_ble_eq_true rfl, Nat.le_of_ble_eq_true rfl⟩ rfl rfl (Nat.le_of_ble_eq_true rfl) ⟨Nat.le_refl _, Nat.le_refl _⟩ rfl ?_
  obtain ⟨g10, hf⟩ := gd_some hf
  refine E.iast (es' := (wW44 G b v1_beasts v1_meals v1_seats v1_laws v1_inForce a2 a3 a4 a5 v37_height v37_answer a38 v42_beasts v42_seats v42_seated v42_quota v42_known v42_surveyed v42_steadyBench v42_steadyWays v42_steadySwing a43 (va_up a44 (x3 : Int32).toNatClampNeg r9) a45 a46 a47 a49)) hw 9 44 dX1_learn_98 rfl rfl g10 rfl ?_
  refine E.iconst (v := 0) dX1_learn_99 (by decide) ?_
  refine E.istore (lv' := [(4, .int 0), (0, .ref (b + 42)), (1, .ref (b + 1)), (2, .ref (b + 37)), (3, .int x3)]) dX1_learn_100 (by decide) rfl ?_
  refine E.locals [1, 2, 3, 4, 0] rfl ?_
  exact tX1_learn_N_L102 hw hk51 _ hf
def fX1_learn_N_L51 (Fu : Nat) : Nat → Int32 → Int32 → Int32 → Int32 → (Nat → Int32) → (Nat → Int32) → (Nat → Int32) → (Nat → Option Nat) → (Nat → Int32) → Int32 → Int32 → Int32 → Int32 → Int32 → Int32 → (Nat → Int32) → (Nat → Int32) → (Nat → Int32) → (Nat → Int32) → (Nat → Int32) → (Nat → Int32) → Int32 → Option ((Nat → Int32) × Int32 × Int32 × Int32 × Int32 × Int32 × Int32 × (Nat → Int32) × (Nat → Int32) × (Nat → Int32) × (Nat → Int32) × (Nat → Int32) × (Nat → Int32))
  | 0, _, _, _, _, _, _, _, _, _, _, _, _, _, _, _, _, _, _, _, _, _, _ => none
  | k + 1, v1_beasts, v1_seats, v1_laws, v1_inForce, a2, a3, a4, a5, a38, v42_beasts, v42_seats, v42_seated, v42_quota, v42_known, v42_surveyed, a43, a44, a45, a46, a47, a49, x3 => if (v42_beasts : Int32) ≤ (x3 : Int32) then (fX1_learn_N_L148 Fu Fu v1_beasts v1_seats v1_laws v1_inForce a2 a3 a4 a5 a38 v42_beasts v42_seats v42_seated v42_quota v42_known v42_surveyed a43 a44 a45 a46 a47 a49 0) else ((fX10_isSeated v1_beasts v1_seats x3).bind fun r2 => (if (r2 : Int32) = (0 : Int32) then (fX1_learn_N_L87 Fu (fX1_learn_N_L51 Fu k) v1_beasts v1_seats v1_laws v1_inForce a2 a3 a4 a5 a38 v42_beasts v42_seats v42_seated v42_quota v42_known v42_surveyed a43 a44 a45 a46 a47 a49 x3) else (gd v42_seated 8 (fX1_learn_N_L87 Fu (fX1_learn_N_L51 Fu k) v1_beasts v1_seats v1_laws v1_inForce a2 a3 a4 a5 a38 v42_beasts v42_seats (v42_seated + 1) v42_quota v42_known v42_surveyed a43 a44 a45 a46 a47 (va_up a49 (v42_seated : Int32).toNatClampNeg x3) x3))))
set_option maxHeartbeats 4000000 in
set_option maxRecDepth 100000 in
theorem tX1_learn_N_L51 {G : GT} {b : Nat} {c0 : Hp} {n : Nat} (hw : e_wf (kW44) n) {v1_meals : Int32} {v37_height : Int32} {v37_answer : Int64} {v42_steadyBench : Int32} {v42_steadyWays : Int32} {v42_steadySwing : Int64} {Fu : Nat} : ∀ (k : Nat) {v1_beasts : Int32} {v1_seats : Int32} {v1_laws : Int32} {v1_inForce : Int32} {a2 : Nat → Int32} {a3 : Nat → Int32} {a4 : Nat → Int32} {a5 : Nat → Option Nat} {a38 : Nat → Int32} {v42_beasts : Int32} {v42_seats : Int32} {v42_seated : Int32} {v42_quota : Int32} {v42_known : Int32} {v42_surveyed : Int32} {a43 : Nat → Int32} {a44 : Nat → Int32} {a45 : Nat → Int32} {a46 : Nat → Int32} {a47 : Nat → Int32} {a49 : Nat → Int32} {x3 : Int32} {R : (Nat → Int32) × Int32 × Int32 × Int32 × Int32 × Int32 × Int32 × (Nat → Int32) × (Nat → Int32) × (Nat → Int32) × (Nat → Int32) × (Nat → Int32) × (Nat → Int32)}, fX1_learn_N_L51 Fu k v1_beasts v1_seats v1_laws v1_inForce a2 a3 a4 a5 a38 v42_beasts v42_seats v42_seated v42_quota v42_known v42_surveyed a43 a44 a45 a46 a47 a49 x3 = some R → E G b yX1_learn cX1_learn 5 none (e_rm 4 0 0) e_X0 (e_Z G b (pD none (e_ov (kW44) (wW44 G b v1_beasts v1_meals v1_seats v1_laws v1_inForce a2 a3 a4 a5 v37_height v37_answer R.1 R.2.1 R.2.2.1 R.2.2.2.1 R.2.2.2.2.1 R.2.2.2.2.2.1 R.2.2.2.2.2.2.1 v42_steadyBench v42_steadyWays v42_steadySwing R.2.2.2.2.2.2.2.1 R.2.2.2.2.2.2.2.2.1 R.2.2.2.2.2.2.2.2.2.1 R.2.2.2.2.2.2.2.2.2.2.1 R.2.2.2.2.2.2.2.2.2.2.2.1 R.2.2.2.2.2.2.2.2.2.2.2.2) c0) n) 0 0) 51 [(0, .ref (b + 42)), (1, .ref (b + 1)), (2, .ref (b + 37)), (3, .int x3)] [] (e_ov (kW44) (wW44 G b v1_beasts v1_meals v1_seats v1_laws v1_inForce a2 a3 a4 a5 v37_height v37_answer a38 v42_beasts v42_seats v42_seated v42_quota v42_known v42_surveyed v42_steadyBench v42_steadyWays v42_steadySwing a43 a44 a45 a46 a47 a49) c0) n 0 0 := by
  intro k
  induction k with
  | zero =>
    intro _ _ _ _ _ _ _ _ _ _ _ _ _ _ _ _ _ _ _ _ _ _ _ hf
    have hf : (none : Option ((Nat → Int32) × Int32 × Int32 × Int32 × Int32 × Int32 × Int32 × (Nat → Int32) × (Nat → Int32) × (Nat → Int32) × (Nat → Int32) × (Nat → Int32) × (Nat → Int32))) = some _ := hf
    cases hf
  | succ k ih =>
    intro v1_beasts v1_seats v1_laws v1_inForce a2 a3 a4 a5 a38 v42_beasts v42_seats v42_seated v42_quota v42_known v42_surveyed a43 a44 a45 a46 a47 a49 x3 R hf
    rw [fX1_learn_N_L51] at hf
    refine E.iload_n 3 dX1_learn_51 rfl ?_
    refine E.aload_n 0 dX1_learn_52 rfl ?_
    refine E.get hw 7 42 dX1_learn_53 flX1_58 rfl rfl rfl rfl ?_
    refine E.icmp_ge dX1_learn_56 (fun h => ?_) (fun h => ?_)
    · have hf := e_ift hf h
      refine E.iconst (v := 0) dX1_learn_146 (by decide) ?_
      refine E.istore_n (lv' := [(3, .int 0), (0, .ref (b + 42)), (1, .ref (b + 1)), (2, .ref (b + 37))]) dX1_learn_147 (by decide) rfl ?_
      refine E.locals [1, 2, 3, 0] rfl ?_
      exact tX1_learn_N_L148 hw _ hf
    · have hf := e_iff hf h
      refine E.aload_n 1 dX1_learn_59 rfl ?_
      refine E.iload_n 3 dX1_learn_60 rfl ?_
      obtain ⟨r2, hc2, hf⟩ := e_bind hf
      refine E.callVDs (es' := (wW44 G b v1_beasts v1_meals v1_seats v1_laws v1_inForce a2 a3 a4 a5 v37_height v37_answer a38 v42_beasts v42_seats v42_seated v42_quota v42_known v42_surveyed v42_steadyBench v42_steadyWays v42_steadySwing a43 a44 a45 a46 a47 a49)) [] [0] 0 1 dX1_learn_61 mlX1_72 hw rfl rfl rfl rfl (mX10_isSeated (hw.pick2 [0] rfl (by decide)) hc2) rfl rfl rfl rfl ⟨Nat.le_of_ble_eq_true rfl, Nat.le_of_ble_eq_true rfl⟩ rfl rfl (Nat.le_of_ble_eq_true rfl) ⟨Nat.le_refl _, Nat.le_refl _⟩ rfl ?_
      refine E.if_eq dX1_learn_64 (fun h => ?_) (fun h => ?_)
      · have hf := e_ift hf h
        exact tX1_learn_N_L87 hw ih hf
      · have hf := e_iff hf h
        refine E.aload_n 0 dX1_learn_67 rfl ?_
        refine E.get hw 7 42 dX1_learn_68 flX1_31 rfl rfl rfl rfl ?_
        refine E.aload_n 0 dX1_learn_71 rfl ?_
        refine E.get hw 7 42 dX1_learn_72 flX1_69 rfl rfl rfl rfl ?_
        refine E.iload_n 3 dX1_learn_75 rfl ?_
        obtain ⟨g3, hf⟩ := gd_some hf
        refine E.iast (es' := (wW44 G b v1_beasts v1_meals v1_seats v1_laws v1_inForce a2 a3 a4 a5 v37_height v37_answer a38 v42_beasts v42_seats v42_seated v42_quota v42_known v42_surveyed v42_steadyBench v42_steadyWays v42_steadySwing a43 a44 a45 a46 a47 (va_up a49 (v42_seated : Int32).toNatClampNeg x3))) hw 13 49 dX1_learn_76 rfl rfl g3 rfl ?_
        refine E.aload_n 0 dX1_learn_77 rfl ?_
        refine E.dup dX1_learn_78 rfl ?_
        refine E.get hw 7 42 dX1_learn_79 flX1_69 rfl rfl rfl rfl ?_
        refine E.iconst (v := 1) dX1_learn_82 (by decide) ?_
        refine E.iadd dX1_learn_83 ?_
        refine E.put (es' := (wW44 G b v1_beasts v1_meals v1_seats v1_laws v1_inForce a2 a3 a4 a5 v37_height v37_answer a38 v42_beasts v42_seats (v42_seated + 1) v42_quota v42_known v42_surveyed v42_steadyBench v42_steadyWays v42_steadySwing a43 a44 a45 a46 a47 (va_up a49 (v42_seated : Int32).toNatClampNeg x3))) hw 7 42 dX1_learn_84 flX1_69 ftX1 rfl rfl rfl rfl rfl rfl (Nat.le_of_ble_eq_true rfl) rfl ?_
        exact tX1_learn_N_L87 hw ih hf
def fX1_learn_N (Fu : Nat) (v1_beasts : Int32) (v1_seats : Int32) (v1_laws : Int32) (v1_inForce : Int32) (a2 : Nat → Int32) (a3 : Nat → Int32) (a4 : Nat → Int32) (a5 : Nat → Option Nat) (a38 : Nat → Int32) (v42_beasts : Int32) (v42_seats : Int32) (v42_seated : Int32) (v42_quota : Int32) (v42_known : Int32) (v42_surveyed : Int32) (a43 : Nat → Int32) (a44 : Nat → Int32) (a45 : Nat → Int32) (a46 : Nat → Int32) (a47 : Nat → Int32) (a49 : Nat → Int32) : Option ((Nat → Int32) × Int32 × Int32 × Int32 × Int32 × Int32 × Int32 × (Nat → Int32) × (Nat → Int32) × (Nat → Int32) × (Nat → Int32) × (Nat → Int32) × (Nat → Int32)) := if (v42_known : Int32) = (0 : Int32) then (gd 0 6 (fX1_learn_N_L51 Fu Fu v1_beasts v1_seats v1_laws v1_inForce a2 a3 a4 a5 a38 v1_beasts v1_seats 0 (a4 (0 : Int32).toNatClampNeg) 1 0 a43 a44 a45 a46 a47 a49 0)) else (some (a38, v42_beasts, v42_seats, v42_seated, v42_quota, v42_known, v42_surveyed, a43, a44, a45, a46, a47, a49))
set_option maxHeartbeats 4000000 in
set_option maxRecDepth 100000 in
theorem tX1_learn_N {G : GT} {b : Nat} {c0 : Hp} {n : Nat} (hw : e_wf (kW44) n) {v1_meals : Int32} {v37_height : Int32} {v37_answer : Int64} {v42_steadyBench : Int32} {v42_steadyWays : Int32} {v42_steadySwing : Int64} {Fu : Nat} {v1_beasts : Int32} {v1_seats : Int32} {v1_laws : Int32} {v1_inForce : Int32} {a2 : Nat → Int32} {a3 : Nat → Int32} {a4 : Nat → Int32} {a5 : Nat → Option Nat} {a38 : Nat → Int32} {v42_beasts : Int32} {v42_seats : Int32} {v42_seated : Int32} {v42_quota : Int32} {v42_known : Int32} {v42_surveyed : Int32} {a43 : Nat → Int32} {a44 : Nat → Int32} {a45 : Nat → Int32} {a46 : Nat → Int32} {a47 : Nat → Int32} {a49 : Nat → Int32} {R : (Nat → Int32) × Int32 × Int32 × Int32 × Int32 × Int32 × Int32 × (Nat → Int32) × (Nat → Int32) × (Nat → Int32) × (Nat → Int32) × (Nat → Int32) × (Nat → Int32)} (hf : fX1_learn_N Fu v1_beasts v1_seats v1_laws v1_inForce a2 a3 a4 a5 a38 v42_beasts v42_seats v42_seated v42_quota v42_known v42_surveyed a43 a44 a45 a46 a47 a49 = some R) : E G b yX1_learn cX1_learn 5 none (e_rm 4 0 0) e_X0 (e_Z G b (pD none (e_ov (kW44) (wW44 G b v1_beasts v1_meals v1_seats v1_laws v1_inForce a2 a3 a4 a5 v37_height v37_answer R.1 R.2.1 R.2.2.1 R.2.2.2.1 R.2.2.2.2.1 R.2.2.2.2.2.1 R.2.2.2.2.2.2.1 v42_steadyBench v42_steadyWays v42_steadySwing R.2.2.2.2.2.2.2.1 R.2.2.2.2.2.2.2.2.1 R.2.2.2.2.2.2.2.2.2.1 R.2.2.2.2.2.2.2.2.2.2.1 R.2.2.2.2.2.2.2.2.2.2.2.1 R.2.2.2.2.2.2.2.2.2.2.2.2) c0) n) 0 0) 0 [(0, .ref (b + 42)), (1, .ref (b + 1)), (2, .ref (b + 37))] [] (e_ov (kW44) (wW44 G b v1_beasts v1_meals v1_seats v1_laws v1_inForce a2 a3 a4 a5 v37_height v37_answer a38 v42_beasts v42_seats v42_seated v42_quota v42_known v42_surveyed v42_steadyBench v42_steadyWays v42_steadySwing a43 a44 a45 a46 a47 a49) c0) n 0 0 := by
  unfold fX1_learn_N at hf
  refine E.aload_n 0 dX1_learn_0 rfl ?_
  refine E.get hw 7 42 dX1_learn_1 flX1_45 rfl rfl rfl rfl ?_
  refine E.if_eq dX1_learn_4 (fun h => ?_) (fun h => ?_)
  · have hf := e_ift hf h
    refine E.aload_n 0 dX1_learn_8 rfl ?_
    refine E.iconst (v := 1) dX1_learn_9 (by decide) ?_
    refine E.put (es' := (wW44 G b v1_beasts v1_meals v1_seats v1_laws v1_inForce a2 a3 a4 a5 v37_height v37_answer a38 v42_beasts v42_seats v42_seated v42_quota 1 v42_surveyed v42_steadyBench v42_steadyWays v42_steadySwing a43 a44 a45 a46 a47 a49)) hw 7 42 dX1_learn_10 flX1_45 ftX1 rfl rfl rfl rfl rfl rfl (Nat.le_of_ble_eq_true rfl) rfl ?_
    refine E.aload_n 0 dX1_learn_13 rfl ?_
    refine E.iconst (v := 0) dX1_learn_14 (by decide) ?_
    refine E.put (es' := (wW44 G b v1_beasts v1_meals v1_seats v1_laws v1_inForce a2 a3 a4 a5 v37_height v37_answer a38 v42_beasts v42_seats v42_seated v42_quota 1 0 v42_steadyBench v42_steadyWays v42_steadySwing a43 a44 a45 a46 a47 a49)) hw 7 42 dX1_learn_15 flX1_49 ftX1 rfl rfl rfl rfl rfl rfl (Nat.le_of_ble_eq_true rfl) rfl ?_
    refine E.aload_n 0 dX1_learn_18 rfl ?_
    refine E.aload_n 1 dX1_learn_19 rfl ?_
    refine E.getN hw 0 1 dX1_learn_20 fnX1_52 rfl rfl rfl rfl ?_
    refine E.put (es' := (wW44 G b v1_beasts v1_meals v1_seats v1_laws v1_inForce a2 a3 a4 a5 v37_height v37_answer a38 v1_beasts v42_seats v42_seated v42_quota 1 0 v42_steadyBench v42_steadyWays v42_steadySwing a43 a44 a45 a46 a47 a49)) hw 7 42 dX1_learn_23 flX1_58 ftX1 rfl rfl rfl rfl rfl rfl (Nat.le_of_ble_eq_true rfl) rfl ?_
    refine E.aload_n 0 dX1_learn_26 rfl ?_
    refine E.aload_n 1 dX1_learn_27 rfl ?_
    refine E.getN hw 0 1 dX1_learn_28 fnX1_59 rfl rfl rfl rfl ?_
    refine E.put (es' := (wW44 G b v1_beasts v1_meals v1_seats v1_laws v1_inForce a2 a3 a4 a5 v37_height v37_answer a38 v1_beasts v1_seats v42_seated v42_quota 1 0 v42_steadyBench v42_steadyWays v42_steadySwing a43 a44 a45 a46 a47 a49)) hw 7 42 dX1_learn_31 flX1_62 ftX1 rfl rfl rfl rfl rfl rfl (Nat.le_of_ble_eq_true rfl) rfl ?_
    refine E.aload_n 0 dX1_learn_34 rfl ?_
    refine E.aload_n 1 dX1_learn_35 rfl ?_
    refine E.getN hw 0 1 dX1_learn_36 fnX1_63 rfl rfl rfl rfl ?_
    refine E.iconst (v := 0) dX1_learn_39 (by decide) ?_
    obtain ⟨g1, hf⟩ := gd_some hf
    refine E.iald hw 3 4 dX1_learn_40 rfl rfl g1 ?_
    refine E.put (es' := (wW44 G b v1_beasts v1_meals v1_seats v1_laws v1_inForce a2 a3 a4 a5 v37_height v37_answer a38 v1_beasts v1_seats v42_seated (a4 (0 : Int32).toNatClampNeg) 1 0 v42_steadyBench v42_steadyWays v42_steadySwing a43 a44 a45 a46 a47 a49)) hw 7 42 dX1_learn_41 flX1_66 ftX1 rfl rfl rfl rfl rfl rfl (Nat.le_of_ble_eq_true rfl) rfl ?_
    refine E.aload_n 0 dX1_learn_44 rfl ?_
    refine E.iconst (v := 0) dX1_learn_45 (by decide) ?_
    refine E.put (es' := (wW44 G b v1_beasts v1_meals v1_seats v1_laws v1_inForce a2 a3 a4 a5 v37_height v37_answer a38 v1_beasts v1_seats 0 (a4 (0 : Int32).toNatClampNeg) 1 0 v42_steadyBench v42_steadyWays v42_steadySwing a43 a44 a45 a46 a47 a49)) hw 7 42 dX1_learn_46 flX1_69 ftX1 rfl rfl rfl rfl rfl rfl (Nat.le_of_ble_eq_true rfl) rfl ?_
    refine E.iconst (v := 0) dX1_learn_49 (by decide) ?_
    refine E.istore_n (lv' := [(3, .int 0), (0, .ref (b + 42)), (1, .ref (b + 1)), (2, .ref (b + 37))]) dX1_learn_50 (by decide) rfl ?_
    refine E.locals [1, 2, 3, 0] rfl ?_
    exact tX1_learn_N_L51 hw _ hf
  · have hf := e_iff hf h
    cases hf
    exact E.vret dX1_learn_7 (Nat.le_refl _) (Nat.le_refl _) (pD_rf _ _ _)
set_option maxRecDepth 100000 in
theorem mX1_learn_N {G : GT} {b : Nat} {c0 : Hp} {n : Nat} (hw : e_wf (kW44) n) {v1_meals : Int32} {v37_height : Int32} {v37_answer : Int64} {v42_steadyBench : Int32} {v42_steadyWays : Int32} {v42_steadySwing : Int64} {Fu : Nat} {v1_beasts : Int32} {v1_seats : Int32} {v1_laws : Int32} {v1_inForce : Int32} {a2 : Nat → Int32} {a3 : Nat → Int32} {a4 : Nat → Int32} {a5 : Nat → Option Nat} {a38 : Nat → Int32} {v42_beasts : Int32} {v42_seats : Int32} {v42_seated : Int32} {v42_quota : Int32} {v42_known : Int32} {v42_surveyed : Int32} {a43 : Nat → Int32} {a44 : Nat → Int32} {a45 : Nat → Int32} {a46 : Nat → Int32} {a47 : Nat → Int32} {a49 : Nat → Int32} {R : (Nat → Int32) × Int32 × Int32 × Int32 × Int32 × Int32 × Int32 × (Nat → Int32) × (Nat → Int32) × (Nat → Int32) × (Nat → Int32) × (Nat → Int32) × (Nat → Int32)} (hf : fX1_learn_N Fu v1_beasts v1_seats v1_laws v1_inForce a2 a3 a4 a5 a38 v42_beasts v42_seats v42_seated v42_quota v42_known v42_surveyed a43 a44 a45 a46 a47 a49 = some R) : e_C G b yX1_learn cX1_learn 5 none 4 0 0 [.ref (b + 42), .ref (b + 1), .ref (b + 37)] (e_ov (kW44) (wW44 G b v1_beasts v1_meals v1_seats v1_laws v1_inForce a2 a3 a4 a5 v37_height v37_answer a38 v42_beasts v42_seats v42_seated v42_quota v42_known v42_surveyed v42_steadyBench v42_steadyWays v42_steadySwing a43 a44 a45 a46 a47 a49) c0) n (pD none (e_ov (kW44) (wW44 G b v1_beasts v1_meals v1_seats v1_laws v1_inForce a2 a3 a4 a5 v37_height v37_answer R.1 R.2.1 R.2.2.1 R.2.2.2.1 R.2.2.2.2.1 R.2.2.2.2.2.1 R.2.2.2.2.2.2.1 v42_steadyBench v42_steadyWays v42_steadySwing R.2.2.2.2.2.2.2.1 R.2.2.2.2.2.2.2.2.1 R.2.2.2.2.2.2.2.2.2.1 R.2.2.2.2.2.2.2.2.2.2.1 R.2.2.2.2.2.2.2.2.2.2.2.1 R.2.2.2.2.2.2.2.2.2.2.2.2) c0) n) := e_C.of (by decide) (Nat.le_of_ble_eq_true rfl) (tX1_learn_N hw hf)
abbrev kW45 : List Nat := [42, 46]
abbrev wW45 (G : GT) (b  : Nat) (v42_beasts : Int32) (v42_seats : Int32) (v42_seated : Int32) (v42_quota : Int32) (v42_known : Int32) (v42_surveyed : Int32) (v42_steadyBench : Int32) (v42_steadyWays : Int32) (v42_steadySwing : Int64) (a46 : Nat → Int32) : List va_E := [.inr (1, [.ref (b + 43), .ref (b + 44), .ref (b + 45), .ref (b + 46), .ref (b + 47), .ref (b + 48), .ref (b + 49), .ref (b + 50), .ref (b + 67), .int v42_beasts, .int v42_seats, .int v42_seated, .int v42_quota, .int v42_known, .int v42_surveyed, .int v42_steadyBench, .int v42_steadyWays, .long v42_steadySwing]), aI G 512 a46]
def fX1_cost (a46 : Nat → Int32) (x1 : Int32) (x2 : Int32) : Option (Int32) := gd ((x1 * 256) + x2) 512 (some ((a46 (((x1 * 256) + x2) : Int32).toNatClampNeg)))
set_option maxHeartbeats 4000000 in
set_option maxRecDepth 100000 in
theorem tX1_cost {G : GT} {b : Nat} {c0 : Hp} {n : Nat} (hw : e_wf (kW45) n) {v42_beasts : Int32} {v42_seats : Int32} {v42_seated : Int32} {v42_quota : Int32} {v42_known : Int32} {v42_surveyed : Int32} {v42_steadyBench : Int32} {v42_steadyWays : Int32} {v42_steadySwing : Int64} {a46 : Nat → Int32} {x1 : Int32} {x2 : Int32} {R : Int32} (hf : fX1_cost a46 x1 x2 = some R) : E G b yX1_cost cX1_cost 3 (some .int) (e_rm 0 0 0) e_X0 (e_Z G b (pD (some (.int R)) (e_ov (kW45) (wW45 G b v42_beasts v42_seats v42_seated v42_quota v42_known v42_surveyed v42_steadyBench v42_steadyWays v42_steadySwing a46) c0) n) 0 0) 0 [(0, .ref (b + 42)), (1, .int x1), (2, .int x2)] [] (e_ov (kW45) (wW45 G b v42_beasts v42_seats v42_seated v42_quota v42_known v42_surveyed v42_steadyBench v42_steadyWays v42_steadySwing a46) c0) n 0 0 := by
  unfold fX1_cost at hf
  refine E.aload_n 0 dX1_cost_0 rfl ?_
  refine E.get hw 0 42 dX1_cost_1 flX1_21 rfl rfl rfl rfl ?_
  refine E.iload_n 1 dX1_cost_4 rfl ?_
  refine E.sipush (v := 256) dX1_cost_5 (by decide) ?_
  refine E.imul dX1_cost_8 ?_
  refine E.iload_n 2 dX1_cost_9 rfl ?_
  refine E.iadd dX1_cost_10 ?_
  obtain ⟨g1, hf⟩ := gd_some hf
  refine E.iald hw 1 46 dX1_cost_11 rfl rfl g1 ?_
  cases hf
  exact E.iret dX1_cost_12 (Nat.le_refl _) (Nat.le_refl _) (pD_rf _ _ _)
set_option maxRecDepth 100000 in
theorem mX1_cost {G : GT} {b : Nat} {c0 : Hp} {n : Nat} (hw : e_wf (kW45) n) {v42_beasts : Int32} {v42_seats : Int32} {v42_seated : Int32} {v42_quota : Int32} {v42_known : Int32} {v42_surveyed : Int32} {v42_steadyBench : Int32} {v42_steadyWays : Int32} {v42_steadySwing : Int64} {a46 : Nat → Int32} {x1 : Int32} {x2 : Int32} {R : Int32} (hf : fX1_cost a46 x1 x2 = some R) : e_C G b yX1_cost cX1_cost 3 (some .int) 0 0 0 [.ref (b + 42), .int x1, .int x2] (e_ov (kW45) (wW45 G b v42_beasts v42_seats v42_seated v42_quota v42_known v42_surveyed v42_steadyBench v42_steadyWays v42_steadySwing a46) c0) n (pD (some (.int R)) (e_ov (kW45) (wW45 G b v42_beasts v42_seats v42_seated v42_quota v42_known v42_surveyed v42_steadyBench v42_steadyWays v42_steadySwing a46) c0) n) := e_C.of (by decide) (Nat.le_of_ble_eq_true rfl) (tX1_cost hw hf)
abbrev kW46 : List Nat := [42, 46, 47]
abbrev wW46 (G : GT) (b  : Nat) (v42_beasts : Int32) (v42_seats : Int32) (v42_seated : Int32) (v42_quota : Int32) (v42_known : Int32) (v42_surveyed : Int32) (v42_steadyBench : Int32) (v42_steadyWays : Int32) (v42_steadySwing : Int64) (a46 : Nat → Int32) (a47 : Nat → Int32) : List va_E := [.inr (1, [.ref (b + 43), .ref (b + 44), .ref (b + 45), .ref (b + 46), .ref (b + 47), .ref (b + 48), .ref (b + 49), .ref (b + 50), .ref (b + 67), .int v42_beasts, .int v42_seats, .int v42_seated, .int v42_quota, .int v42_known, .int v42_surveyed, .int v42_steadyBench, .int v42_steadyWays, .long v42_steadySwing]), aI G 512 a46, aI G 2 a47]
def fX1_affords (a46 : Nat → Int32) (a47 : Nat → Int32) (x1 : Int32) (x2 : Int32) : Option (Int32) := (fX1_cost a46 x1 x2).bind fun r1 => (gd x1 2 (if ((a47 (x1 : Int32).toNatClampNeg) : Int32) < (r1 : Int32) then (some (0)) else (some (1))))
set_option maxHeartbeats 4000000 in
set_option maxRecDepth 100000 in
theorem tX1_affords {G : GT} {b : Nat} {c0 : Hp} {n : Nat} (hw : e_wf (kW46) n) {v42_beasts : Int32} {v42_seats : Int32} {v42_seated : Int32} {v42_quota : Int32} {v42_known : Int32} {v42_surveyed : Int32} {v42_steadyBench : Int32} {v42_steadyWays : Int32} {v42_steadySwing : Int64} {a46 : Nat → Int32} {a47 : Nat → Int32} {x1 : Int32} {x2 : Int32} {R : Int32} (hf : fX1_affords a46 a47 x1 x2 = some R) : E G b yX1_affords cX1_affords 3 (some .boolean) (e_rm 1 0 0) e_X0 (e_Z G b (pD (some (.int R)) (e_ov (kW46) (wW46 G b v42_beasts v42_seats v42_seated v42_quota v42_known v42_surveyed v42_steadyBench v42_steadyWays v42_steadySwing a46 a47) c0) n) 0 0) 0 [(0, .ref (b + 42)), (1, .int x1), (2, .int x2)] [] (e_ov (kW46) (wW46 G b v42_beasts v42_seats v42_seated v42_quota v42_known v42_surveyed v42_steadyBench v42_steadyWays v42_steadySwing a46 a47) c0) n 0 0 := by
  unfold fX1_affords at hf
  refine E.aload_n 0 dX1_affords_0 rfl ?_
  refine E.iload_n 1 dX1_affords_1 rfl ?_
  refine E.iload_n 2 dX1_affords_2 rfl ?_
  obtain ⟨r1, hc1, hf⟩ := e_bind hf
  refine E.callVDs (es' := (wW46 G b v42_beasts v42_seats v42_seated v42_quota v42_known v42_surveyed v42_steadyBench v42_steadyWays v42_steadySwing a46 a47)) [] [0, 1] 0 42 dX1_affords_3 mlX1_100 hw rfl rfl rfl rfl (mX1_cost (hw.pick2 [0, 1] rfl (by decide)) hc1) rfl rfl rfl rfl ⟨Nat.le_of_ble_eq_true rfl, Nat.le_of_ble_eq_true rfl⟩ rfl rfl (Nat.le_of_ble_eq_true rfl) ⟨Nat.le_refl _, Nat.le_refl _⟩ rfl ?_
  refine E.aload_n 0 dX1_affords_6 rfl ?_
  refine E.get hw 0 42 dX1_affords_7 flX1_24 rfl rfl rfl rfl ?_
  refine E.iload_n 1 dX1_affords_10 rfl ?_
  obtain ⟨g2, hf⟩ := gd_some hf
  refine E.iald hw 2 47 dX1_affords_11 rfl rfl g2 ?_
  refine E.icmp_gt dX1_affords_12 (fun h => ?_) (fun h => ?_)
  · have hf := e_ift hf h
    refine E.iconst (v := 0) dX1_affords_19 (by decide) ?_
    cases hf
    exact E.zret dX1_affords_20 rfl (Nat.le_refl _) (Nat.le_refl _) (pD_rf _ _ _)
  · have hf := e_iff hf h
    refine E.iconst (v := 1) dX1_affords_15 (by decide) ?_
    refine E.goto dX1_affords_16 ?_
    cases hf
    exact E.zret dX1_affords_20 rfl (Nat.le_refl _) (Nat.le_refl _) (pD_rf _ _ _)
set_option maxRecDepth 100000 in
theorem mX1_affords {G : GT} {b : Nat} {c0 : Hp} {n : Nat} (hw : e_wf (kW46) n) {v42_beasts : Int32} {v42_seats : Int32} {v42_seated : Int32} {v42_quota : Int32} {v42_known : Int32} {v42_surveyed : Int32} {v42_steadyBench : Int32} {v42_steadyWays : Int32} {v42_steadySwing : Int64} {a46 : Nat → Int32} {a47 : Nat → Int32} {x1 : Int32} {x2 : Int32} {R : Int32} (hf : fX1_affords a46 a47 x1 x2 = some R) : e_C G b yX1_affords cX1_affords 3 (some .boolean) 1 0 0 [.ref (b + 42), .int x1, .int x2] (e_ov (kW46) (wW46 G b v42_beasts v42_seats v42_seated v42_quota v42_known v42_surveyed v42_steadyBench v42_steadyWays v42_steadySwing a46 a47) c0) n (pD (some (.int R)) (e_ov (kW46) (wW46 G b v42_beasts v42_seats v42_seated v42_quota v42_known v42_surveyed v42_steadyBench v42_steadyWays v42_steadySwing a46 a47) c0) n) := e_C.of (by decide) (Nat.le_of_ble_eq_true rfl) (tX1_affords hw hf)
