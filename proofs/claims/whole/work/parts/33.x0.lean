def fX11_fitsTrait_L27 : Option (Int32) := some (0)
set_option maxHeartbeats 4000000 in
set_option maxRecDepth 100000 in
theorem tX11_fitsTrait_L27 {G : GT} {b : Nat} {c : Hp} {n : Nat}  {R : Int32} (hf : fX11_fitsTrait_L27 = some R) : E G b yX11_fitsTrait cX11_fitsTrait 2 (some .boolean) (e_rm 0 0 0) e_X0 (e_Z G b (pD (some (.int R)) c n) 0 0) 27 [] [] c n 0 0 := by
  unfold fX11_fitsTrait_L27 at hf
  refine E.iconst (v := 0) dX11_fitsTrait_27 (by decide) ?_
  cases hf
  exact E.zret dX11_fitsTrait_28 rfl (Nat.le_refl _) (Nat.le_refl _) (pD_rf _ _ _)
def fX11_fitsTrait (x0 : Int32) (x1 : Int32) : Option (Int32) := if (x0 : Int32) < (0 : Int32) then (fX11_fitsTrait_L27) else (if (6 : Int32) ≤ (x0 : Int32) then (fX11_fitsTrait_L27) else (if (x1 : Int32) < (0 : Int32) then (fX11_fitsTrait_L27) else (gd x0 6 (if (((e_sX 2).getD (x0 : Int32).toNatClampNeg 0) : Int32) < (x1 : Int32) then (fX11_fitsTrait_L27) else (some (1))))))
set_option maxHeartbeats 4000000 in
set_option maxRecDepth 100000 in
theorem tX11_fitsTrait {G : GT} {b : Nat} {c : Hp} {n : Nat} {x0 : Int32} {x1 : Int32} {R : Int32} (hf : fX11_fitsTrait x0 x1 = some R) : E G b yX11_fitsTrait cX11_fitsTrait 2 (some .boolean) (e_rm 0 0 0) e_X0 (e_Z G b (pD (some (.int R)) c n) 0 0) 0 [(0, .int x0), (1, .int x1)] [] c n 0 0 := by
  unfold fX11_fitsTrait at hf
  refine E.iload_n 0 dX11_fitsTrait_0 rfl ?_
  refine E.if_lt dX11_fitsTrait_1 (fun h => ?_) (fun h => ?_)
  · have hf := e_ift hf h
    refine E.locals [] rfl ?_
    exact tX11_fitsTrait_L27 hf
  · have hf := e_iff hf h
    refine E.iload_n 0 dX11_fitsTrait_4 rfl ?_
    refine E.bipush (v := 6) dX11_fitsTrait_5 (by decide) ?_
    refine E.icmp_ge dX11_fitsTrait_7 (fun h => ?_) (fun h => ?_)
    · have hf := e_ift hf h
      refine E.locals [] rfl ?_
      exact tX11_fitsTrait_L27 hf
    · have hf := e_iff hf h
      refine E.iload_n 1 dX11_fitsTrait_10 rfl ?_
      refine E.if_lt dX11_fitsTrait_11 (fun h => ?_) (fun h => ?_)
      · have hf := e_ift hf h
        refine E.locals [] rfl ?_
        exact tX11_fitsTrait_L27 hf
      · have hf := e_iff hf h
        refine E.iload_n 1 dX11_fitsTrait_14 rfl ?_
        refine E.gets 2 (own := "") (by decide) dX11_fitsTrait_15 (gT_in 492 (by decide +kernel) rfl) ?_
        refine E.iload_n 0 dX11_fitsTrait_18 rfl ?_
        obtain ⟨g1, hf⟩ := gd_some hf
        refine E.ti 2 (by decide) dX11_fitsTrait_19 rfl g1 ?_
        refine E.icmp_gt dX11_fitsTrait_20 (fun h => ?_) (fun h => ?_)
        · have hf := e_ift hf h
          refine E.locals [] rfl ?_
          exact tX11_fitsTrait_L27 hf
        · have hf := e_iff hf h
          refine E.iconst (v := 1) dX11_fitsTrait_23 (by decide) ?_
          refine E.goto dX11_fitsTrait_24 ?_
          cases hf
          exact E.zret dX11_fitsTrait_28 rfl (Nat.le_refl _) (Nat.le_refl _) (pD_rf _ _ _)
set_option maxRecDepth 100000 in
theorem mX11_fitsTrait {G : GT} {b : Nat} {c : Hp} {n : Nat} {x0 : Int32} {x1 : Int32} {R : Int32} (hf : fX11_fitsTrait x0 x1 = some R) : e_C G b yX11_fitsTrait cX11_fitsTrait 2 (some .boolean) 0 0 0 [.int x0, .int x1] c n (pD (some (.int R)) c n) := e_C.of (by decide) (Nat.le_of_ble_eq_true rfl) (tX11_fitsTrait hf)
abbrev kW2 : List Nat := [1, 2]
abbrev wW2 (G : GT) (b  : Nat) (v1_beasts : Int32) (v1_meals : Int32) (v1_seats : Int32) (v1_laws : Int32) (v1_inForce : Int32) (a2 : Nat → Int32) : List va_E := [.inr (10, [.ref (b + 2), .ref (b + 3), .ref (b + 4), .ref (b + 5), .ref (b + 6), .int v1_beasts, .int v1_meals, .int v1_seats, .int v1_laws, .int v1_inForce]), aI G 48 a2]
def fX10_setTrait (a2 : Nat → Int32) (x1 : Int32) (x2 : Int32) (x3 : Int32) : Option ((Nat → Int32)) := gd ((x1 * 6) + x2) 48 (some ((va_up a2 (((x1 * 6) + x2) : Int32).toNatClampNeg x3)))
set_option maxHeartbeats 4000000 in
set_option maxRecDepth 100000 in
theorem tX10_setTrait {G : GT} {b : Nat} {c0 : Hp} {n : Nat} (hw : e_wf (kW2) n) {v1_beasts : Int32} {v1_meals : Int32} {v1_seats : Int32} {v1_laws : Int32} {v1_inForce : Int32} {a2 : Nat → Int32} {x1 : Int32} {x2 : Int32} {x3 : Int32} {R : (Nat → Int32)} (hf : fX10_setTrait a2 x1 x2 x3 = some R) : E G b yX10_setTrait cX10_setTrait 4 none (e_rm 0 0 0) e_X0 (e_Z G b (pD none (e_ov (kW2) (wW2 G b v1_beasts v1_meals v1_seats v1_laws v1_inForce R) c0) n) 0 0) 0 [(0, .ref (b + 1)), (1, .int x1), (2, .int x2), (3, .int x3)] [] (e_ov (kW2) (wW2 G b v1_beasts v1_meals v1_seats v1_laws v1_inForce a2) c0) n 0 0 := by
  unfold fX10_setTrait at hf
  refine E.aload_n 0 dX10_setTrait_0 rfl ?_
  refine E.get hw 0 1 dX10_setTrait_1 flX10_9 rfl rfl rfl rfl ?_
  refine E.iload_n 1 dX10_setTrait_4 rfl ?_
  refine E.bipush (v := 6) dX10_setTrait_5 (by decide) ?_
  refine E.imul dX10_setTrait_7 ?_
  refine E.iload_n 2 dX10_setTrait_8 rfl ?_
  refine E.iadd dX10_setTrait_9 ?_
  refine E.iload_n 3 dX10_setTrait_10 rfl ?_
  obtain ⟨g1, hf⟩ := gd_some hf
  refine E.iast (es' := (wW2 G b v1_beasts v1_meals v1_seats v1_laws v1_inForce (va_up a2 (((x1 * 6) + x2) : Int32).toNatClampNeg x3))) hw 1 2 dX10_setTrait_11 rfl rfl g1 rfl ?_
  cases hf
  exact E.vret dX10_setTrait_12 (Nat.le_refl _) (Nat.le_refl _) (pD_rf _ _ _)
set_option maxRecDepth 100000 in
theorem mX10_setTrait {G : GT} {b : Nat} {c0 : Hp} {n : Nat} (hw : e_wf (kW2) n) {v1_beasts : Int32} {v1_meals : Int32} {v1_seats : Int32} {v1_laws : Int32} {v1_inForce : Int32} {a2 : Nat → Int32} {x1 : Int32} {x2 : Int32} {x3 : Int32} {R : (Nat → Int32)} (hf : fX10_setTrait a2 x1 x2 x3 = some R) : e_C G b yX10_setTrait cX10_setTrait 4 none 0 0 0 [.ref (b + 1), .int x1, .int x2, .int x3] (e_ov (kW2) (wW2 G b v1_beasts v1_meals v1_seats v1_laws v1_inForce a2) c0) n (pD none (e_ov (kW2) (wW2 G b v1_beasts v1_meals v1_seats v1_laws v1_inForce R) c0) n) := e_C.of (by decide) (Nat.le_of_ble_eq_true rfl) (tX10_setTrait hw hf)
abbrev kW3 : List Nat := [42]
abbrev wW3 (G : GT) (b  : Nat) (v42_beasts : Int32) (v42_seats : Int32) (v42_seated : Int32) (v42_quota : Int32) (v42_known : Int32) (v42_surveyed : Int32) (v42_steadyBench : Int32) (v42_steadyWays : Int32) (v42_steadySwing : Int64) : List va_E := [.inr (1, [.ref (b + 43), .ref (b + 44), .ref (b + 45), .ref (b + 46), .ref (b + 47), .ref (b + 48), .ref (b + 49), .ref (b + 50), .ref (b + 67), .int v42_beasts, .int v42_seats, .int v42_seated, .int v42_quota, .int v42_known, .int v42_surveyed, .int v42_steadyBench, .int v42_steadyWays, .long v42_steadySwing])]
def fX1_forget (v42_known : Int32) : Option (Int32) := some (0)
set_option maxHeartbeats 4000000 in
set_option maxRecDepth 100000 in
theorem tX1_forget {G : GT} {b : Nat} {c0 : Hp} {n : Nat} (hw : e_wf (kW3) n) {v42_beasts : Int32} {v42_seats : Int32} {v42_seated : Int32} {v42_quota : Int32} {v42_surveyed : Int32} {v42_steadyBench : Int32} {v42_steadyWays : Int32} {v42_steadySwing : Int64} {v42_known : Int32} {R : Int32} (hf : fX1_forget v42_known = some R) : E G b yX1_forget cX1_forget 1 none (e_rm 0 0 0) e_X0 (e_Z G b (pD none (e_ov (kW3) (wW3 G b v42_beasts v42_seats v42_seated v42_quota R v42_surveyed v42_steadyBench v42_steadyWays v42_steadySwing) c0) n) 0 0) 0 [(0, .ref (b + 42))] [] (e_ov (kW3) (wW3 G b v42_beasts v42_seats v42_seated v42_quota v42_known v42_surveyed v42_steadyBench v42_steadyWays v42_steadySwing) c0) n 0 0 := by
  unfold fX1_forget at hf
  refine E.aload_n 0 dX1_forget_0 rfl ?_
  refine E.iconst (v := 0) dX1_forget_1 (by decide) ?_
  refine E.put (es' := (wW3 G b v42_beasts v42_seats v42_seated v42_quota 0 v42_surveyed v42_steadyBench v42_steadyWays v42_steadySwing)) hw 0 42 dX1_forget_2 flX1_45 ftX1 rfl rfl rfl rfl rfl rfl (Nat.le_of_ble_eq_true rfl) rfl ?_
  cases hf
  exact E.vret dX1_forget_5 (Nat.le_refl _) (Nat.le_refl _) (pD_rf _ _ _)
set_option maxRecDepth 100000 in
theorem mX1_forget {G : GT} {b : Nat} {c0 : Hp} {n : Nat} (hw : e_wf (kW3) n) {v42_beasts : Int32} {v42_seats : Int32} {v42_seated : Int32} {v42_quota : Int32} {v42_surveyed : Int32} {v42_steadyBench : Int32} {v42_steadyWays : Int32} {v42_steadySwing : Int64} {v42_known : Int32} {R : Int32} (hf : fX1_forget v42_known = some R) : e_C G b yX1_forget cX1_forget 1 none 0 0 0 [.ref (b + 42)] (e_ov (kW3) (wW3 G b v42_beasts v42_seats v42_seated v42_quota v42_known v42_surveyed v42_steadyBench v42_steadyWays v42_steadySwing) c0) n (pD none (e_ov (kW3) (wW3 G b v42_beasts v42_seats v42_seated v42_quota R v42_surveyed v42_steadyBench v42_steadyWays v42_steadySwing) c0) n) := e_C.of (by decide) (Nat.le_of_ble_eq_true rfl) (tX1_forget hw hf)
abbrev kW4 : List Nat := [0, 42]
abbrev wW4 (G : GT) (b  : Nat) (v0_faultPlace : Int32) (v0_quashedRows : Int32) (v0_lastRefusal : Int32) (v42_beasts : Int32) (v42_seats : Int32) (v42_seated : Int32) (v42_quota : Int32) (v42_known : Int32) (v42_surveyed : Int32) (v42_steadyBench : Int32) (v42_steadyWays : Int32) (v42_steadySwing : Int64) : List va_E := [.inr (11, [.ref (b + 1), .ref (b + 10), .ref (b + 29), .ref (b + 30), .ref (b + 32), .ref (b + 37), .ref (b + 40), .ref (b + 42), .ref (b + 69), .ref (b + 73), .ref (b + 74), .ref (b + 76), .ref (b + 78), .int v0_faultPlace, .int v0_quashedRows, .int v0_lastRefusal]), .inr (1, [.ref (b + 43), .ref (b + 44), .ref (b + 45), .ref (b + 46), .ref (b + 47), .ref (b + 48), .ref (b + 49), .ref (b + 50), .ref (b + 67), .int v42_beasts, .int v42_seats, .int v42_seated, .int v42_quota, .int v42_known, .int v42_surveyed, .int v42_steadyBench, .int v42_steadyWays, .long v42_steadySwing])]
def fX11_accept (v0_lastRefusal : Int32) (v42_known : Int32) (x1 : Int32) : Option (Int32 × Int32 × Int32) := (fX1_forget v42_known).bind fun r1 => (some (x1, 0, r1))
set_option maxHeartbeats 4000000 in
set_option maxRecDepth 100000 in
theorem tX11_accept {G : GT} {b : Nat} {c0 : Hp} {n : Nat} (hw : e_wf (kW4) n) {v0_faultPlace : Int32} {v0_quashedRows : Int32} {v42_beasts : Int32} {v42_seats : Int32} {v42_seated : Int32} {v42_quota : Int32} {v42_surveyed : Int32} {v42_steadyBench : Int32} {v42_steadyWays : Int32} {v42_steadySwing : Int64} {v0_lastRefusal : Int32} {v42_known : Int32} {x1 : Int32} {R : Int32 × Int32 × Int32} (hf : fX11_accept v0_lastRefusal v42_known x1 = some R) : E G b yX11_accept cX11_accept 2 (some .int) (e_rm 1 0 0) e_X0 (e_Z G b (pD (some (.int R.1)) (e_ov (kW4) (wW4 G b v0_faultPlace v0_quashedRows R.2.1 v42_beasts v42_seats v42_seated v42_quota R.2.2 v42_surveyed v42_steadyBench v42_steadyWays v42_steadySwing) c0) n) 0 0) 0 [(0, .ref (b + 0)), (1, .int x1)] [] (e_ov (kW4) (wW4 G b v0_faultPlace v0_quashedRows v0_lastRefusal v42_beasts v42_seats v42_seated v42_quota v42_known v42_surveyed v42_steadyBench v42_steadyWays v42_steadySwing) c0) n 0 0 := by
  unfold fX11_accept at hf
  refine E.aload_n 0 dX11_accept_0 rfl ?_
  refine E.get hw 0 0 dX11_accept_1 flX11_57 rfl rfl rfl rfl ?_
  obtain ⟨r1, hc1, hf⟩ := e_bind hf
  refine E.callVDs (es' := (wW4 G b v0_faultPlace v0_quashedRows v0_lastRefusal v42_beasts v42_seats v42_seated v42_quota r1 v42_surveyed v42_steadyBench v42_steadyWays v42_steadySwing)) [] [1] 1 42 dX11_accept_4 mlX11_134 hw rfl rfl rfl rfl (mX1_forget (hw.pick2 [1] rfl (by decide)) hc1) rfl rfl rfl rfl ⟨Nat.le_of_ble_eq_true rfl, Nat.le_of_ble_eq_true rfl⟩ rfl rfl (Nat.le_of_ble_eq_true rfl) ⟨Nat.le_refl _, Nat.le_refl _⟩ rfl ?_
  refine E.aload_n 0 dX11_accept_7 rfl ?_
  refine E.iconst (v := 0) dX11_accept_8 (by decide) ?_
  refine E.put (es' := (wW4 G b v0_faultPlace v0_quashedRows 0 v42_beasts v42_seats v42_seated v42_quota r1 v42_surveyed v42_steadyBench v42_steadyWays v42_steadySwing)) hw 0 0 dX11_accept_9 flX11_369 ftX11 rfl rfl rfl rfl rfl rfl (Nat.le_of_ble_eq_true rfl) rfl ?_
  refine E.iload_n 1 dX11_accept_12 rfl ?_
  cases hf
  exact E.iret dX11_accept_13 (Nat.le_refl _) (Nat.le_refl _) (pD_rf _ _ _)
set_option maxRecDepth 100000 in
theorem mX11_accept {G : GT} {b : Nat} {c0 : Hp} {n : Nat} (hw : e_wf (kW4) n) {v0_faultPlace : Int32} {v0_quashedRows : Int32} {v42_beasts : Int32} {v42_seats : Int32} {v42_seated : Int32} {v42_quota : Int32} {v42_surveyed : Int32} {v42_steadyBench : Int32} {v42_steadyWays : Int32} {v42_steadySwing : Int64} {v0_lastRefusal : Int32} {v42_known : Int32} {x1 : Int32} {R : Int32 × Int32 × Int32} (hf : fX11_accept v0_lastRefusal v42_known x1 = some R) : e_C G b yX11_accept cX11_accept 2 (some .int) 1 0 0 [.ref (b + 0), .int x1] (e_ov (kW4) (wW4 G b v0_faultPlace v0_quashedRows v0_lastRefusal v42_beasts v42_seats v42_seated v42_quota v42_known v42_surveyed v42_steadyBench v42_steadyWays v42_steadySwing) c0) n (pD (some (.int R.1)) (e_ov (kW4) (wW4 G b v0_faultPlace v0_quashedRows R.2.1 v42_beasts v42_seats v42_seated v42_quota R.2.2 v42_surveyed v42_steadyBench v42_steadyWays v42_steadySwing) c0) n) := e_C.of (by decide) (Nat.le_of_ble_eq_true rfl) (tX11_accept hw hf)
abbrev kW5 : List Nat := [0, 78]
abbrev wW5 (G : GT) (b  : Nat) (v0_faultPlace : Int32) (v0_quashedRows : Int32) (v0_lastRefusal : Int32) (a78 : Nat → Int32) : List va_E := [.inr (11, [.ref (b + 1), .ref (b + 10), .ref (b + 29), .ref (b + 30), .ref (b + 32), .ref (b + 37), .ref (b + 40), .ref (b + 42), .ref (b + 69), .ref (b + 73), .ref (b + 74), .ref (b + 76), .ref (b + 78), .int v0_faultPlace, .int v0_quashedRows, .int v0_lastRefusal]), aI G 7 a78]
def fX11_refuse (v0_lastRefusal : Int32) (a78 : Nat → Int32) (x1 : Int32) : Option (Int32 × Int32 × (Nat → Int32)) := gd (-x1) 7 (gd (-x1) 7 (some (x1, x1, (va_up a78 ((-x1) : Int32).toNatClampNeg ((a78 ((-x1) : Int32).toNatClampNeg) + 1)))))
set_option maxHeartbeats 4000000 in
set_option maxRecDepth 100000 in
theorem tX11_refuse {G : GT} {b : Nat} {c0 : Hp} {n : Nat} (hw : e_wf (kW5) n) {v0_faultPlace : Int32} {v0_quashedRows : Int32} {v0_lastRefusal : Int32} {a78 : Nat → Int32} {x1 : Int32} {R : Int32 × Int32 × (Nat → Int32)} (hf : fX11_refuse v0_lastRefusal a78 x1 = some R) : E G b yX11_refuse cX11_refuse 2 (some .int) (e_rm 0 0 0) e_X0 (e_Z G b (pD (some (.int R.1)) (e_ov (kW5) (wW5 G b v0_faultPlace v0_quashedRows R.2.1 R.2.2) c0) n) 0 0) 0 [(0, .ref (b + 0)), (1, .int x1)] [] (e_ov (kW5) (wW5 G b v0_faultPlace v0_quashedRows v0_lastRefusal a78) c0) n 0 0 := by
  unfold fX11_refuse at hf
  refine E.aload_n 0 dX11_refuse_0 rfl ?_
  refine E.get hw 0 0 dX11_refuse_1 flX11_85 rfl rfl rfl rfl ?_
  refine E.iload_n 1 dX11_refuse_4 rfl ?_
  refine E.ineg dX11_refuse_5 ?_
  refine E.dup2_11 dX11_refuse_6 rfl rfl ?_
  obtain ⟨g1, hf⟩ := gd_some hf
  refine E.iald hw 1 78 dX11_refuse_7 rfl rfl g1 ?_
  refine E.iconst (v := 1) dX11_refuse_8 (by decide) ?_
  refine E.iadd dX11_refuse_9 ?_
  obtain ⟨g2, hf⟩ := gd_some hf
  refine E.iast (es' := (wW5 G b v0_faultPlace v0_quashedRows v0_lastRefusal (va_up a78 ((-x1) : Int32).toNatClampNeg ((a78 ((-x1) : Int32).toNatClampNeg) + 1)))) hw 1 78 dX11_refuse_10 rfl rfl g2 rfl ?_
  refine E.aload_n 0 dX11_refuse_11 rfl ?_
  refine E.iload_n 1 dX11_refuse_12 rfl ?_
  refine E.put (es' := (wW5 G b v0_faultPlace v0_quashedRows x1 (va_up a78 ((-x1) : Int32).toNatClampNeg ((a78 ((-x1) : Int32).toNatClampNeg) + 1)))) hw 0 0 dX11_refuse_13 flX11_369 ftX11 rfl rfl rfl rfl rfl rfl (Nat.le_of_ble_eq_true rfl) rfl ?_
  refine E.iload_n 1 dX11_refuse_16 rfl ?_
  cases hf
  exact E.iret dX11_refuse_17 (Nat.le_refl _) (Nat.le_refl _) (pD_rf _ _ _)
set_option maxRecDepth 100000 in
theorem mX11_refuse {G : GT} {b : Nat} {c0 : Hp} {n : Nat} (hw : e_wf (kW5) n) {v0_faultPlace : Int32} {v0_quashedRows : Int32} {v0_lastRefusal : Int32} {a78 : Nat → Int32} {x1 : Int32} {R : Int32 × Int32 × (Nat → Int32)} (hf : fX11_refuse v0_lastRefusal a78 x1 = some R) : e_C G b yX11_refuse cX11_refuse 2 (some .int) 0 0 0 [.ref (b + 0), .int x1] (e_ov (kW5) (wW5 G b v0_faultPlace v0_quashedRows v0_lastRefusal a78) c0) n (pD (some (.int R.1)) (e_ov (kW5) (wW5 G b v0_faultPlace v0_quashedRows R.2.1 R.2.2) c0) n) := e_C.of (by decide) (Nat.le_of_ble_eq_true rfl) (tX11_refuse hw hf)
abbrev kW6 : List Nat := [0, 1, 2, 42, 78]
abbrev wW6 (G : GT) (b  : Nat) (v0_faultPlace : Int32) (v0_quashedRows : Int32) (v0_lastRefusal : Int32) (v1_beasts : Int32) (v1_meals : Int32) (v1_seats : Int32) (v1_laws : Int32) (v1_inForce : Int32) (a2 : Nat → Int32) (v42_beasts : Int32) (v42_seats : Int32) (v42_seated : Int32) (v42_quota : Int32) (v42_known : Int32) (v42_surveyed : Int32) (v42_steadyBench : Int32) (v42_steadyWays : Int32) (v42_steadySwing : Int64) (a78 : Nat → Int32) : List va_E := [.inr (11, [.ref (b + 1), .ref (b + 10), .ref (b + 29), .ref (b + 30), .ref (b + 32), .ref (b + 37), .ref (b + 40), .ref (b + 42), .ref (b + 69), .ref (b + 73), .ref (b + 74), .ref (b + 76), .ref (b + 78), .int v0_faultPlace, .int v0_quashedRows, .int v0_lastRefusal]), .inr (10, [.ref (b + 2), .ref (b + 3), .ref (b + 4), .ref (b + 5), .ref (b + 6), .int v1_beasts, .int v1_meals, .int v1_seats, .int v1_laws, .int v1_inForce]), aI G 48 a2, .inr (1, [.ref (b + 43), .ref (b + 44), .ref (b + 45), .ref (b + 46), .ref (b + 47), .ref (b + 48), .ref (b + 49), .ref (b + 50), .ref (b + 67), .int v42_beasts, .int v42_seats, .int v42_seated, .int v42_quota, .int v42_known, .int v42_surveyed, .int v42_steadyBench, .int v42_steadyWays, .long v42_steadySwing]), aI G 7 a78]
def fX11_beast_L54 (v0_lastRefusal : Int32) (v1_beasts : Int32) (a2 : Nat → Int32) (v42_known : Int32) (a78 : Nat → Int32) : Option (Int32 × Int32 × Int32 × (Nat → Int32) × Int32 × (Nat → Int32)) := (fX11_refuse v0_lastRefusal a78 (-1 : Int32)).bind fun r14 => (some (r14.1, r14.2.1, v1_beasts, a2, v42_known, r14.2.2))
set_option maxHeartbeats 4000000 in
set_option maxRecDepth 100000 in
theorem tX11_beast_L54 {G : GT} {b : Nat} {c0 : Hp} {n : Nat} (hw : e_wf (kW6) n) {v0_faultPlace : Int32} {v0_quashedRows : Int32} {v1_meals : Int32} {v1_seats : Int32} {v1_laws : Int32} {v1_inForce : Int32} {v42_beasts : Int32} {v42_seats : Int32} {v42_seated : Int32} {v42_quota : Int32} {v42_surveyed : Int32} {v42_steadyBench : Int32} {v42_steadyWays : Int32} {v42_steadySwing : Int64} {v0_lastRefusal : Int32} {v1_beasts : Int32} {a2 : Nat → Int32} {v42_known : Int32} {a78 : Nat → Int32} {R : Int32 × Int32 × Int32 × (Nat → Int32) × Int32 × (Nat → Int32)} (hf : fX11_beast_L54 v0_lastRefusal v1_beasts a2 v42_known a78 = some R) : E G b yX11_beast cX11_beast 8 (some .int) (e_rm 2 0 0) e_X0 (e_Z G b (pD (some (.int R.1)) (e_ov (kW6) (wW6 G b v0_faultPlace v0_quashedRows R.2.1 R.2.2.1 v1_meals v1_seats v1_laws v1_inForce R.2.2.2.1 v42_beasts v42_seats v42_seated v42_quota R.2.2.2.2.1 v42_surveyed v42_steadyBench v42_steadyWays v42_steadySwing R.2.2.2.2.2) c0) n) 0 0) 54 [(0, .ref (b + 0))] [] (e_ov (kW6) (wW6 G b v0_faultPlace v0_quashedRows v0_lastRefusal v1_beasts v1_meals v1_seats v1_laws v1_inForce a2 v42_beasts v42_seats v42_seated v42_quota v42_known v42_surveyed v42_steadyBench v42_steadyWays v42_steadySwing a78) c0) n 0 0 := by
  unfold fX11_beast_L54 at hf
  refine E.aload_n 0 dX11_beast_54 rfl ?_
  refine E.iconst (v := -1) dX11_beast_55 (by decide) ?_
  obtain ⟨r14, hc14, hf⟩ := e_bind hf
  refine E.callVDs (es' := (wW6 G b v0_faultPlace v0_quashedRows r14.2.1 v1_beasts v1_meals v1_seats v1_laws v1_inForce a2 v42_beasts v42_seats v42_seated v42_quota v42_known v42_surveyed v42_steadyBench v42_steadyWays v42_steadySwing r14.2.2)) [] [0, 4] 0 0 dX11_beast_56 mlX11_97 hw rfl rfl rfl rfl (mX11_refuse (hw.pick2 [0, 4] rfl (by decide)) hc14) rfl rfl rfl rfl ⟨Nat.le_of_ble_eq_true rfl, Nat.le_of_ble_eq_true rfl⟩ rfl rfl (Nat.le_of_ble_eq_true rfl) ⟨Nat.le_refl _, Nat.le_refl _⟩ rfl ?_
  cases hf
  exact E.iret dX11_beast_59 (Nat.le_refl _) (Nat.le_refl _) (pD_rf _ _ _)
def fX11_beast_L29 (v0_lastRefusal : Int32) (v1_beasts : Int32) (a2 : Nat → Int32) (v42_known : Int32) (a78 : Nat → Int32) (x1 : Int32) (x2 : Int32) (x3 : Int32) (x4 : Int32) (x5 : Int32) (s0 : Int32) : Option (Int32 × Int32 × Int32 × (Nat → Int32) × Int32 × (Nat → Int32)) := if (s0 : Int32) = (0 : Int32) then (fX11_beast_L54 v0_lastRefusal v1_beasts a2 v42_known a78) else ((fX11_fitsTrait 3 x4).bind fun r4 => (if (r4 : Int32) = (0 : Int32) then (fX11_beast_L54 v0_lastRefusal v1_beasts a2 v42_known a78) else ((fX11_fitsTrait 4 x5).bind fun r5 => (if (r5 : Int32) = (0 : Int32) then (fX11_beast_L54 v0_lastRefusal v1_beasts a2 v42_known a78) else (if (v1_beasts : Int32) < (8 : Int32) then ((fX10_setTrait a2 v1_beasts 0 x1).bind fun r6 => ((fX10_setTrait r6 v1_beasts 1 x2).bind fun r7 => ((fX10_setTrait r7 v1_beasts 2 x3).bind fun r8 => ((fX10_setTrait r8 v1_beasts 3 x4).bind fun r9 => ((fX10_setTrait r9 v1_beasts 4 x5).bind fun r10 => ((fX10_setTrait r10 v1_beasts 5 0).bind fun r11 => ((fX11_accept v0_lastRefusal v42_known v1_beasts).bind fun r12 => (some (r12.1, r12.2.1, (v1_beasts + 1), r11, r12.2.2, a78))))))))) else ((fX11_refuse v0_lastRefusal a78 (-5 : Int32)).bind fun r13 => (some (r13.1, r13.2.1, v1_beasts, a2, v42_known, r13.2.2))))))))
set_option maxHeartbeats 4000000 in
set_option maxRecDepth 100000 in
theorem tX11_beast_L29 {G : GT} {b : Nat} {c0 : Hp} {n : Nat} (hw : e_wf (kW6) n) {v0_faultPlace : Int32} {v0_quashedRows : Int32} {v1_meals : Int32} {v1_seats : Int32} {v1_laws : Int32} {v1_inForce : Int32} {v42_beasts : Int32} {v42_seats : Int32} {v42_seated : Int32} {v42_quota : Int32} {v42_surveyed : Int32} {v42_steadyBench : Int32} {v42_steadyWays : Int32} {v42_steadySwing : Int64} {v0_lastRefusal : Int32} {v1_beasts : Int32} {a2 : Nat → Int32} {v42_known : Int32} {a78 : Nat → Int32} {x1 : Int32} {x2 : Int32} {x3 : Int32} {x4 : Int32} {x5 : Int32} {s0 : Int32} {R : Int32 × Int32 × Int32 × (Nat → Int32) × Int32 × (Nat → Int32)} (hf : fX11_beast_L29 v0_lastRefusal v1_beasts a2 v42_known a78 x1 x2 x3 x4 x5 s0 = some R) : E G b yX11_beast cX11_beast 8 (some .int) (e_rm 2 0 0) e_X0 (e_Z G b (pD (some (.int R.1)) (e_ov (kW6) (wW6 G b v0_faultPlace v0_quashedRows R.2.1 R.2.2.1 v1_meals v1_seats v1_laws v1_inForce R.2.2.2.1 v42_beasts v42_seats v42_seated v42_quota R.2.2.2.2.1 v42_surveyed v42_steadyBench v42_steadyWays v42_steadySwing R.2.2.2.2.2) c0) n) 0 0) 29 [(0, .ref (b + 0)), (1, .int x1), (2, .int x2), (3, .int x3), (4, .int x4), (5, .int x5)] [.int s0] (e_ov (kW6) (wW6 G b v0_faultPlace v0_quashedRows v0_lastRefusal v1_beasts v1_meals v1_seats v1_laws v1_inForce a2 v42_beasts v42_seats v42_seated v42_quota v42_known v42_surveyed v42_steadyBench v42_steadyWays v42_steadySwing a78) c0) n 0 0 := by
  unfold fX11_beast_L29 at hf
  refine E.istore (lv' := [(6, .int s0), (0, .ref (b + 0)), (1, .int x1), (2, .int x2), (3, .int x3), (4, .int x4), (5, .int x5)]) dX11_beast_29 (by decide) rfl ?_
  refine E.iload 0 dX11_beast_31 rfl ?_
  refine E.if_eq dX11_beast_33 (fun h => ?_) (fun h => ?_)
  · have hf := e_ift hf h
    refine E.locals [1] rfl ?_
    exact tX11_beast_L54 hw hf
  · have hf := e_iff hf h
    refine E.iconst (v := 3) dX11_beast_36 (by decide) ?_
    refine E.iload 5 dX11_beast_37 rfl ?_
    obtain ⟨r4, hc4, hf⟩ := e_bind hf
    refine E.callSD [] dX11_beast_39 mlX11_93 (mX11_fitsTrait hc4) ⟨Nat.le_of_ble_eq_true rfl, Nat.le_of_ble_eq_true rfl⟩ rfl rfl (Nat.le_of_ble_eq_true rfl) ⟨Nat.le_refl _, Nat.le_refl _⟩ rfl ?_
    refine E.if_eq dX11_beast_42 (fun h => ?_) (fun h => ?_)
    · have hf := e_ift hf h
      refine E.locals [1] rfl ?_
      exact tX11_beast_L54 hw hf
    · have hf := e_iff hf h
      refine E.iconst (v := 4) dX11_beast_45 (by decide) ?_
      refine E.iload 6 dX11_beast_46 rfl ?_
      obtain ⟨r5, hc5, hf⟩ := e_bind hf
      refine E.callSD [] dX11_beast_48 mlX11_93 (mX11_fitsTrait hc5) ⟨Nat.le_of_ble_eq_true rfl, Nat.le_of_ble_eq_true rfl⟩ rfl rfl (Nat.le_of_ble_eq_true rfl) ⟨Nat.le_refl _, Nat.le_refl _⟩ rfl ?_
      refine E.if_ne dX11_beast_51 (fun h => ?_) (fun h => ?_)
      · have hf := e_iff hf h
        refine E.aload_n 1 dX11_beast_60 rfl ?_
        refine E.get hw 0 0 dX11_beast_61 flX11_10 rfl rfl rfl rfl ?_
        refine E.getN hw 1 1 dX11_beast_64 fnX11_101 rfl rfl rfl rfl ?_
        refine E.bipush (v := 8) dX11_beast_67 (by decide) ?_
        refine E.icmp_lt dX11_beast_69 (fun h => ?_) (fun h => ?_)
        · have hf := e_ift hf h
          refine E.aload_n 1 dX11_beast_79 rfl ?_
          refine E.get hw 0 0 dX11_beast_80 flX11_10 rfl rfl rfl rfl ?_
          refine E.getN hw 1 1 dX11_beast_83 fnX11_101 rfl rfl rfl rfl ?_
          refine E.istore (lv' := [(7, .int v1_beasts), (6, .int s0), (0, .ref (b + 0)), (1, .int x1), (2, .int x2), (3, .int x3), (4, .int x4), (5, .int x5)]) dX11_beast_86 (by decide) rfl ?_
          refine E.aload_n 2 dX11_beast_88 rfl ?_
          refine E.get hw 0 0 dX11_beast_89 flX11_10 rfl rfl rfl rfl ?_
          refine E.dup dX11_beast_92 rfl ?_
          refine E.getN hw 1 1 dX11_beast_93 fnX11_101 rfl rfl rfl rfl ?_
          refine E.iconst (v := 1) dX11_beast_96 (by decide) ?_
          refine E.iadd dX11_beast_97 ?_
          refine E.putN (es' := (wW6 G b v0_faultPlace v0_quashedRows v0_lastRefusal (v1_beasts + 1) v1_meals v1_seats v1_laws v1_inForce a2 v42_beasts v42_seats v42_seated v42_quota v42_known v42_surveyed v42_steadyBench v42_steadyWays v42_steadySwing a78)) hw 1 1 dX11_beast_98 fnX11_101 ftX10 rfl rfl rfl rfl rfl rfl (Nat.le_of_ble_eq_true rfl) rfl ?_
          refine E.aload_n 2 dX11_beast_101 rfl ?_
          refine E.get hw 0 0 dX11_beast_102 flX11_10 rfl rfl rfl rfl ?_
          refine E.iload 0 dX11_beast_105 rfl ?_
          refine E.iconst (v := 0) dX11_beast_107 (by decide) ?_
          refine E.iload_n 3 dX11_beast_108 rfl ?_
          obtain ⟨r6, hc6, hf⟩ := e_bind hf
          refine E.callVDs (es' := (wW6 G b v0_faultPlace v0_quashedRows v0_lastRefusal (v1_beasts + 1) v1_meals v1_seats v1_laws v1_inForce r6 v42_beasts v42_seats v42_seated v42_quota v42_known v42_surveyed v42_steadyBench v42_steadyWays v42_steadySwing a78)) [] [1, 2] 1 1 dX11_beast_109 mlX11_104 hw rfl rfl rfl rfl (mX10_setTrait (hw.pick2 [1, 2] rfl (by decide)) hc6) rfl rfl rfl rfl ⟨Nat.le_of_ble_eq_true rfl, Nat.le_of_ble_eq_true rfl⟩ rfl rfl (Nat.le_of_ble_eq_true rfl) ⟨Nat.le_refl _, Nat.le_refl _⟩ rfl ?_
          refine E.aload_n 2 dX11_beast_112 rfl ?_
          refine E.get hw 0 0 dX11_beast_113 flX11_10 rfl rfl rfl rfl ?_
          refine E.iload 0 dX11_beast_116 rfl ?_
          refine E.iconst (v := 1) dX11_beast_118 (by decide) ?_
          refine E.iload_n 4 dX11_beast_119 rfl ?_
          obtain ⟨r7, hc7, hf⟩ := e_bind hf
          refine E.callVDs (es' := (wW6 G b v0_faultPlace v0_quashedRows v0_lastRefusal (v1_beasts + 1) v1_meals v1_seats v1_laws v1_inForce r7 v42_beasts v42_seats v42_seated v42_quota v42_known v42_surveyed v42_steadyBench v42_steadyWays v42_steadySwing a78)) [] [1, 2] 1 1 dX11_beast_120 mlX11_104 hw rfl rfl rfl rfl (mX10_setTrait (hw.pick2 [1, 2] rfl (by decide)) hc7) rfl rfl rfl rfl ⟨Nat.le_of_ble_eq_true rfl, Nat.le_of_ble_eq_true rfl⟩ rfl rfl (Nat.le_of_ble_eq_true rfl) ⟨Nat.le_refl _, Nat.le_refl _⟩ rfl ?_
          refine E.aload_n 2 dX11_beast_123 rfl ?_
          refine E.get hw 0 0 dX11_beast_124 flX11_10 rfl rfl rfl rfl ?_
          refine E.iload 0 dX11_beast_127 rfl ?_
          refine E.iconst (v := 2) dX11_beast_129 (by decide) ?_
          refine E.iload_n 5 dX11_beast_130 rfl ?_
          obtain ⟨r8, hc8, hf⟩ := e_bind hf
          refine E.callVDs (es' := (wW6 G b v0_faultPlace v0_quashedRows v0_lastRefusal (v1_beasts + 1) v1_meals v1_seats v1_laws v1_inForce r8 v42_beasts v42_seats v42_seated v42_quota v42_known v42_surveyed v42_steadyBench v42_steadyWays v42_steadySwing a78)) [] [1, 2] 1 1 dX11_beast_131 mlX11_104 hw rfl rfl rfl rfl (mX10_setTrait (hw.pick2 [1, 2] rfl (by decide)) hc8) rfl rfl rfl rfl ⟨Nat.le_of_ble_eq_true rfl, Nat.le_of_ble_eq_true rfl⟩ rfl rfl (Nat.le_of_ble_eq_true rfl) ⟨Nat.le_refl _, Nat.le_refl _⟩ rfl ?_
          refine E.aload_n 2 dX11_beast_134 rfl ?_
          refine E.get hw 0 0 dX11_beast_135 flX11_10 rfl rfl rfl rfl ?_
          refine E.iload 0 dX11_beast_138 rfl ?_
          refine E.iconst (v := 3) dX11_beast_140 (by decide) ?_
          refine E.iload 6 dX11_beast_141 rfl ?_
          obtain ⟨r9, hc9, hf⟩ := e_bind hf
          refine E.callVDs (es' := (wW6 G b v0_faultPlace v0_quashedRows v0_lastRefusal (v1_beasts + 1) v1_meals v1_seats v1_laws v1_inForce r9 v42_beasts v42_seats v42_seated v42_quota v42_known v42_surveyed v42_steadyBench v42_steadyWays v42_steadySwing a78)) [] [1, 2] 1 1 dX11_beast_143 mlX11_104 hw rfl rfl rfl rfl (mX10_setTrait (hw.pick2 [1, 2] rfl (by decide)) hc9) rfl rfl rfl rfl ⟨Nat.le_of_ble_eq_true rfl, Nat.le_of_ble_eq_true rfl⟩ rfl rfl (Nat.le_of_ble_eq_true rfl) ⟨Nat.le_refl _, Nat.le_refl _⟩ rfl ?_
          refine E.aload_n 2 dX11_beast_146 rfl ?_
          refine E.get hw 0 0 dX11_beast_147 flX11_10 rfl rfl rfl rfl ?_
          refine E.iload 0 dX11_beast_150 rfl ?_
          refine E.iconst (v := 4) dX11_beast_152 (by decide) ?_
          refine E.iload 7 dX11_beast_153 rfl ?_
          obtain ⟨r10, hc10, hf⟩ := e_bind hf
          refine E.callVDs (es' := (wW6 G b v0_faultPlace v0_quashedRows v0_lastRefusal (v1_beasts + 1) v1_meals v1_seats v1_laws v1_inForce r10 v42_beasts v42_seats v42_seated v42_quota v42_known v42_surveyed v42_steadyBench v42_steadyWays v42_steadySwing a78)) [] [1, 2] 1 1 dX11_beast_155 mlX11_104 hw rfl rfl rfl rfl (mX10_setTrait (hw.pick2 [1, 2] rfl (by decide)) hc10) rfl rfl rfl rfl ⟨Nat.le_of_ble_eq_true rfl, Nat.le_of_ble_eq_true rfl⟩ rfl rfl (Nat.le_of_ble_eq_true rfl) ⟨Nat.le_refl _, Nat.le_refl _⟩ rfl ?_
          refine E.aload_n 2 dX11_beast_158 rfl ?_
          refine E.get hw 0 0 dX11_beast_159 flX11_10 rfl rfl rfl rfl ?_
          refine E.iload 0 dX11_beast_162 rfl ?_
          refine E.iconst (v := 5) dX11_beast_164 (by decide) ?_
          refine E.iconst (v := 0) dX11_beast_165 (by decide) ?_
          obtain ⟨r11, hc11, hf⟩ := e_bind hf
          refine E.callVDs (es' := (wW6 G b v0_faultPlace v0_quashedRows v0_lastRefusal (v1_beasts + 1) v1_meals v1_seats v1_laws v1_inForce r11 v42_beasts v42_seats v42_seated v42_quota v42_known v42_surveyed v42_steadyBench v42_steadyWays v42_steadySwing a78)) [] [1, 2] 1 1 dX11_beast_166 mlX11_104 hw rfl rfl rfl rfl (mX10_setTrait (hw.pick2 [1, 2] rfl (by decide)) hc11) rfl rfl rfl rfl ⟨Nat.le_of_ble_eq_true rfl, Nat.le_of_ble_eq_true rfl⟩ rfl rfl (Nat.le_of_ble_eq_true rfl) ⟨Nat.le_refl _, Nat.le_refl _⟩ rfl ?_
          refine E.aload_n 2 dX11_beast_169 rfl ?_
          refine E.iload 0 dX11_beast_170 rfl ?_
          obtain ⟨r12, hc12, hf⟩ := e_bind hf
          refine E.callVDs (es' := (wW6 G b v0_faultPlace v0_quashedRows r12.2.1 (v1_beasts + 1) v1_meals v1_seats v1_laws v1_inForce r11 v42_beasts v42_seats v42_seated v42_quota r12.2.2 v42_surveyed v42_steadyBench v42_steadyWays v42_steadySwing a78)) [] [0, 3] 0 0 dX11_beast_172 mlX11_108 hw rfl rfl rfl rfl (mX11_accept (hw.pick2 [0, 3] rfl (by decide)) hc12) rfl rfl rfl rfl ⟨Nat.le_of_ble_eq_true rfl, Nat.le_of_ble_eq_true rfl⟩ rfl rfl (Nat.le_of_ble_eq_true rfl) ⟨Nat.le_refl _, Nat.le_refl _⟩ rfl ?_
          cases hf
          exact E.iret dX11_beast_175 (Nat.le_refl _) (Nat.le_refl _) (pD_rf _ _ _)
        · have hf := e_iff hf h
          refine E.aload_n 1 dX11_beast_72 rfl ?_
          refine E.bipush (v := -5) dX11_beast_73 (by decide) ?_
          obtain ⟨r13, hc13, hf⟩ := e_bind hf
          refine E.callVDs (es' := (wW6 G b v0_faultPlace v0_quashedRows r13.2.1 v1_beasts v1_meals v1_seats v1_laws v1_inForce a2 v42_beasts v42_seats v42_seated v42_quota v42_known v42_surveyed v42_steadyBench v42_steadyWays v42_steadySwing r13.2.2)) [] [0, 4] 0 0 dX11_beast_75 mlX11_97 hw rfl rfl rfl rfl (mX11_refuse (hw.pick2 [0, 4] rfl (by decide)) hc13) rfl rfl rfl rfl ⟨Nat.le_of_ble_eq_true rfl, Nat.le_of_ble_eq_true rfl⟩ rfl rfl (Nat.le_of_ble_eq_true rfl) ⟨Nat.le_refl _, Nat.le_refl _⟩ rfl ?_
          cases hf
          exact E.iret dX11_beast_78 (Nat.le_refl _) (Nat.le_refl _) (pD_rf _ _ _)
      · have hf := e_ift hf h
        refine E.locals [1] rfl ?_
        exact tX11_beast_L54 hw hf
def fX11_beast_L28 (v0_lastRefusal : Int32) (v1_beasts : Int32) (a2 : Nat → Int32) (v42_known : Int32) (a78 : Nat → Int32) (x1 : Int32) (x2 : Int32) (x3 : Int32) (x4 : Int32) (x5 : Int32) : Option (Int32 × Int32 × Int32 × (Nat → Int32) × Int32 × (Nat → Int32)) := fX11_beast_L29 v0_lastRefusal v1_beasts a2 v42_known a78 x1 x2 x3 x4 x5 0
set_option maxHeartbeats 4000000 in
set_option maxRecDepth 100000 in
theorem tX11_beast_L28 {G : GT} {b : Nat} {c0 : Hp} {n : Nat} (hw : e_wf (kW6) n) {v0_faultPlace : Int32} {v0_quashedRows : Int32} {v1_meals : Int32} {v1_seats : Int32} {v1_laws : Int32} {v1_inForce : Int32} {v42_beasts : Int32} {v42_seats : Int32} {v42_seated : Int32} {v42_quota : Int32} {v42_surveyed : Int32} {v42_steadyBench : Int32} {v42_steadyWays : Int32} {v42_steadySwing : Int64} {v0_lastRefusal : Int32} {v1_beasts : Int32} {a2 : Nat → Int32} {v42_known : Int32} {a78 : Nat → Int32} {x1 : Int32} {x2 : Int32} {x3 : Int32} {x4 : Int32} {x5 : Int32} {R : Int32 × Int32 × Int32 × (Nat → Int32) × Int32 × (Nat → Int32)} (hf : fX11_beast_L28 v0_lastRefusal v1_beasts a2 v42_known a78 x1 x2 x3 x4 x5 = some R) : E G b yX11_beast cX11_beast 8 (some .int) (e_rm 2 0 0) e_X0 (e_Z G b (pD (some (.int R.1)) (e_ov (kW6) (wW6 G b v0_faultPlace v0_quashedRows R.2.1 R.2.2.1 v1_meals v1_seats v1_laws v1_inForce R.2.2.2.1 v42_beasts v42_seats v42_seated v42_quota R.2.2.2.2.1 v42_surveyed v42_steadyBench v42_steadyWays v42_steadySwing R.2.2.2.2.2) c0) n) 0 0) 28 [(0, .ref (b + 0)), (1, .int x1), (2, .int x2), (3, .int x3), (4, .int x4), (5, .int x5)] [] (e_ov (kW6) (wW6 G b v0_faultPlace v0_quashedRows v0_lastRefusal v1_beasts v1_meals v1_seats v1_laws v1_inForce a2 v42_beasts v42_seats v42_seated v42_quota v42_known v42_surveyed v42_steadyBench v42_steadyWays v42_steadySwing a78) c0) n 0 0 := by
  unfold fX11_beast_L28 at hf
  refine E.iconst (v := 0) dX11_beast_28 (by decide) ?_
  exact tX11_beast_L29 hw hf
def fX11_beast (v0_lastRefusal : Int32) (v1_beasts : Int32) (a2 : Nat → Int32) (v42_known : Int32) (a78 : Nat → Int32) (x1 : Int32) (x2 : Int32) (x3 : Int32) (x4 : Int32) (x5 : Int32) : Option (Int32 × Int32 × Int32 × (Nat → Int32) × Int32 × (Nat → Int32)) := (fX11_fitsTrait 0 x1).bind fun r1 => (if (r1 : Int32) = (0 : Int32) then (fX11_beast_L28 v0_lastRefusal v1_beasts a2 v42_known a78 x1 x2 x3 x4 x5) else ((fX11_fitsTrait 1 x2).bind fun r2 => (if (r2 : Int32) = (0 : Int32) then (fX11_beast_L28 v0_lastRefusal v1_beasts a2 v42_known a78 x1 x2 x3 x4 x5) else ((fX11_fitsTrait 2 x3).bind fun r3 => (if (r3 : Int32) = (0 : Int32) then (fX11_beast_L28 v0_lastRefusal v1_beasts a2 v42_known a78 x1 x2 x3 x4 x5) else (fX11_beast_L29 v0_lastRefusal v1_beasts a2 v42_known a78 x1 x2 x3 x4 x5 1))))))
set_option maxHeartbeats 4000000 in
set_option maxRecDepth 100000 in
theorem tX11_beast {G : GT} {b : Nat} {c0 : Hp} {n : Nat} (hw : e_wf (kW6) n) {v0_faultPlace : Int32} {v0_quashedRows : Int32} {v1_meals : Int32} {v1_seats : Int32} {v1_laws : Int32} {v1_inForce : Int32} {v42_beasts : Int32} {v42_seats : Int32} {v42_seated : Int32} {v42_quota : Int32} {v42_surveyed : Int32} {v42_steadyBench : Int32} {v42_steadyWays : Int32} {v42_steadySwing : Int64} {v0_lastRefusal : Int32} {v1_beasts : Int32} {a2 : Nat → Int32} {v42_known : Int32} {a78 : Nat → Int32} {x1 : Int32} {x2 : Int32} {x3 : Int32} {x4 : Int32} {x5 : Int32} {R : Int32 × Int32 × Int32 × (Nat → Int32) × Int32 × (Nat → Int32)} (hf : fX11_beast v0_lastRefusal v1_beasts a2 v42_known a78 x1 x2 x3 x4 x5 = some R) : E G b yX11_beast cX11_beast 8 (some .int) (e_rm 2 0 0) e_X0 (e_Z G b (pD (some (.int R.1)) (e_ov (kW6) (wW6 G b v0_faultPlace v0_quashedRows R.2.1 R.2.2.1 v1_meals v1_seats v1_laws v1_inForce R.2.2.2.1 v42_beasts v42_seats v42_seated v42_quota R.2.2.2.2.1 v42_surveyed v42_steadyBench v42_steadyWays v42_steadySwing R.2.2.2.2.2) c0) n) 0 0) 0 [(0, .ref (b + 0)), (1, .int x1), (2, .int x2), (3, .int x3), (4, .int x4), (5, .int x5)] [] (e_ov (kW6) (wW6 G b v0_faultPlace v0_quashedRows v0_lastRefusal v1_beasts v1_meals v1_seats v1_laws v1_inForce a2 v42_beasts v42_seats v42_seated v42_quota v42_known v42_surveyed v42_steadyBench v42_steadyWays v42_steadySwing a78) c0) n 0 0 := by
  unfold fX11_beast at hf
  refine E.iconst (v := 0) dX11_beast_0 (by decide) ?_
  refine E.iload_n 1 dX11_beast_1 rfl ?_
  obtain ⟨r1, hc1, hf⟩ := e_bind hf
  refine E.callSD [] dX11_beast_2 mlX11_93 (mX11_fitsTrait hc1) ⟨Nat.le_of_ble_eq_true rfl, Nat.le_of_ble_eq_true rfl⟩ rfl rfl (Nat.le_of_ble_eq_true rfl) ⟨Nat.le_refl _, Nat.le_refl _⟩ rfl ?_
  refine E.if_eq dX11_beast_5 (fun h => ?_) (fun h => ?_)
  · have hf := e_ift hf h
    exact tX11_beast_L28 hw hf
  · have hf := e_iff hf h
    refine E.iconst (v := 1) dX11_beast_8 (by decide) ?_
    refine E.iload_n 2 dX11_beast_9 rfl ?_
    obtain ⟨r2, hc2, hf⟩ := e_bind hf
    refine E.callSD [] dX11_beast_10 mlX11_93 (mX11_fitsTrait hc2) ⟨Nat.le_of_ble_eq_true rfl, Nat.le_of_ble_eq_true rfl⟩ rfl rfl (Nat.le_of_ble_eq_true rfl) ⟨Nat.le_refl _, Nat.le_refl _⟩ rfl ?_
    refine E.if_eq dX11_beast_13 (fun h => ?_) (fun h => ?_)
    · have hf := e_ift hf h
      exact tX11_beast_L28 hw hf
    · have hf := e_iff hf h
      refine E.iconst (v := 2) dX11_beast_16 (by decide) ?_
      refine E.iload_n 3 dX11_beast_17 rfl ?_
      obtain ⟨r3, hc3, hf⟩ := e_bind hf
      refine E.callSD [] dX11_beast_18 mlX11_93 (mX11_fitsTrait hc3) ⟨Nat.le_of_ble_eq_true rfl, Nat.le_of_ble_eq_true rfl⟩ rfl rfl (Nat.le_of_ble_eq_true rfl) ⟨Nat.le_refl _, Nat.le_refl _⟩ rfl ?_
      refine E.if_eq dX11_beast_21 (fun h => ?_) (fun h => ?_)
      · have hf := e_ift hf h
        exact tX11_beast_L28 hw hf
      · have hf := e_iff hf h
        refine E.iconst (v := 1) dX11_beast_24 (by decide) ?_
        refine E.goto dX11_beast_25 ?_
        exact tX11_beast_L29 hw hf
set_option maxRecDepth 100000 in
theorem mX11_beast {G : GT} {b : Nat} {c0 : Hp} {n : Nat} (hw : e_wf (kW6) n) {v0_faultPlace : Int32} {v0_quashedRows : Int32} {v1_meals : Int32} {v1_seats : Int32} {v1_laws : Int32} {v1_inForce : Int32} {v42_beasts : Int32} {v42_seats : Int32} {v42_seated : Int32} {v42_quota : Int32} {v42_surveyed : Int32} {v42_steadyBench : Int32} {v42_steadyWays : Int32} {v42_steadySwing : Int64} {v0_lastRefusal : Int32} {v1_beasts : Int32} {a2 : Nat → Int32} {v42_known : Int32} {a78 : Nat → Int32} {x1 : Int32} {x2 : Int32} {x3 : Int32} {x4 : Int32} {x5 : Int32} {R : Int32 × Int32 × Int32 × (Nat → Int32) × Int32 × (Nat → Int32)} (hf : fX11_beast v0_lastRefusal v1_beasts a2 v42_known a78 x1 x2 x3 x4 x5 = some R) : e_C G b yX11_beast cX11_beast 8 (some .int) 2 0 0 [.ref (b + 0), .int x1, .int x2, .int x3, .int x4, .int x5] (e_ov (kW6) (wW6 G b v0_faultPlace v0_quashedRows v0_lastRefusal v1_beasts v1_meals v1_seats v1_laws v1_inForce a2 v42_beasts v42_seats v42_seated v42_quota v42_known v42_surveyed v42_steadyBench v42_steadyWays v42_steadySwing a78) c0) n (pD (some (.int R.1)) (e_ov (kW6) (wW6 G b v0_faultPlace v0_quashedRows R.2.1 R.2.2.1 v1_meals v1_seats v1_laws v1_inForce R.2.2.2.1 v42_beasts v42_seats v42_seated v42_quota R.2.2.2.2.1 v42_surveyed v42_steadyBench v42_steadyWays v42_steadySwing R.2.2.2.2.2) c0) n) := e_C.of (by decide) (Nat.le_of_ble_eq_true rfl) (tX11_beast hw hf)
abbrev kW7 : List Nat := [1]
abbrev wW7 (G : GT) (b  : Nat) (v1_beasts : Int32) (v1_meals : Int32) (v1_seats : Int32) (v1_laws : Int32) (v1_inForce : Int32) : List va_E := [.inr (10, [.ref (b + 2), .ref (b + 3), .ref (b + 4), .ref (b + 5), .ref (b + 6), .int v1_beasts, .int v1_meals, .int v1_seats, .int v1_laws, .int v1_inForce])]
def fX10_hasBeast_L16 (v1_beasts : Int32) : Option (Int32) := some (0)
set_option maxHeartbeats 4000000 in
set_option maxRecDepth 100000 in
theorem tX10_hasBeast_L16 {G : GT} {b : Nat} {c0 : Hp} {n : Nat} (hw : e_wf (kW7) n) {v1_meals : Int32} {v1_seats : Int32} {v1_laws : Int32} {v1_inForce : Int32} {v1_beasts : Int32} {R : Int32} (hf : fX10_hasBeast_L16 v1_beasts = some R) : E G b yX10_hasBeast cX10_hasBeast 2 (some .boolean) (e_rm 0 0 0) e_X0 (e_Z G b (pD (some (.int R)) (e_ov (kW7) (wW7 G b v1_beasts v1_meals v1_seats v1_laws v1_inForce) c0) n) 0 0) 16 [] [] (e_ov (kW7) (wW7 G b v1_beasts v1_meals v1_seats v1_laws v1_inForce) c0) n 0 0 := by
  unfold fX10_hasBeast_L16 at hf
  refine E.iconst (v := 0) dX10_hasBeast_16 (by decide) ?_
  cases hf
  exact E.zret dX10_hasBeast_17 rfl (Nat.le_refl _) (Nat.le_refl _) (pD_rf _ _ _)
def fX10_hasBeast (v1_beasts : Int32) (x1 : Int32) : Option (Int32) := if (x1 : Int32) < (0 : Int32) then (fX10_hasBeast_L16 v1_beasts) else (if (v1_beasts : Int32) ≤ (x1 : Int32) then (fX10_hasBeast_L16 v1_beasts) else (some (1)))
set_option maxHeartbeats 4000000 in
set_option maxRecDepth 100000 in
theorem tX10_hasBeast {G : GT} {b : Nat} {c0 : Hp} {n : Nat} (hw : e_wf (kW7) n) {v1_meals : Int32} {v1_seats : Int32} {v1_laws : Int32} {v1_inForce : Int32} {v1_beasts : Int32} {x1 : Int32} {R : Int32} (hf : fX10_hasBeast v1_beasts x1 = some R) : E G b yX10_hasBeast cX10_hasBeast 2 (some .boolean) (e_rm 0 0 0) e_X0 (e_Z G b (pD (some (.int R)) (e_ov (kW7) (wW7 G b v1_beasts v1_meals v1_seats v1_laws v1_inForce) c0) n) 0 0) 0 [(0, .ref (b + 1)), (1, .int x1)] [] (e_ov (kW7) (wW7 G b v1_beasts v1_meals v1_seats v1_laws v1_inForce) c0) n 0 0 := by
  unfold fX10_hasBeast at hf
  refine E.iload_n 1 dX10_hasBeast_0 rfl ?_
  refine E.if_lt dX10_hasBeast_1 (fun h => ?_) (fun h => ?_)
  · have hf := e_ift hf h
    refine E.locals [] rfl ?_
    exact tX10_hasBeast_L16 hw hf
  · have hf := e_iff hf h
    refine E.iload_n 1 dX10_hasBeast_4 rfl ?_
    refine E.aload_n 0 dX10_hasBeast_5 rfl ?_
    refine E.get hw 0 1 dX10_hasBeast_6 flX10_56 rfl rfl rfl rfl ?_
    refine E.icmp_ge dX10_hasBeast_9 (fun h => ?_) (fun h => ?_)
    · have hf := e_ift hf h
      refine E.locals [] rfl ?_
      exact tX10_hasBeast_L16 hw hf
    · have hf := e_iff hf h
      refine E.iconst (v := 1) dX10_hasBeast_12 (by decide) ?_
      refine E.goto dX10_hasBeast_13 ?_
      cases hf
      exact E.zret dX10_hasBeast_17 rfl (Nat.le_refl _) (Nat.le_refl _) (pD_rf _ _ _)
set_option maxRecDepth 100000 in
theorem mX10_hasBeast {G : GT} {b : Nat} {c0 : Hp} {n : Nat} (hw : e_wf (kW7) n) {v1_meals : Int32} {v1_seats : Int32} {v1_laws : Int32} {v1_inForce : Int32} {v1_beasts : Int32} {x1 : Int32} {R : Int32} (hf : fX10_hasBeast v1_beasts x1 = some R) : e_C G b yX10_hasBeast cX10_hasBeast 2 (some .boolean) 0 0 0 [.ref (b + 1), .int x1] (e_ov (kW7) (wW7 G b v1_beasts v1_meals v1_seats v1_laws v1_inForce) c0) n (pD (some (.int R)) (e_ov (kW7) (wW7 G b v1_beasts v1_meals v1_seats v1_laws v1_inForce) c0) n) := e_C.of (by decide) (Nat.le_of_ble_eq_true rfl) (tX10_hasBeast hw hf)
def fX10_trait (a2 : Nat → Int32) (x1 : Int32) (x2 : Int32) : Option (Int32) := gd ((x1 * 6) + x2) 48 (some ((a2 (((x1 * 6) + x2) : Int32).toNatClampNeg)))
set_option maxHeartbeats 4000000 in
set_option maxRecDepth 100000 in
theorem tX10_trait {G : GT} {b : Nat} {c0 : Hp} {n : Nat} (hw : e_wf (kW2) n) {v1_beasts : Int32} {v1_meals : Int32} {v1_seats : Int32} {v1_laws : Int32} {v1_inForce : Int32} {a2 : Nat → Int32} {x1 : Int32} {x2 : Int32} {R : Int32} (hf : fX10_trait a2 x1 x2 = some R) : E G b yX10_trait cX10_trait 3 (some .int) (e_rm 0 0 0) e_X0 (e_Z G b (pD (some (.int R)) (e_ov (kW2) (wW2 G b v1_beasts v1_meals v1_seats v1_laws v1_inForce a2) c0) n) 0 0) 0 [(0, .ref (b + 1)), (1, .int x1), (2, .int x2)] [] (e_ov (kW2) (wW2 G b v1_beasts v1_meals v1_seats v1_laws v1_inForce a2) c0) n 0 0 := by
  unfold fX10_trait at hf
  refine E.aload_n 0 dX10_trait_0 rfl ?_
  refine E.get hw 0 1 dX10_trait_1 flX10_9 rfl rfl rfl rfl ?_
  refine E.iload_n 1 dX10_trait_4 rfl ?_
  refine E.bipush (v := 6) dX10_trait_5 (by decide) ?_
  refine E.imul dX10_trait_7 ?_
  refine E.iload_n 2 dX10_trait_8 rfl ?_
  refine E.iadd dX10_trait_9 ?_
  obtain ⟨g1, hf⟩ := gd_some hf
  refine E.iald hw 1 2 dX10_trait_10 rfl rfl g1 ?_
  cases hf
  exact E.iret dX10_trait_11 (Nat.le_refl _) (Nat.le_refl _) (pD_rf _ _ _)
set_option maxRecDepth 100000 in
theorem mX10_trait {G : GT} {b : Nat} {c0 : Hp} {n : Nat} (hw : e_wf (kW2) n) {v1_beasts : Int32} {v1_meals : Int32} {v1_seats : Int32} {v1_laws : Int32} {v1_inForce : Int32} {a2 : Nat → Int32} {x1 : Int32} {x2 : Int32} {R : Int32} (hf : fX10_trait a2 x1 x2 = some R) : e_C G b yX10_trait cX10_trait 3 (some .int) 0 0 0 [.ref (b + 1), .int x1, .int x2] (e_ov (kW2) (wW2 G b v1_beasts v1_meals v1_seats v1_laws v1_inForce a2) c0) n (pD (some (.int R)) (e_ov (kW2) (wW2 G b v1_beasts v1_meals v1_seats v1_laws v1_inForce a2) c0) n) := e_C.of (by decide) (Nat.le_of_ble_eq_true rfl) (tX10_trait hw hf)
def fX11_put (v0_lastRefusal : Int32) (v1_beasts : Int32) (a2 : Nat → Int32) (v42_known : Int32) (a78 : Nat → Int32) (x1 : Int32) (x2 : Int32) (x3 : Int32) : Option (Int32 × Int32 × (Nat → Int32) × Int32 × (Nat → Int32)) := (fX11_fitsTrait x2 x3).bind fun r1 => (if (r1 : Int32) = (0 : Int32) then ((fX11_refuse v0_lastRefusal a78 (-1 : Int32)).bind fun r7 => (some (r7.1, r7.2.1, a2, v42_known, r7.2.2))) else ((fX10_hasBeast v1_beasts x1).bind fun r2 => (if (r2 : Int32) = (0 : Int32) then ((fX11_refuse v0_lastRefusal a78 (-2 : Int32)).bind fun r6 => (some (r6.1, r6.2.1, a2, v42_known, r6.2.2))) else ((fX10_trait a2 x1 x2).bind fun r3 => ((fX10_setTrait a2 x1 x2 x3).bind fun r4 => ((fX11_accept v0_lastRefusal v42_known r3).bind fun r5 => (some (r5.1, r5.2.1, r4, r5.2.2, a78))))))))
set_option maxHeartbeats 4000000 in
set_option maxRecDepth 100000 in
theorem tX11_put {G : GT} {b : Nat} {c0 : Hp} {n : Nat} (hw : e_wf (kW6) n) {v0_faultPlace : Int32} {v0_quashedRows : Int32} {v1_meals : Int32} {v1_seats : Int32} {v1_laws : Int32} {v1_inForce : Int32} {v42_beasts : Int32} {v42_seats : Int32} {v42_seated : Int32} {v42_quota : Int32} {v42_surveyed : Int32} {v42_steadyBench : Int32} {v42_steadyWays : Int32} {v42_steadySwing : Int64} {v0_lastRefusal : Int32} {v1_beasts : Int32} {a2 : Nat → Int32} {v42_known : Int32} {a78 : Nat → Int32} {x1 : Int32} {x2 : Int32} {x3 : Int32} {R : Int32 × Int32 × (Nat → Int32) × Int32 × (Nat → Int32)} (hf : fX11_put v0_lastRefusal v1_beasts a2 v42_known a78 x1 x2 x3 = some R) : E G b yX11_put cX11_put 5 (some .int) (e_rm 2 0 0) e_X0 (e_Z G b (pD (some (.int R.1)) (e_ov (kW6) (wW6 G b v0_faultPlace v0_quashedRows R.2.1 v1_beasts v1_meals v1_seats v1_laws v1_inForce R.2.2.1 v42_beasts v42_seats v42_seated v42_quota R.2.2.2.1 v42_surveyed v42_steadyBench v42_steadyWays v42_steadySwing R.2.2.2.2) c0) n) 0 0) 0 [(0, .ref (b + 0)), (1, .int x1), (2, .int x2), (3, .int x3)] [] (e_ov (kW6) (wW6 G b v0_faultPlace v0_quashedRows v0_lastRefusal v1_beasts v1_meals v1_seats v1_laws v1_inForce a2 v42_beasts v42_seats v42_seated v42_quota v42_known v42_surveyed v42_steadyBench v42_steadyWays v42_steadySwing a78) c0) n 0 0 := by
  unfold fX11_put at hf
  refine E.iload_n 2 dX11_put_0 rfl ?_
  refine E.iload_n 3 dX11_put_1 rfl ?_
  obtain ⟨r1, hc1, hf⟩ := e_bind hf
  refine E.callSD [] dX11_put_2 mlX11_93 (mX11_fitsTrait hc1) ⟨Nat.le_of_ble_eq_true rfl, Nat.le_of_ble_eq_true rfl⟩ rfl rfl (Nat.le_of_ble_eq_true rfl) ⟨Nat.le_refl _, Nat.le_refl _⟩ rfl ?_
  refine E.if_ne dX11_put_5 (fun h => ?_) (fun h => ?_)
  · have hf := e_iff hf h
    refine E.aload_n 0 dX11_put_14 rfl ?_
    refine E.get hw 0 0 dX11_put_15 flX11_10 rfl rfl rfl rfl ?_
    refine E.iload_n 1 dX11_put_18 rfl ?_
    obtain ⟨r2, hc2, hf⟩ := e_bind hf
    refine E.callVDs (es' := (wW6 G b v0_faultPlace v0_quashedRows v0_lastRefusal v1_beasts v1_meals v1_seats v1_laws v1_inForce a2 v42_beasts v42_seats v42_seated v42_quota v42_known v42_surveyed v42_steadyBench v42_steadyWays v42_steadySwing a78)) [] [1] 1 1 dX11_put_19 mlX11_111 hw rfl rfl rfl rfl (mX10_hasBeast (hw.pick2 [1] rfl (by decide)) hc2) rfl rfl rfl rfl ⟨Nat.le_of_ble_eq_true rfl, Nat.le_of_ble_eq_true rfl⟩ rfl rfl (Nat.le_of_ble_eq_true rfl) ⟨Nat.le_refl _, Nat.le_refl _⟩ rfl ?_
    refine E.if_ne dX11_put_22 (fun h => ?_) (fun h => ?_)
    · have hf := e_iff hf h
      refine E.aload_n 0 dX11_put_32 rfl ?_
      refine E.get hw 0 0 dX11_put_33 flX11_10 rfl rfl rfl rfl ?_
      refine E.iload_n 1 dX11_put_36 rfl ?_
      refine E.iload_n 2 dX11_put_37 rfl ?_
      obtain ⟨r3, hc3, hf⟩ := e_bind hf
      refine E.callVDs (es' := (wW6 G b v0_faultPlace v0_quashedRows v0_lastRefusal v1_beasts v1_meals v1_seats v1_laws v1_inForce a2 v42_beasts v42_seats v42_seated v42_quota v42_known v42_surveyed v42_steadyBench v42_steadyWays v42_steadySwing a78)) [] [1, 2] 1 1 dX11_put_38 mlX11_115 hw rfl rfl rfl rfl (mX10_trait (hw.pick2 [1, 2] rfl (by decide)) hc3) rfl rfl rfl rfl ⟨Nat.le_of_ble_eq_true rfl, Nat.le_of_ble_eq_true rfl⟩ rfl rfl (Nat.le_of_ble_eq_true rfl) ⟨Nat.le_refl _, Nat.le_refl _⟩ rfl ?_
      refine E.istore (lv' := [(4, .int r3), (0, .ref (b + 0)), (1, .int x1), (2, .int x2), (3, .int x3)]) dX11_put_41 (by decide) rfl ?_
      refine E.aload_n 1 dX11_put_43 rfl ?_
      refine E.get hw 0 0 dX11_put_44 flX11_10 rfl rfl rfl rfl ?_
      refine E.iload_n 2 dX11_put_47 rfl ?_
      refine E.iload_n 3 dX11_put_48 rfl ?_
      refine E.iload_n 4 dX11_put_49 rfl ?_
      obtain ⟨r4, hc4, hf⟩ := e_bind hf
      refine E.callVDs (es' := (wW6 G b v0_faultPlace v0_quashedRows v0_lastRefusal v1_beasts v1_meals v1_seats v1_laws v1_inForce r4 v42_beasts v42_seats v42_seated v42_quota v42_known v42_surveyed v42_steadyBench v42_steadyWays v42_steadySwing a78)) [] [1, 2] 1 1 dX11_put_50 mlX11_104 hw rfl rfl rfl rfl (mX10_setTrait (hw.pick2 [1, 2] rfl (by decide)) hc4) rfl rfl rfl rfl ⟨Nat.le_of_ble_eq_true rfl, Nat.le_of_ble_eq_true rfl⟩ rfl rfl (Nat.le_of_ble_eq_true rfl) ⟨Nat.le_refl _, Nat.le_refl _⟩ rfl ?_
      refine E.aload_n 1 dX11_put_53 rfl ?_
      refine E.iload 0 dX11_put_54 rfl ?_
      obtain ⟨r5, hc5, hf⟩ := e_bind hf
      refine E.callVDs (es' := (wW6 G b v0_faultPlace v0_quashedRows r5.2.1 v1_beasts v1_meals v1_seats v1_laws v1_inForce r4 v42_beasts v42_seats v42_seated v42_quota r5.2.2 v42_surveyed v42_steadyBench v42_steadyWays v42_steadySwing a78)) [] [0, 3] 0 0 dX11_put_56 mlX11_108 hw rfl rfl rfl rfl (mX11_accept (hw.pick2 [0, 3] rfl (by decide)) hc5) rfl rfl rfl rfl ⟨Nat.le_of_ble_eq_true rfl, Nat.le_of_ble_eq_true rfl⟩ rfl rfl (Nat.le_of_ble_eq_true rfl) ⟨Nat.le_refl _, Nat.le_refl _⟩ rfl ?_
      cases hf
      exact E.iret dX11_put_59 (Nat.le_refl _) (Nat.le_refl _) (pD_rf _ _ _)
    · have hf := e_ift hf h
      refine E.aload_n 0 dX11_put_25 rfl ?_
      refine E.bipush (v := -2) dX11_put_26 (by decide) ?_
      obtain ⟨r6, hc6, hf⟩ := e_bind hf
      refine E.callVDs (es' := (wW6 G b v0_faultPlace v0_quashedRows r6.2.1 v1_beasts v1_meals v1_seats v1_laws v1_inForce a2 v42_beasts v42_seats v42_seated v42_quota v42_known v42_surveyed v42_steadyBench v42_steadyWays v42_steadySwing r6.2.2)) [] [0, 4] 0 0 dX11_put_28 mlX11_97 hw rfl rfl rfl rfl (mX11_refuse (hw.pick2 [0, 4] rfl (by decide)) hc6) rfl rfl rfl rfl ⟨Nat.le_of_ble_eq_true rfl, Nat.le_of_ble_eq_true rfl⟩ rfl rfl (Nat.le_of_ble_eq_true rfl) ⟨Nat.le_refl _, Nat.le_refl _⟩ rfl ?_
      cases hf
      exact E.iret dX11_put_31 (Nat.le_refl _) (Nat.le_refl _) (pD_rf _ _ _)
  · have hf := e_ift hf h
    refine E.aload_n 0 dX11_put_8 rfl ?_
    refine E.iconst (v := -1) dX11_put_9 (by decide) ?_
    obtain ⟨r7, hc7, hf⟩ := e_bind hf
    refine E.callVDs (es' := (wW6 G b v0_faultPlace v0_quashedRows r7.2.1 v1_beasts v1_meals v1_seats v1_laws v1_inForce a2 v42_beasts v42_seats v42_seated v42_quota v42_known v42_surveyed v42_steadyBench v42_steadyWays v42_steadySwing r7.2.2)) [] [0, 4] 0 0 dX11_put_10 mlX11_97 hw rfl rfl rfl rfl (mX11_refuse (hw.pick2 [0, 4] rfl (by decide)) hc7) rfl rfl rfl rfl ⟨Nat.le_of_ble_eq_true rfl, Nat.le_of_ble_eq_true rfl⟩ rfl rfl (Nat.le_of_ble_eq_true rfl) ⟨Nat.le_refl _, Nat.le_refl _⟩ rfl ?_
    cases hf
    exact E.iret dX11_put_13 (Nat.le_refl _) (Nat.le_refl _) (pD_rf _ _ _)
set_option maxRecDepth 100000 in
theorem mX11_put {G : GT} {b : Nat} {c0 : Hp} {n : Nat} (hw : e_wf (kW6) n) {v0_faultPlace : Int32} {v0_quashedRows : Int32} {v1_meals : Int32} {v1_seats : Int32} {v1_laws : Int32} {v1_inForce : Int32} {v42_beasts : Int32} {v42_seats : Int32} {v42_seated : Int32} {v42_quota : Int32} {v42_surveyed : Int32} {v42_steadyBench : Int32} {v42_steadyWays : Int32} {v42_steadySwing : Int64} {v0_lastRefusal : Int32} {v1_beasts : Int32} {a2 : Nat → Int32} {v42_known : Int32} {a78 : Nat → Int32} {x1 : Int32} {x2 : Int32} {x3 : Int32} {R : Int32 × Int32 × (Nat → Int32) × Int32 × (Nat → Int32)} (hf : fX11_put v0_lastRefusal v1_beasts a2 v42_known a78 x1 x2 x3 = some R) : e_C G b yX11_put cX11_put 5 (some .int) 2 0 0 [.ref (b + 0), .int x1, .int x2, .int x3] (e_ov (kW6) (wW6 G b v0_faultPlace v0_quashedRows v0_lastRefusal v1_beasts v1_meals v1_seats v1_laws v1_inForce a2 v42_beasts v42_seats v42_seated v42_quota v42_known v42_surveyed v42_steadyBench v42_steadyWays v42_steadySwing a78) c0) n (pD (some (.int R.1)) (e_ov (kW6) (wW6 G b v0_faultPlace v0_quashedRows R.2.1 v1_beasts v1_meals v1_seats v1_laws v1_inForce R.2.2.1 v42_beasts v42_seats v42_seated v42_quota R.2.2.2.1 v42_surveyed v42_steadyBench v42_steadyWays v42_steadySwing R.2.2.2.2) c0) n) := e_C.of (by decide) (Nat.le_of_ble_eq_true rfl) (tX11_put hw hf)
abbrev kW8 : List Nat := [0, 1, 2]
abbrev wW8 (G : GT) (b  : Nat) (v0_faultPlace : Int32) (v0_quashedRows : Int32) (v0_lastRefusal : Int32) (v1_beasts : Int32) (v1_meals : Int32) (v1_seats : Int32) (v1_laws : Int32) (v1_inForce : Int32) (a2 : Nat → Int32) : List va_E := [.inr (11, [.ref (b + 1), .ref (b + 10), .ref (b + 29), .ref (b + 30), .ref (b + 32), .ref (b + 37), .ref (b + 40), .ref (b + 42), .ref (b + 69), .ref (b + 73), .ref (b + 74), .ref (b + 76), .ref (b + 78), .int v0_faultPlace, .int v0_quashedRows, .int v0_lastRefusal]), .inr (10, [.ref (b + 2), .ref (b + 3), .ref (b + 4), .ref (b + 5), .ref (b + 6), .int v1_beasts, .int v1_meals, .int v1_seats, .int v1_laws, .int v1_inForce]), aI G 48 a2]
def fX11_of (v1_beasts : Int32) (a2 : Nat → Int32) (x1 : Int32) (x2 : Int32) : Option (Int32) := (fX10_hasBeast v1_beasts x1).bind fun r1 => (if (r1 : Int32) = (0 : Int32) then (some ((-1 : Int32))) else (if (x2 : Int32) < (0 : Int32) then (some ((-1 : Int32))) else (if (x2 : Int32) < (6 : Int32) then ((fX10_trait a2 x1 x2).bind fun r2 => (some (r2))) else (some ((-1 : Int32))))))
set_option maxHeartbeats 4000000 in
set_option maxRecDepth 100000 in
theorem tX11_of {G : GT} {b : Nat} {c0 : Hp} {n : Nat} (hw : e_wf (kW8) n) {v0_faultPlace : Int32} {v0_quashedRows : Int32} {v0_lastRefusal : Int32} {v1_meals : Int32} {v1_seats : Int32} {v1_laws : Int32} {v1_inForce : Int32} {v1_beasts : Int32} {a2 : Nat → Int32} {x1 : Int32} {x2 : Int32} {R : Int32} (hf : fX11_of v1_beasts a2 x1 x2 = some R) : E G b yX11_of cX11_of 3 (some .int) (e_rm 1 0 0) e_X0 (e_Z G b (pD (some (.int R)) (e_ov (kW8) (wW8 G b v0_faultPlace v0_quashedRows v0_lastRefusal v1_beasts v1_meals v1_seats v1_laws v1_inForce a2) c0) n) 0 0) 0 [(0, .ref (b + 0)), (1, .int x1), (2, .int x2)] [] (e_ov (kW8) (wW8 G b v0_faultPlace v0_quashedRows v0_lastRefusal v1_beasts v1_meals v1_seats v1_laws v1_inForce a2) c0) n 0 0 := by
  unfold fX11_of at hf
  refine E.aload_n 0 dX11_of_0 rfl ?_
  refine E.get hw 0 0 dX11_of_1 flX11_10 rfl rfl rfl rfl ?_
  refine E.iload_n 1 dX11_of_4 rfl ?_
  obtain ⟨r1, hc1, hf⟩ := e_bind hf
  refine E.callVDs (es' := (wW8 G b v0_faultPlace v0_quashedRows v0_lastRefusal v1_beasts v1_meals v1_seats v1_laws v1_inForce a2)) [] [1] 1 1 dX11_of_5 mlX11_111 hw rfl rfl rfl rfl (mX10_hasBeast (hw.pick2 [1] rfl (by decide)) hc1) rfl rfl rfl rfl ⟨Nat.le_of_ble_eq_true rfl, Nat.le_of_ble_eq_true rfl⟩ rfl rfl (Nat.le_of_ble_eq_true rfl) ⟨Nat.le_refl _, Nat.le_refl _⟩ rfl ?_
  refine E.if_eq dX11_of_8 (fun h => ?_) (fun h => ?_)
  · have hf := e_ift hf h
    refine E.iconst (v := -1) dX11_of_21 (by decide) ?_
    cases hf
    exact E.iret dX11_of_22 (Nat.le_refl _) (Nat.le_refl _) (pD_rf _ _ _)
  · have hf := e_iff hf h
    refine E.iload_n 2 dX11_of_11 rfl ?_
    refine E.if_lt dX11_of_12 (fun h => ?_) (fun h => ?_)
    · have hf := e_ift hf h
      refine E.iconst (v := -1) dX11_of_21 (by decide) ?_
      cases hf
      exact E.iret dX11_of_22 (Nat.le_refl _) (Nat.le_refl _) (pD_rf _ _ _)
    · have hf := e_iff hf h
      refine E.iload_n 2 dX11_of_15 rfl ?_
      refine E.bipush (v := 6) dX11_of_16 (by decide) ?_
      refine E.icmp_lt dX11_of_18 (fun h => ?_) (fun h => ?_)
      · have hf := e_ift hf h
        refine E.aload_n 0 dX11_of_23 rfl ?_
        refine E.get hw 0 0 dX11_of_24 flX11_10 rfl rfl rfl rfl ?_
        refine E.iload_n 1 dX11_of_27 rfl ?_
        refine E.iload_n 2 dX11_of_28 rfl ?_
        obtain ⟨r2, hc2, hf⟩ := e_bind hf
        refine E.callVDs (es' := (wW8 G b v0_faultPlace v0_quashedRows v0_lastRefusal v1_beasts v1_meals v1_seats v1_laws v1_inForce a2)) [] [1, 2] 1 1 dX11_of_29 mlX11_115 hw rfl rfl rfl rfl (mX10_trait (hw.pick2 [1, 2] rfl (by decide)) hc2) rfl rfl rfl rfl ⟨Nat.le_of_ble_eq_true rfl, Nat.le_of_ble_eq_true rfl⟩ rfl rfl (Nat.le_of_ble_eq_true rfl) ⟨Nat.le_refl _, Nat.le_refl _⟩ rfl ?_
        cases hf
        exact E.iret dX11_of_32 (Nat.le_refl _) (Nat.le_refl _) (pD_rf _ _ _)
      · have hf := e_iff hf h
        refine E.iconst (v := -1) dX11_of_21 (by decide) ?_
        cases hf
        exact E.iret dX11_of_22 (Nat.le_refl _) (Nat.le_refl _) (pD_rf _ _ _)
set_option maxRecDepth 100000 in
theorem mX11_of {G : GT} {b : Nat} {c0 : Hp} {n : Nat} (hw : e_wf (kW8) n) {v0_faultPlace : Int32} {v0_quashedRows : Int32} {v0_lastRefusal : Int32} {v1_meals : Int32} {v1_seats : Int32} {v1_laws : Int32} {v1_inForce : Int32} {v1_beasts : Int32} {a2 : Nat → Int32} {x1 : Int32} {x2 : Int32} {R : Int32} (hf : fX11_of v1_beasts a2 x1 x2 = some R) : e_C G b yX11_of cX11_of 3 (some .int) 1 0 0 [.ref (b + 0), .int x1, .int x2] (e_ov (kW8) (wW8 G b v0_faultPlace v0_quashedRows v0_lastRefusal v1_beasts v1_meals v1_seats v1_laws v1_inForce a2) c0) n (pD (some (.int R)) (e_ov (kW8) (wW8 G b v0_faultPlace v0_quashedRows v0_lastRefusal v1_beasts v1_meals v1_seats v1_laws v1_inForce a2) c0) n) := e_C.of (by decide) (Nat.le_of_ble_eq_true rfl) (tX11_of hw hf)
def fX11_isHour_L14 : Option (Int32) := some (0)
set_option maxHeartbeats 4000000 in
set_option maxRecDepth 100000 in
theorem tX11_isHour_L14 {G : GT} {b : Nat} {c : Hp} {n : Nat}  {R : Int32} (hf : fX11_isHour_L14 = some R) : E G b yX11_isHour cX11_isHour 1 (some .boolean) (e_rm 0 0 0) e_X0 (e_Z G b (pD (some (.int R)) c n) 0 0) 14 [] [] c n 0 0 := by
  unfold fX11_isHour_L14 at hf
  refine E.iconst (v := 0) dX11_isHour_14 (by decide) ?_
  cases hf
  exact E.zret dX11_isHour_15 rfl (Nat.le_refl _) (Nat.le_refl _) (pD_rf _ _ _)
def fX11_isHour (x0 : Int32) : Option (Int32) := if (x0 : Int32) < (0 : Int32) then (fX11_isHour_L14) else (if (24 : Int32) ≤ (x0 : Int32) then (fX11_isHour_L14) else (some (1)))
set_option maxHeartbeats 4000000 in
set_option maxRecDepth 100000 in
theorem tX11_isHour {G : GT} {b : Nat} {c : Hp} {n : Nat} {x0 : Int32} {R : Int32} (hf : fX11_isHour x0 = some R) : E G b yX11_isHour cX11_isHour 1 (some .boolean) (e_rm 0 0 0) e_X0 (e_Z G b (pD (some (.int R)) c n) 0 0) 0 [(0, .int x0)] [] c n 0 0 := by
  unfold fX11_isHour at hf
  refine E.iload_n 0 dX11_isHour_0 rfl ?_
  refine E.if_lt dX11_isHour_1 (fun h => ?_) (fun h => ?_)
  · have hf := e_ift hf h
    refine E.locals [] rfl ?_
    exact tX11_isHour_L14 hf
  · have hf := e_iff hf h
    refine E.iload_n 0 dX11_isHour_4 rfl ?_
    refine E.bipush (v := 24) dX11_isHour_5 (by decide) ?_
    refine E.icmp_ge dX11_isHour_7 (fun h => ?_) (fun h => ?_)
    · have hf := e_ift hf h
      refine E.locals [] rfl ?_
      exact tX11_isHour_L14 hf
    · have hf := e_iff hf h
      refine E.iconst (v := 1) dX11_isHour_10 (by decide) ?_
      refine E.goto dX11_isHour_11 ?_
      cases hf
      exact E.zret dX11_isHour_15 rfl (Nat.le_refl _) (Nat.le_refl _) (pD_rf _ _ _)
set_option maxRecDepth 100000 in
theorem mX11_isHour {G : GT} {b : Nat} {c : Hp} {n : Nat} {x0 : Int32} {R : Int32} (hf : fX11_isHour x0 = some R) : e_C G b yX11_isHour cX11_isHour 1 (some .boolean) 0 0 0 [.int x0] c n (pD (some (.int R)) c n) := e_C.of (by decide) (Nat.le_of_ble_eq_true rfl) (tX11_isHour hf)
abbrev kW9 : List Nat := [0, 1, 3, 42, 78]
abbrev wW9 (G : GT) (b  : Nat) (v0_faultPlace : Int32) (v0_quashedRows : Int32) (v0_lastRefusal : Int32) (v1_beasts : Int32) (v1_meals : Int32) (v1_seats : Int32) (v1_laws : Int32) (v1_inForce : Int32) (a3 : Nat → Int32) (v42_beasts : Int32) (v42_seats : Int32) (v42_seated : Int32) (v42_quota : Int32) (v42_known : Int32) (v42_surveyed : Int32) (v42_steadyBench : Int32) (v42_steadyWays : Int32) (v42_steadySwing : Int64) (a78 : Nat → Int32) : List va_E := [.inr (11, [.ref (b + 1), .ref (b + 10), .ref (b + 29), .ref (b + 30), .ref (b + 32), .ref (b + 37), .ref (b + 40), .ref (b + 42), .ref (b + 69), .ref (b + 73), .ref (b + 74), .ref (b + 76), .ref (b + 78), .int v0_faultPlace, .int v0_quashedRows, .int v0_lastRefusal]), .inr (10, [.ref (b + 2), .ref (b + 3), .ref (b + 4), .ref (b + 5), .ref (b + 6), .int v1_beasts, .int v1_meals, .int v1_seats, .int v1_laws, .int v1_inForce]), aI G 8 a3, .inr (1, [.ref (b + 43), .ref (b + 44), .ref (b + 45), .ref (b + 46), .ref (b + 47), .ref (b + 48), .ref (b + 49), .ref (b + 50), .ref (b + 67), .int v42_beasts, .int v42_seats, .int v42_seated, .int v42_quota, .int v42_known, .int v42_surveyed, .int v42_steadyBench, .int v42_steadyWays, .long v42_steadySwing]), aI G 7 a78]
def fX11_meal (v0_lastRefusal : Int32) (v1_beasts : Int32) (v1_meals : Int32) (a3 : Nat → Int32) (v42_known : Int32) (a78 : Nat → Int32) (x1 : Int32) (x2 : Int32) : Option (Int32 × Int32 × Int32 × (Nat → Int32) × Int32 × (Nat → Int32)) := (fX11_isHour x2).bind fun r1 => (if (r1 : Int32) = (0 : Int32) then ((fX11_refuse v0_lastRefusal a78 (-1 : Int32)).bind fun r8 => (some (r8.1, r8.2.1, v1_meals, a3, v42_known, r8.2.2))) else ((fX10_hasBeast v1_beasts x1).bind fun r2 => (if (r2 : Int32) = (0 : Int32) then ((fX11_refuse v0_lastRefusal a78 (-2 : Int32)).bind fun r7 => (some (r7.1, r7.2.1, v1_meals, a3, v42_known, r7.2.2))) else (if (v1_meals : Int32) < (24 : Int32) then (gd x1 8 (gd x1 8 ((fX11_accept v0_lastRefusal v42_known (v1_meals + 1)).bind fun r5 => (some (r5.1, r5.2.1, (v1_meals + 1), (va_up a3 (x1 : Int32).toNatClampNeg ((a3 (x1 : Int32).toNatClampNeg) ||| ((1 : Int32) <<< ((x2 : Int32) &&& 31)))), r5.2.2, a78))))) else ((fX11_refuse v0_lastRefusal a78 (-5 : Int32)).bind fun r6 => (some (r6.1, r6.2.1, v1_meals, a3, v42_known, r6.2.2)))))))
set_option maxHeartbeats 4000000 in
set_option maxRecDepth 100000 in
theorem tX11_meal {G : GT} {b : Nat} {c0 : Hp} {n : Nat} (hw : e_wf (kW9) n) {v0_faultPlace : Int32} {v0_quashedRows : Int32} {v1_seats : Int32} {v1_laws : Int32} {v1_inForce : Int32} {v42_beasts : Int32} {v42_seats : Int32} {v42_seated : Int32} {v42_quota : Int32} {v42_surveyed : Int32} {v42_steadyBench : Int32} {v42_steadyWays : Int32} {v42_steadySwing : Int64} {v0_lastRefusal : Int32} {v1_beasts : Int32} {v1_meals : Int32} {a3 : Nat → Int32} {v42_known : Int32} {a78 : Nat → Int32} {x1 : Int32} {x2 : Int32} {R : Int32 × Int32 × Int32 × (Nat → Int32) × Int32 × (Nat → Int32)} (hf : fX11_meal v0_lastRefusal v1_beasts v1_meals a3 v42_known a78 x1 x2 = some R) : E G b yX11_meal cX11_meal 3 (some .int) (e_rm 2 0 0) e_X0 (e_Z G b (pD (some (.int R.1)) (e_ov (kW9) (wW9 G b v0_faultPlace v0_quashedRows R.2.1 v1_beasts R.2.2.1 v1_seats v1_laws v1_inForce R.2.2.2.1 v42_beasts v42_seats v42_seated v42_quota R.2.2.2.2.1 v42_surveyed v42_steadyBench v42_steadyWays v42_steadySwing R.2.2.2.2.2) c0) n) 0 0) 0 [(0, .ref (b + 0)), (1, .int x1), (2, .int x2)] [] (e_ov (kW9) (wW9 G b v0_faultPlace v0_quashedRows v0_lastRefusal v1_beasts v1_meals v1_seats v1_laws v1_inForce a3 v42_beasts v42_seats v42_seated v42_quota v42_known v42_surveyed v42_steadyBench v42_steadyWays v42_steadySwing a78) c0) n 0 0 := by
  unfold fX11_meal at hf
  refine E.iload_n 2 dX11_meal_0 rfl ?_
  obtain ⟨r1, hc1, hf⟩ := e_bind hf
  refine E.callSD [] dX11_meal_1 mlX11_119 (mX11_isHour hc1) ⟨Nat.le_of_ble_eq_true rfl, Nat.le_of_ble_eq_true rfl⟩ rfl rfl (Nat.le_of_ble_eq_true rfl) ⟨Nat.le_refl _, Nat.le_refl _⟩ rfl ?_
  refine E.if_ne dX11_meal_4 (fun h => ?_) (fun h => ?_)
  · have hf := e_iff hf h
    refine E.aload_n 0 dX11_meal_13 rfl ?_
    refine E.get hw 0 0 dX11_meal_14 flX11_10 rfl rfl rfl rfl ?_
    refine E.iload_n 1 dX11_meal_17 rfl ?_
    obtain ⟨r2, hc2, hf⟩ := e_bind hf
    refine E.callVDs (es' := (wW9 G b v0_faultPlace v0_quashedRows v0_lastRefusal v1_beasts v1_meals v1_seats v1_laws v1_inForce a3 v42_beasts v42_seats v42_seated v42_quota v42_known v42_surveyed v42_steadyBench v42_steadyWays v42_steadySwing a78)) [] [1] 1 1 dX11_meal_18 mlX11_111 hw rfl rfl rfl rfl (mX10_hasBeast (hw.pick2 [1] rfl (by decide)) hc2) rfl rfl rfl rfl ⟨Nat.le_of_ble_eq_true rfl, Nat.le_of_ble_eq_true rfl⟩ rfl rfl (Nat.le_of_ble_eq_true rfl) ⟨Nat.le_refl _, Nat.le_refl _⟩ rfl ?_
    refine E.if_ne dX11_meal_21 (fun h => ?_) (fun h => ?_)
    · have hf := e_iff hf h
      refine E.aload_n 0 dX11_meal_31 rfl ?_
      refine E.get hw 0 0 dX11_meal_32 flX11_10 rfl rfl rfl rfl ?_
      refine E.getN hw 1 1 dX11_meal_35 fnX11_122 rfl rfl rfl rfl ?_
      refine E.bipush (v := 24) dX11_meal_38 (by decide) ?_
      refine E.icmp_lt dX11_meal_40 (fun h => ?_) (fun h => ?_)
      · have hf := e_ift hf h
        refine E.aload_n 0 dX11_meal_50 rfl ?_
        refine E.get hw 0 0 dX11_meal_51 flX11_10 rfl rfl rfl rfl ?_
        refine E.getN hw 1 1 dX11_meal_54 fnX11_125 rfl rfl rfl rfl ?_
        refine E.iload_n 1 dX11_meal_57 rfl ?_
        refine E.dup2_11 dX11_meal_58 rfl rfl ?_
        obtain ⟨g3, hf⟩ := gd_some hf
        refine E.iald hw 2 3 dX11_meal_59 rfl rfl g3 ?_
        refine E.iconst (v := 1) dX11_meal_60 (by decide) ?_
        refine E.iload_n 2 dX11_meal_61 rfl ?_
        refine E.ishl dX11_meal_62 ?_
        refine E.ior dX11_meal_63 ?_
        obtain ⟨g4, hf⟩ := gd_some hf
        refine E.iast (es' := (wW9 G b v0_faultPlace v0_quashedRows v0_lastRefusal v1_beasts v1_meals v1_seats v1_laws v1_inForce (va_up a3 (x1 : Int32).toNatClampNeg ((a3 (x1 : Int32).toNatClampNeg) ||| ((1 : Int32) <<< ((x2 : Int32) &&& 31)))) v42_beasts v42_seats v42_seated v42_quota v42_known v42_surveyed v42_steadyBench v42_steadyWays v42_steadySwing a78)) hw 2 3 dX11_meal_64 rfl rfl g4 rfl ?_
        refine E.aload_n 0 dX11_meal_65 rfl ?_
        refine E.get hw 0 0 dX11_meal_66 flX11_10 rfl rfl rfl rfl ?_
        refine E.dup dX11_meal_69 rfl ?_
        refine E.getN hw 1 1 dX11_meal_70 fnX11_122 rfl rfl rfl rfl ?_
        refine E.iconst (v := 1) dX11_meal_73 (by decide) ?_
        refine E.iadd dX11_meal_74 ?_
        refine E.putN (es' := (wW9 G b v0_faultPlace v0_quashedRows v0_lastRefusal v1_beasts (v1_meals + 1) v1_seats v1_laws v1_inForce (va_up a3 (x1 : Int32).toNatClampNeg ((a3 (x1 : Int32).toNatClampNeg) ||| ((1 : Int32) <<< ((x2 : Int32) &&& 31)))) v42_beasts v42_seats v42_seated v42_quota v42_known v42_surveyed v42_steadyBench v42_steadyWays v42_steadySwing a78)) hw 1 1 dX11_meal_75 fnX11_122 ftX10 rfl rfl rfl rfl rfl rfl (Nat.le_of_ble_eq_true rfl) rfl ?_
        refine E.aload_n 0 dX11_meal_78 rfl ?_
        refine E.aload_n 0 dX11_meal_79 rfl ?_
        refine E.get hw 0 0 dX11_meal_80 flX11_10 rfl rfl rfl rfl ?_
        refine E.getN hw 1 1 dX11_meal_83 fnX11_122 rfl rfl rfl rfl ?_
        obtain ⟨r5, hc5, hf⟩ := e_bind hf
        refine E.callVDs (es' := (wW9 G b v0_faultPlace v0_quashedRows r5.2.1 v1_beasts (v1_meals + 1) v1_seats v1_laws v1_inForce (va_up a3 (x1 : Int32).toNatClampNeg ((a3 (x1 : Int32).toNatClampNeg) ||| ((1 : Int32) <<< ((x2 : Int32) &&& 31)))) v42_beasts v42_seats v42_seated v42_quota r5.2.2 v42_surveyed v42_steadyBench v42_steadyWays v42_steadySwing a78)) [] [0, 3] 0 0 dX11_meal_86 mlX11_108 hw rfl rfl rfl rfl (mX11_accept (hw.pick2 [0, 3] rfl (by decide)) hc5) rfl rfl rfl rfl ⟨Nat.le_of_ble_eq_true rfl, Nat.le_of_ble_eq_true rfl⟩ rfl rfl (Nat.le_of_ble_eq_true rfl) ⟨Nat.le_refl _, Nat.le_refl _⟩ rfl ?_
        cases hf
        exact E.iret dX11_meal_89 (Nat.le_refl _) (Nat.le_refl _) (pD_rf _ _ _)
      · have hf := e_iff hf h
        refine E.aload_n 0 dX11_meal_43 rfl ?_
        refine E.bipush (v := -5) dX11_meal_44 (by decide) ?_
        obtain ⟨r6, hc6, hf⟩ := e_bind hf
        refine E.callVDs (es' := (wW9 G b v0_faultPlace v0_quashedRows r6.2.1 v1_beasts v1_meals v1_seats v1_laws v1_inForce a3 v42_beasts v42_seats v42_seated v42_quota v42_known v42_surveyed v42_steadyBench v42_steadyWays v42_steadySwing r6.2.2)) [] [0, 4] 0 0 dX11_meal_46 mlX11_97 hw rfl rfl rfl rfl (mX11_refuse (hw.pick2 [0, 4] rfl (by decide)) hc6) rfl rfl rfl rfl ⟨Nat.le_of_ble_eq_true rfl, Nat.le_of_ble_eq_true rfl⟩ rfl rfl (Nat.le_of_ble_eq_true rfl) ⟨Nat.le_refl _, Nat.le_refl _⟩ rfl ?_
        cases hf
        exact E.iret dX11_meal_49 (Nat.le_refl _) (Nat.le_refl _) (pD_rf _ _ _)
    · have hf := e_ift hf h
      refine E.aload_n 0 dX11_meal_24 rfl ?_
      refine E.bipush (v := -2) dX11_meal_25 (by decide) ?_
      obtain ⟨r7, hc7, hf⟩ := e_bind hf
      refine E.callVDs (es' := (wW9 G b v0_faultPlace v0_quashedRows r7.2.1 v1_beasts v1_meals v1_seats v1_laws v1_inForce a3 v42_beasts v42_seats v42_seated v42_quota v42_known v42_surveyed v42_steadyBench v42_steadyWays v42_steadySwing r7.2.2)) [] [0, 4] 0 0 dX11_meal_27 mlX11_97 hw rfl rfl rfl rfl (mX11_refuse (hw.pick2 [0, 4] rfl (by decide)) hc7) rfl rfl rfl rfl ⟨Nat.le_of_ble_eq_true rfl, Nat.le_of_ble_eq_true rfl⟩ rfl rfl (Nat.le_of_ble_eq_true rfl) ⟨Nat.le_refl _, Nat.le_refl _⟩ rfl ?_
      cases hf
      exact E.iret dX11_meal_30 (Nat.le_refl _) (Nat.le_refl _) (pD_rf _ _ _)
  · have hf := e_ift hf h
    refine E.aload_n 0 dX11_meal_7 rfl ?_
    refine E.iconst (v := -1) dX11_meal_8 (by decide) ?_
    obtain ⟨r8, hc8, hf⟩ := e_bind hf
    refine E.callVDs (es' := (wW9 G b v0_faultPlace v0_quashedRows r8.2.1 v1_beasts v1_meals v1_seats v1_laws v1_inForce a3 v42_beasts v42_seats v42_seated v42_quota v42_known v42_surveyed v42_steadyBench v42_steadyWays v42_steadySwing r8.2.2)) [] [0, 4] 0 0 dX11_meal_9 mlX11_97 hw rfl rfl rfl rfl (mX11_refuse (hw.pick2 [0, 4] rfl (by decide)) hc8) rfl rfl rfl rfl ⟨Nat.le_of_ble_eq_true rfl, Nat.le_of_ble_eq_true rfl⟩ rfl rfl (Nat.le_of_ble_eq_true rfl) ⟨Nat.le_refl _, Nat.le_refl _⟩ rfl ?_
    cases hf
    exact E.iret dX11_meal_12 (Nat.le_refl _) (Nat.le_refl _) (pD_rf _ _ _)
set_option maxRecDepth 100000 in
theorem mX11_meal {G : GT} {b : Nat} {c0 : Hp} {n : Nat} (hw : e_wf (kW9) n) {v0_faultPlace : Int32} {v0_quashedRows : Int32} {v1_seats : Int32} {v1_laws : Int32} {v1_inForce : Int32} {v42_beasts : Int32} {v42_seats : Int32} {v42_seated : Int32} {v42_quota : Int32} {v42_surveyed : Int32} {v42_steadyBench : Int32} {v42_steadyWays : Int32} {v42_steadySwing : Int64} {v0_lastRefusal : Int32} {v1_beasts : Int32} {v1_meals : Int32} {a3 : Nat → Int32} {v42_known : Int32} {a78 : Nat → Int32} {x1 : Int32} {x2 : Int32} {R : Int32 × Int32 × Int32 × (Nat → Int32) × Int32 × (Nat → Int32)} (hf : fX11_meal v0_lastRefusal v1_beasts v1_meals a3 v42_known a78 x1 x2 = some R) : e_C G b yX11_meal cX11_meal 3 (some .int) 2 0 0 [.ref (b + 0), .int x1, .int x2] (e_ov (kW9) (wW9 G b v0_faultPlace v0_quashedRows v0_lastRefusal v1_beasts v1_meals v1_seats v1_laws v1_inForce a3 v42_beasts v42_seats v42_seated v42_quota v42_known v42_surveyed v42_steadyBench v42_steadyWays v42_steadySwing a78) c0) n (pD (some (.int R.1)) (e_ov (kW9) (wW9 G b v0_faultPlace v0_quashedRows R.2.1 v1_beasts R.2.2.1 v1_seats v1_laws v1_inForce R.2.2.2.1 v42_beasts v42_seats v42_seated v42_quota R.2.2.2.2.1 v42_surveyed v42_steadyBench v42_steadyWays v42_steadySwing R.2.2.2.2.2) c0) n) := e_C.of (by decide) (Nat.le_of_ble_eq_true rfl) (tX11_meal hw hf)
abbrev kW10 (t : Nat) : List Nat := [t]
abbrev wW10 (G : GT) (b t Ln : Nat) (aF : Nat → Int32) : List va_E := [aI G Ln aF]
def fJ7_fill_53178_L5 (Fu : Nat) (Ln : Nat) : Nat → (Nat → Int32) → Int32 → Int32 → Int32 → Option ((Nat → Int32))
  | 0, _, _, _, _ => none
  | k + 1, aF, x1, x2, x3 => if (x3 : Int32) ≤ (x2 : Int32) then (some (aF)) else (gd x2 Ln ((fJ7_fill_53178_L5 Fu Ln k) (va_up aF (x2 : Int32).toNatClampNeg x1) x1 (x2 + 1) x3))
set_option maxHeartbeats 4000000 in
set_option maxRecDepth 100000 in
theorem tJ7_fill_53178_L5 {G : GT} {b : Nat} {t Ln : Nat} {c0 : Hp} {n : Nat} (hw : e_wf (kW10 t) n)  {Fu : Nat} : ∀ (k : Nat) {aF : Nat → Int32} {x1 : Int32} {x2 : Int32} {x3 : Int32} {R : (Nat → Int32)}, fJ7_fill_53178_L5 Fu Ln k aF x1 x2 x3 = some R → E G b yJ7_fill_53178 cJ7_fill_53178 4 none (e_rm 0 0 0) e_X0 (e_Z G b (pD none (e_ov (kW10 t) (wW10 G b t Ln R) c0) n) 0 0) 5 [(0, .ref (b + t)), (1, .int x1), (2, .int x2), (3, .int x3)] [] (e_ov (kW10 t) (wW10 G b t Ln aF) c0) n 0 0 := by
  intro k
  induction k with
  | zero =>
    intro _ _ _ _ _ hf
    have hf : (none : Option ((Nat → Int32))) = some _ := hf
    cases hf
  | succ k ih =>
    intro aF x1 x2 x3 R hf
    rw [fJ7_fill_53178_L5] at hf
    refine E.iload_n 2 dJ7_fill_53178_5 rfl ?_
    refine E.iload_n 3 dJ7_fill_53178_6 rfl ?_
    refine E.icmp_ge dJ7_fill_53178_7 (fun h => ?_) (fun h => ?_)
    · have hf := e_ift hf h
      cases hf
      exact E.vret dJ7_fill_53178_20 (Nat.le_refl _) (Nat.le_refl _) (pD_rf _ _ _)
    · have hf := e_iff hf h
      refine E.aload_n 0 dJ7_fill_53178_10 rfl ?_
      refine E.iload_n 2 dJ7_fill_53178_11 rfl ?_
      refine E.iload_n 1 dJ7_fill_53178_12 rfl ?_
      obtain ⟨g1, hf⟩ := gd_some hf
      refine E.iast (es' := (wW10 G b t Ln (va_up aF (x2 : Int32).toNatClampNeg x1))) hw 0 t dJ7_fill_53178_13 rfl rfl g1 rfl ?_
      refine E.iinc (q := 2) (v := (x2 + 1)) (lv' := [(2, .int (x2 + 1)), (0, .ref (b + t)), (1, .int x1), (3, .int x3)]) dJ7_fill_53178_14 rfl rfl (by decide) rfl ?_
      refine E.goto dJ7_fill_53178_17 ?_
      refine E.locals [1, 2, 0, 3] rfl ?_
      exact ih hf
def fJ7_fill_53178 (Fu : Nat) (Ln : Nat) (aF : Nat → Int32) (x1 : Int32) : Option ((Nat → Int32)) := fJ7_fill_53178_L5 Fu Ln Fu aF x1 0 (Int32.ofNat Ln)
set_option maxHeartbeats 4000000 in
set_option maxRecDepth 100000 in
theorem tJ7_fill_53178 {G : GT} {b : Nat} {t Ln : Nat} {c0 : Hp} {n : Nat} (hw : e_wf (kW10 t) n)  {Fu : Nat} {aF : Nat → Int32} {x1 : Int32} {R : (Nat → Int32)} (hf : fJ7_fill_53178 Fu Ln aF x1 = some R) : E G b yJ7_fill_53178 cJ7_fill_53178 4 none (e_rm 0 0 0) e_X0 (e_Z G b (pD none (e_ov (kW10 t) (wW10 G b t Ln R) c0) n) 0 0) 0 [(0, .ref (b + t)), (1, .int x1)] [] (e_ov (kW10 t) (wW10 G b t Ln aF) c0) n 0 0 := by
  unfold fJ7_fill_53178 at hf
  refine E.iconst (v := 0) dJ7_fill_53178_0 (by decide) ?_
  refine E.istore_n (lv' := [(2, .int 0), (0, .ref (b + t)), (1, .int x1)]) dJ7_fill_53178_1 (by decide) rfl ?_
  refine E.aload_n 1 dJ7_fill_53178_2 rfl ?_
  refine E.alen (z := (Int32.ofNat Ln)) hw 0 t 0 dJ7_fill_53178_3 rfl rfl rfl rfl ?_
  refine E.istore_n (lv' := [(3, .int (Int32.ofNat Ln)), (2, .int 0), (0, .ref (b + t)), (1, .int x1)]) dJ7_fill_53178_4 (by decide) rfl ?_
  refine E.locals [2, 3, 1, 0] rfl ?_
  exact tJ7_fill_53178_L5 hw _ hf
set_option maxRecDepth 100000 in
theorem mJ7_fill_53178 {G : GT} {b : Nat} {t Ln : Nat} {c0 : Hp} {n : Nat} (hw : e_wf (kW10 t) n)  {Fu : Nat} {aF : Nat → Int32} {x1 : Int32} {R : (Nat → Int32)} (hf : fJ7_fill_53178 Fu Ln aF x1 = some R) : e_C G b yJ7_fill_53178 cJ7_fill_53178 4 none 0 0 0 [.ref (b + t), .int x1] (e_ov (kW10 t) (wW10 G b t Ln aF) c0) n (pD none (e_ov (kW10 t) (wW10 G b t Ln R) c0) n) := e_C.of (by decide) (Nat.le_of_ble_eq_true rfl) (tJ7_fill_53178 hw hf)
abbrev kW11 : List Nat := [0, 1, 3, 42]
abbrev wW11 (G : GT) (b  : Nat) (v0_faultPlace : Int32) (v0_quashedRows : Int32) (v0_lastRefusal : Int32) (v1_beasts : Int32) (v1_meals : Int32) (v1_seats : Int32) (v1_laws : Int32) (v1_inForce : Int32) (a3 : Nat → Int32) (v42_beasts : Int32) (v42_seats : Int32) (v42_seated : Int32) (v42_quota : Int32) (v42_known : Int32) (v42_surveyed : Int32) (v42_steadyBench : Int32) (v42_steadyWays : Int32) (v42_steadySwing : Int64) : List va_E := [.inr (11, [.ref (b + 1), .ref (b + 10), .ref (b + 29), .ref (b + 30), .ref (b + 32), .ref (b + 37), .ref (b + 40), .ref (b + 42), .ref (b + 69), .ref (b + 73), .ref (b + 74), .ref (b + 76), .ref (b + 78), .int v0_faultPlace, .int v0_quashedRows, .int v0_lastRefusal]), .inr (10, [.ref (b + 2), .ref (b + 3), .ref (b + 4), .ref (b + 5), .ref (b + 6), .int v1_beasts, .int v1_meals, .int v1_seats, .int v1_laws, .int v1_inForce]), aI G 8 a3, .inr (1, [.ref (b + 43), .ref (b + 44), .ref (b + 45), .ref (b + 46), .ref (b + 47), .ref (b + 48), .ref (b + 49), .ref (b + 50), .ref (b + 67), .int v42_beasts, .int v42_seats, .int v42_seated, .int v42_quota, .int v42_known, .int v42_surveyed, .int v42_steadyBench, .int v42_steadyWays, .long v42_steadySwing])]
def fX11_fast (Fu : Nat) (v1_meals : Int32) (a3 : Nat → Int32) (v42_known : Int32) : Option (Int32 × Int32 × (Nat → Int32) × Int32) := (fJ7_fill_53178 Fu 8 a3 0).bind fun r1 => ((fX1_forget v42_known).bind fun r2 => (some (v1_meals, 0, r1, r2)))
set_option maxHeartbeats 4000000 in
set_option maxRecDepth 100000 in
theorem tX11_fast {G : GT} {b : Nat} {c0 : Hp} {n : Nat} (hw : e_wf (kW11) n) {v0_faultPlace : Int32} {v0_quashedRows : Int32} {v0_lastRefusal : Int32} {v1_beasts : Int32} {v1_seats : Int32} {v1_laws : Int32} {v1_inForce : Int32} {v42_beasts : Int32} {v42_seats : Int32} {v42_seated : Int32} {v42_quota : Int32} {v42_surveyed : Int32} {v42_steadyBench : Int32} {v42_steadyWays : Int32} {v42_steadySwing : Int64} {Fu : Nat} {v1_meals : Int32} {a3 : Nat → Int32} {v42_known : Int32} {R : Int32 × Int32 × (Nat → Int32) × Int32} (hf : fX11_fast Fu v1_meals a3 v42_known = some R) : E G b yX11_fast cX11_fast 2 (some .int) (e_rm 1 0 0) e_X0 (e_Z G b (pD (some (.int R.1)) (e_ov (kW11) (wW11 G b v0_faultPlace v0_quashedRows v0_lastRefusal v1_beasts R.2.1 v1_seats v1_laws v1_inForce R.2.2.1 v42_beasts v42_seats v42_seated v42_quota R.2.2.2 v42_surveyed v42_steadyBench v42_steadyWays v42_steadySwing) c0) n) 0 0) 0 [(0, .ref (b + 0))] [] (e_ov (kW11) (wW11 G b v0_faultPlace v0_quashedRows v0_lastRefusal v1_beasts v1_meals v1_seats v1_laws v1_inForce a3 v42_beasts v42_seats v42_seated v42_quota v42_known v42_surveyed v42_steadyBench v42_steadyWays v42_steadySwing) c0) n 0 0 := by
  unfold fX11_fast at hf
  refine E.aload_n 0 dX11_fast_0 rfl ?_
  refine E.get hw 0 0 dX11_fast_1 flX11_10 rfl rfl rfl rfl ?_
  refine E.getN hw 1 1 dX11_fast_4 fnX11_122 rfl rfl rfl rfl ?_
  refine E.istore_n (lv' := [(1, .int v1_meals), (0, .ref (b + 0))]) dX11_fast_7 (by decide) rfl ?_
  refine E.aload_n 1 dX11_fast_8 rfl ?_
  refine E.get hw 0 0 dX11_fast_9 flX11_10 rfl rfl rfl rfl ?_
  refine E.iconst (v := 0) dX11_fast_12 (by decide) ?_
  refine E.putN (es' := (wW11 G b v0_faultPlace v0_quashedRows v0_lastRefusal v1_beasts 0 v1_seats v1_laws v1_inForce a3 v42_beasts v42_seats v42_seated v42_quota v42_known v42_surveyed v42_steadyBench v42_steadyWays v42_steadySwing)) hw 1 1 dX11_fast_13 fnX11_122 ftX10 rfl rfl rfl rfl rfl rfl (Nat.le_of_ble_eq_true rfl) rfl ?_
  refine E.aload_n 1 dX11_fast_16 rfl ?_
  refine E.get hw 0 0 dX11_fast_17 flX11_10 rfl rfl rfl rfl ?_
  refine E.getN hw 1 1 dX11_fast_20 fnX11_125 rfl rfl rfl rfl ?_
  refine E.iconst (v := 0) dX11_fast_23 (by decide) ?_
  obtain ⟨r1, hc1, hf⟩ := e_bind hf
  refine E.callSDs (es' := (wW11 G b v0_faultPlace v0_quashedRows v0_lastRefusal v1_beasts 0 v1_seats v1_laws v1_inForce r1 v42_beasts v42_seats v42_seated v42_quota v42_known v42_surveyed v42_steadyBench v42_steadyWays v42_steadySwing)) [] [2] dX11_fast_24 mlX11_128 hw (mJ7_fill_53178 (hw.pick2 [2] rfl (by decide)) hc1) rfl rfl rfl rfl ⟨Nat.le_of_ble_eq_true rfl, Nat.le_of_ble_eq_true rfl⟩ rfl rfl (Nat.le_of_ble_eq_true rfl) ⟨Nat.le_refl _, Nat.le_refl _⟩ rfl ?_
  refine E.aload_n 1 dX11_fast_27 rfl ?_
  refine E.get hw 0 0 dX11_fast_28 flX11_57 rfl rfl rfl rfl ?_
  obtain ⟨r2, hc2, hf⟩ := e_bind hf
  refine E.callVDs (es' := (wW11 G b v0_faultPlace v0_quashedRows v0_lastRefusal v1_beasts 0 v1_seats v1_laws v1_inForce r1 v42_beasts v42_seats v42_seated v42_quota r2 v42_surveyed v42_steadyBench v42_steadyWays v42_steadySwing)) [] [3] 3 42 dX11_fast_31 mlX11_134 hw rfl rfl rfl rfl (mX1_forget (hw.pick2 [3] rfl (by decide)) hc2) rfl rfl rfl rfl ⟨Nat.le_of_ble_eq_true rfl, Nat.le_of_ble_eq_true rfl⟩ rfl rfl (Nat.le_of_ble_eq_true rfl) ⟨Nat.le_refl _, Nat.le_refl _⟩ rfl ?_
  refine E.iload_n 0 dX11_fast_34 rfl ?_
  cases hf
  exact E.iret dX11_fast_35 (Nat.le_refl _) (Nat.le_refl _) (pD_rf _ _ _)
set_option maxRecDepth 100000 in
theorem mX11_fast {G : GT} {b : Nat} {c0 : Hp} {n : Nat} (hw : e_wf (kW11) n) {v0_faultPlace : Int32} {v0_quashedRows : Int32} {v0_lastRefusal : Int32} {v1_beasts : Int32} {v1_seats : Int32} {v1_laws : Int32} {v1_inForce : Int32} {v42_beasts : Int32} {v42_seats : Int32} {v42_seated : Int32} {v42_quota : Int32} {v42_surveyed : Int32} {v42_steadyBench : Int32} {v42_steadyWays : Int32} {v42_steadySwing : Int64} {Fu : Nat} {v1_meals : Int32} {a3 : Nat → Int32} {v42_known : Int32} {R : Int32 × Int32 × (Nat → Int32) × Int32} (hf : fX11_fast Fu v1_meals a3 v42_known = some R) : e_C G b yX11_fast cX11_fast 2 (some .int) 1 0 0 [.ref (b + 0)] (e_ov (kW11) (wW11 G b v0_faultPlace v0_quashedRows v0_lastRefusal v1_beasts v1_meals v1_seats v1_laws v1_inForce a3 v42_beasts v42_seats v42_seated v42_quota v42_known v42_surveyed v42_steadyBench v42_steadyWays v42_steadySwing) c0) n (pD (some (.int R.1)) (e_ov (kW11) (wW11 G b v0_faultPlace v0_quashedRows v0_lastRefusal v1_beasts R.2.1 v1_seats v1_laws v1_inForce R.2.2.1 v42_beasts v42_seats v42_seated v42_quota R.2.2.2 v42_surveyed v42_steadyBench v42_steadyWays v42_steadySwing) c0) n) := e_C.of (by decide) (Nat.le_of_ble_eq_true rfl) (tX11_fast hw hf)
def fJ6_numberOfLeadingZeros_0f7a4_L73 (x0 : Int32) (x1 : Int32) : Option (Int32) := some ((x1 - (((x0 : Int32).toUInt32 >>> ((1 : Int32).toUInt32 &&& Int32.toUInt32 31)).toInt32)))
set_option maxHeartbeats 4000000 in
set_option maxRecDepth 100000 in
theorem tJ6_numberOfLeadingZeros_0f7a4_L73 {G : GT} {b : Nat} {c : Hp} {n : Nat} {x0 : Int32} {x1 : Int32} {R : Int32} (hf : fJ6_numberOfLeadingZeros_0f7a4_L73 x0 x1 = some R) : E G b yJ6_numberOfLeadingZeros_0f7a4 cJ6_numberOfLeadingZeros_0f7a4 2 (some .int) (e_rm 0 0 0) e_X0 (e_Z G b (pD (some (.int R)) c n) 0 0) 73 [(0, .int x0), (1, .int x1)] [] c n 0 0 := by
  unfold fJ6_numberOfLeadingZeros_0f7a4_L73 at hf
  refine E.iload_n 1 dJ6_numberOfLeadingZeros_0f7a4_73 rfl ?_
  refine E.iload_n 0 dJ6_numberOfLeadingZeros_0f7a4_74 rfl ?_
  refine E.iconst (v := 1) dJ6_numberOfLeadingZeros_0f7a4_75 (by decide) ?_
  refine E.iushr dJ6_numberOfLeadingZeros_0f7a4_76 ?_
  refine E.isub dJ6_numberOfLeadingZeros_0f7a4_77 ?_
  cases hf
  exact E.iret dJ6_numberOfLeadingZeros_0f7a4_78 (Nat.le_refl _) (Nat.le_refl _) (pD_rf _ _ _)
def fJ6_numberOfLeadingZeros_0f7a4_L61 (x0 : Int32) (x1 : Int32) : Option (Int32) := if (x0 : Int32) < (4 : Int32) then (fJ6_numberOfLeadingZeros_0f7a4_L73 x0 x1) else (fJ6_numberOfLeadingZeros_0f7a4_L73 (((x0 : Int32).toUInt32 >>> ((2 : Int32).toUInt32 &&& Int32.toUInt32 31)).toInt32) (x1 + (-2 : Int32)))
set_option maxHeartbeats 4000000 in
set_option maxRecDepth 100000 in
theorem tJ6_numberOfLeadingZeros_0f7a4_L61 {G : GT} {b : Nat} {c : Hp} {n : Nat} {x0 : Int32} {x1 : Int32} {R : Int32} (hf : fJ6_numberOfLeadingZeros_0f7a4_L61 x0 x1 = some R) : E G b yJ6_numberOfLeadingZeros_0f7a4 cJ6_numberOfLeadingZeros_0f7a4 2 (some .int) (e_rm 0 0 0) e_X0 (e_Z G b (pD (some (.int R)) c n) 0 0) 61 [(0, .int x0), (1, .int x1)] [] c n 0 0 := by
  unfold fJ6_numberOfLeadingZeros_0f7a4_L61 at hf
  refine E.iload_n 0 dJ6_numberOfLeadingZeros_0f7a4_61 rfl ?_
  refine E.iconst (v := 4) dJ6_numberOfLeadingZeros_0f7a4_62 (by decide) ?_
  refine E.icmp_lt dJ6_numberOfLeadingZeros_0f7a4_63 (fun h => ?_) (fun h => ?_)
  · have hf := e_ift hf h
    exact tJ6_numberOfLeadingZeros_0f7a4_L73 hf
  · have hf := e_iff hf h
    refine E.iinc (q := 1) (v := (x1 + (-2 : Int32))) (lv' := [(1, .int (x1 + (-2 : Int32))), (0, .int x0)]) dJ6_numberOfLeadingZeros_0f7a4_66 rfl rfl (by decide) rfl ?_
    refine E.iload_n 1 dJ6_numberOfLeadingZeros_0f7a4_69 rfl ?_
    refine E.iconst (v := 2) dJ6_numberOfLeadingZeros_0f7a4_70 (by decide) ?_
    refine E.iushr dJ6_numberOfLeadingZeros_0f7a4_71 ?_
    refine E.istore_n (lv' := [(0, .int (((x0 : Int32).toUInt32 >>> ((2 : Int32).toUInt32 &&& Int32.toUInt32 31)).toInt32)), (1, .int (x1 + (-2 : Int32)))]) dJ6_numberOfLeadingZeros_0f7a4_72 (by decide) rfl ?_
    exact tJ6_numberOfLeadingZeros_0f7a4_L73 hf
def fJ6_numberOfLeadingZeros_0f7a4_L48 (x0 : Int32) (x1 : Int32) : Option (Int32) := if (x0 : Int32) < (16 : Int32) then (fJ6_numberOfLeadingZeros_0f7a4_L61 x0 x1) else (fJ6_numberOfLeadingZeros_0f7a4_L61 (((x0 : Int32).toUInt32 >>> ((4 : Int32).toUInt32 &&& Int32.toUInt32 31)).toInt32) (x1 + (-4 : Int32)))
set_option maxHeartbeats 4000000 in
set_option maxRecDepth 100000 in
theorem tJ6_numberOfLeadingZeros_0f7a4_L48 {G : GT} {b : Nat} {c : Hp} {n : Nat} {x0 : Int32} {x1 : Int32} {R : Int32} (hf : fJ6_numberOfLeadingZeros_0f7a4_L48 x0 x1 = some R) : E G b yJ6_numberOfLeadingZeros_0f7a4 cJ6_numberOfLeadingZeros_0f7a4 2 (some .int) (e_rm 0 0 0) e_X0 (e_Z G b (pD (some (.int R)) c n) 0 0) 48 [(0, .int x0), (1, .int x1)] [] c n 0 0 := by
  unfold fJ6_numberOfLeadingZeros_0f7a4_L48 at hf
  refine E.iload_n 0 dJ6_numberOfLeadingZeros_0f7a4_48 rfl ?_
  refine E.bipush (v := 16) dJ6_numberOfLeadingZeros_0f7a4_49 (by decide) ?_
  refine E.icmp_lt dJ6_numberOfLeadingZeros_0f7a4_51 (fun h => ?_) (fun h => ?_)
  · have hf := e_ift hf h
    exact tJ6_numberOfLeadingZeros_0f7a4_L61 hf
  · have hf := e_iff hf h
    refine E.iinc (q := 1) (v := (x1 + (-4 : Int32))) (lv' := [(1, .int (x1 + (-4 : Int32))), (0, .int x0)]) dJ6_numberOfLeadingZeros_0f7a4_54 rfl rfl (by decide) rfl ?_
    refine E.iload_n 1 dJ6_numberOfLeadingZeros_0f7a4_57 rfl ?_
    refine E.iconst (v := 4) dJ6_numberOfLeadingZeros_0f7a4_58 (by decide) ?_
    refine E.iushr dJ6_numberOfLeadingZeros_0f7a4_59 ?_
    refine E.istore_n (lv' := [(0, .int (((x0 : Int32).toUInt32 >>> ((4 : Int32).toUInt32 &&& Int32.toUInt32 31)).toInt32)), (1, .int (x1 + (-4 : Int32)))]) dJ6_numberOfLeadingZeros_0f7a4_60 (by decide) rfl ?_
    exact tJ6_numberOfLeadingZeros_0f7a4_L61 hf
def fJ6_numberOfLeadingZeros_0f7a4_L33 (x0 : Int32) (x1 : Int32) : Option (Int32) := if (x0 : Int32) < (256 : Int32) then (fJ6_numberOfLeadingZeros_0f7a4_L48 x0 x1) else (fJ6_numberOfLeadingZeros_0f7a4_L48 (((x0 : Int32).toUInt32 >>> ((8 : Int32).toUInt32 &&& Int32.toUInt32 31)).toInt32) (x1 + (-8 : Int32)))
set_option maxHeartbeats 4000000 in
set_option maxRecDepth 100000 in
theorem tJ6_numberOfLeadingZeros_0f7a4_L33 {G : GT} {b : Nat} {c : Hp} {n : Nat} {x0 : Int32} {x1 : Int32} {R : Int32} (hf : fJ6_numberOfLeadingZeros_0f7a4_L33 x0 x1 = some R) : E G b yJ6_numberOfLeadingZeros_0f7a4 cJ6_numberOfLeadingZeros_0f7a4 2 (some .int) (e_rm 0 0 0) e_X0 (e_Z G b (pD (some (.int R)) c n) 0 0) 33 [(0, .int x0), (1, .int x1)] [] c n 0 0 := by
  unfold fJ6_numberOfLeadingZeros_0f7a4_L33 at hf
  refine E.iload_n 0 dJ6_numberOfLeadingZeros_0f7a4_33 rfl ?_
  refine E.sipush (v := 256) dJ6_numberOfLeadingZeros_0f7a4_34 (by decide) ?_
  refine E.icmp_lt dJ6_numberOfLeadingZeros_0f7a4_37 (fun h => ?_) (fun h => ?_)
  · have hf := e_ift hf h
    exact tJ6_numberOfLeadingZeros_0f7a4_L48 hf
  · have hf := e_iff hf h
    refine E.iinc (q := 1) (v := (x1 + (-8 : Int32))) (lv' := [(1, .int (x1 + (-8 : Int32))), (0, .int x0)]) dJ6_numberOfLeadingZeros_0f7a4_40 rfl rfl (by decide) rfl ?_
    refine E.iload_n 1 dJ6_numberOfLeadingZeros_0f7a4_43 rfl ?_
    refine E.bipush (v := 8) dJ6_numberOfLeadingZeros_0f7a4_44 (by decide) ?_
    refine E.iushr dJ6_numberOfLeadingZeros_0f7a4_46 ?_
    refine E.istore_n (lv' := [(0, .int (((x0 : Int32).toUInt32 >>> ((8 : Int32).toUInt32 &&& Int32.toUInt32 31)).toInt32)), (1, .int (x1 + (-8 : Int32)))]) dJ6_numberOfLeadingZeros_0f7a4_47 (by decide) rfl ?_
    exact tJ6_numberOfLeadingZeros_0f7a4_L48 hf
def fJ6_numberOfLeadingZeros_0f7a4 (x0 : Int32) : Option (Int32) := if (0 : Int32) < (x0 : Int32) then (if (x0 : Int32) < (65536 : Int32) then (fJ6_numberOfLeadingZeros_0f7a4_L33 x0 31) else (fJ6_numberOfLeadingZeros_0f7a4_L33 (((x0 : Int32).toUInt32 >>> ((16 : Int32).toUInt32 &&& Int32.toUInt32 31)).toInt32) (31 + (-16 : Int32)))) else (if (x0 : Int32) = (0 : Int32) then (some (32)) else (some (0)))
set_option maxHeartbeats 4000000 in
set_option maxRecDepth 100000 in
theorem tJ6_numberOfLeadingZeros_0f7a4 {G : GT} {b : Nat} {c : Hp} {n : Nat} {x0 : Int32} {R : Int32} (hf : fJ6_numberOfLeadingZeros_0f7a4 x0 = some R) : E G b yJ6_numberOfLeadingZeros_0f7a4 cJ6_numberOfLeadingZeros_0f7a4 2 (some .int) (e_rm 0 0 0) e_X0 (e_Z G b (pD (some (.int R)) c n) 0 0) 0 [(0, .int x0)] [] c n 0 0 := by
  unfold fJ6_numberOfLeadingZeros_0f7a4 at hf
  refine E.iload_n 0 dJ6_numberOfLeadingZeros_0f7a4_0 rfl ?_
  refine E.if_gt dJ6_numberOfLeadingZeros_0f7a4_1 (fun h => ?_) (fun h => ?_)
  · have hf := e_ift hf h
    refine E.bipush (v := 31) dJ6_numberOfLeadingZeros_0f7a4_15 (by decide) ?_
    refine E.istore_n (lv' := [(1, .int 31), (0, .int x0)]) dJ6_numberOfLeadingZeros_0f7a4_17 (by decide) rfl ?_
    refine E.iload_n 1 dJ6_numberOfLeadingZeros_0f7a4_18 rfl ?_
    refine E.ldcw dJ6_numberOfLeadingZeros_0f7a4_19 kJ6_264 ?_
    refine E.icmp_lt dJ6_numberOfLeadingZeros_0f7a4_22 (fun h => ?_) (fun h => ?_)
    · have hf := e_ift hf h
      refine E.locals [1, 0] rfl ?_
      exact tJ6_numberOfLeadingZeros_0f7a4_L33 hf
    · have hf := e_iff hf h
      refine E.iinc (q := 0) (v := (31 + (-16 : Int32))) (lv' := [(1, .int (31 + (-16 : Int32))), (0, .int x0)]) dJ6_numberOfLeadingZeros_0f7a4_25 rfl rfl (by decide) rfl ?_
      refine E.iload_n 1 dJ6_numberOfLeadingZeros_0f7a4_28 rfl ?_
      refine E.bipush (v := 16) dJ6_numberOfLeadingZeros_0f7a4_29 (by decide) ?_
      refine E.iushr dJ6_numberOfLeadingZeros_0f7a4_31 ?_
      refine E.istore_n (lv' := [(0, .int (((x0 : Int32).toUInt32 >>> ((16 : Int32).toUInt32 &&& Int32.toUInt32 31)).toInt32)), (1, .int (31 + (-16 : Int32)))]) dJ6_numberOfLeadingZeros_0f7a4_32 (by decide) rfl ?_
      exact tJ6_numberOfLeadingZeros_0f7a4_L33 hf
  · have hf := e_iff hf h
    refine E.iload_n 0 dJ6_numberOfLeadingZeros_0f7a4_4 rfl ?_
    refine E.if_ne dJ6_numberOfLeadingZeros_0f7a4_5 (fun h => ?_) (fun h => ?_)
    · have hf := e_iff hf h
      refine E.iconst (v := 0) dJ6_numberOfLeadingZeros_0f7a4_13 (by decide) ?_
      cases hf
      exact E.iret dJ6_numberOfLeadingZeros_0f7a4_14 (Nat.le_refl _) (Nat.le_refl _) (pD_rf _ _ _)
    · have hf := e_ift hf h
      refine E.bipush (v := 32) dJ6_numberOfLeadingZeros_0f7a4_8 (by decide) ?_
      refine E.goto dJ6_numberOfLeadingZeros_0f7a4_10 ?_
      cases hf
      exact E.iret dJ6_numberOfLeadingZeros_0f7a4_14 (Nat.le_refl _) (Nat.le_refl _) (pD_rf _ _ _)
set_option maxRecDepth 100000 in
theorem mJ6_numberOfLeadingZeros_0f7a4 {G : GT} {b : Nat} {c : Hp} {n : Nat} {x0 : Int32} {R : Int32} (hf : fJ6_numberOfLeadingZeros_0f7a4 x0 = some R) : e_C G b yJ6_numberOfLeadingZeros_0f7a4 cJ6_numberOfLeadingZeros_0f7a4 2 (some .int) 0 0 0 [.int x0] c n (pD (some (.int R)) c n) := e_C.of (by decide) (Nat.le_of_ble_eq_true rfl) (tJ6_numberOfLeadingZeros_0f7a4 hf)
abbrev kW12 : List Nat := [1, 2, 3]
abbrev wW12 (G : GT) (b  : Nat) (v1_beasts : Int32) (v1_meals : Int32) (v1_seats : Int32) (v1_laws : Int32) (v1_inForce : Int32) (a2 : Nat → Int32) (a3 : Nat → Int32) : List va_E := [.inr (10, [.ref (b + 2), .ref (b + 3), .ref (b + 4), .ref (b + 5), .ref (b + 6), .int v1_beasts, .int v1_meals, .int v1_seats, .int v1_laws, .int v1_inForce]), aI G 48 a2, aI G 8 a3]
def fX10_hungerIn (a2 : Nat → Int32) (a3 : Nat → Int32) (x1 : Int32) (x2 : Int32) : Option (Int32) := (fX10_trait a2 x1 2).bind fun r1 => (gd x1 8 (if (((a3 (x1 : Int32).toNatClampNeg) &&& (((2 : Int32) <<< ((x2 : Int32) &&& 31)) - 1)) : Int32) = (0 : Int32) then ((fX10_trait a2 x1 1).bind fun r4 => (some ((if ((r4 + (r1 * x2)) : Int32) < 99 then (r4 + (r1 * x2)) else 99)))) else ((fJ6_numberOfLeadingZeros_0f7a4 ((a3 (x1 : Int32).toNatClampNeg) &&& (((2 : Int32) <<< ((x2 : Int32) &&& 31)) - 1))).bind fun r3 => (some ((if ((r1 * (x2 - (31 - r3))) : Int32) < 99 then (r1 * (x2 - (31 - r3))) else 99))))))
set_option maxHeartbeats 4000000 in
set_option maxRecDepth 100000 in
theorem tX10_hungerIn {G : GT} {b : Nat} {c0 : Hp} {n : Nat} (hw : e_wf (kW12) n) {v1_beasts : Int32} {v1_meals : Int32} {v1_seats : Int32} {v1_laws : Int32} {v1_inForce : Int32} {a2 : Nat → Int32} {a3 : Nat → Int32} {x1 : Int32} {x2 : Int32} {R : Int32} (hf : fX10_hungerIn a2 a3 x1 x2 = some R) : E G b yX10_hungerIn cX10_hungerIn 6 (some .int) (e_rm 1 0 0) e_X0 (e_Z G b (pD (some (.int R)) (e_ov (kW12) (wW12 G b v1_beasts v1_meals v1_seats v1_laws v1_inForce a2 a3) c0) n) 0 0) 0 [(0, .ref (b + 1)), (1, .int x1), (2, .int x2)] [] (e_ov (kW12) (wW12 G b v1_beasts v1_meals v1_seats v1_laws v1_inForce a2 a3) c0) n 0 0 := by
  unfold fX10_hungerIn at hf
  refine E.aload_n 0 dX10_hungerIn_0 rfl ?_
  refine E.iload_n 1 dX10_hungerIn_1 rfl ?_
  refine E.iconst (v := 2) dX10_hungerIn_2 (by decide) ?_
  obtain ⟨r1, hc1, hf⟩ := e_bind hf
  refine E.callVDs (es' := (wW12 G b v1_beasts v1_meals v1_seats v1_laws v1_inForce a2 a3)) [] [0, 1] 0 1 dX10_hungerIn_3 mlX10_72 hw rfl rfl rfl rfl (mX10_trait (hw.pick2 [0, 1] rfl (by decide)) hc1) rfl rfl rfl rfl ⟨Nat.le_of_ble_eq_true rfl, Nat.le_of_ble_eq_true rfl⟩ rfl rfl (Nat.le_of_ble_eq_true rfl) ⟨Nat.le_refl _, Nat.le_refl _⟩ rfl ?_
  refine E.istore_n (lv' := [(3, .int r1), (0, .ref (b + 1)), (1, .int x1), (2, .int x2)]) dX10_hungerIn_6 (by decide) rfl ?_
  refine E.aload_n 1 dX10_hungerIn_7 rfl ?_
  refine E.get hw 0 1 dX10_hungerIn_8 flX10_15 rfl rfl rfl rfl ?_
  refine E.iload_n 2 dX10_hungerIn_11 rfl ?_
  obtain ⟨g2, hf⟩ := gd_some hf
  refine E.iald hw 2 3 dX10_hungerIn_12 rfl rfl g2 ?_
  refine E.iconst (v := 2) dX10_hungerIn_13 (by decide) ?_
  refine E.iload_n 3 dX10_hungerIn_14 rfl ?_
  refine E.ishl dX10_hungerIn_15 ?_
  refine E.iconst (v := 1) dX10_hungerIn_16 (by decide) ?_
  refine E.isub dX10_hungerIn_17 ?_
  refine E.iand dX10_hungerIn_18 ?_
  refine E.istore (lv' := [(4, .int ((a3 (x1 : Int32).toNatClampNeg) &&& (((2 : Int32) <<< ((x2 : Int32) &&& 31)) - 1))), (3, .int r1), (0, .ref (b + 1)), (1, .int x1), (2, .int x2)]) dX10_hungerIn_19 (by decide) rfl ?_
  refine E.iload 0 dX10_hungerIn_21 rfl ?_
  refine E.if_ne dX10_hungerIn_23 (fun h => ?_) (fun h => ?_)
  · have hf := e_iff hf h
    refine E.bipush (v := 31) dX10_hungerIn_42 (by decide) ?_
    refine E.iload 0 dX10_hungerIn_44 rfl ?_
    obtain ⟨r3, hc3, hf⟩ := e_bind hf
    refine E.callSD [.int 31] dX10_hungerIn_46 mlX10_81 (mJ6_numberOfLeadingZeros_0f7a4 hc3) ⟨Nat.le_of_ble_eq_true rfl, Nat.le_of_ble_eq_true rfl⟩ rfl rfl (Nat.le_of_ble_eq_true rfl) ⟨Nat.le_refl _, Nat.le_refl _⟩ rfl ?_
    refine E.isub dX10_hungerIn_49 ?_
    refine E.istore (lv' := [(5, .int (31 - r3)), (4, .int ((a3 (x1 : Int32).toNatClampNeg) &&& (((2 : Int32) <<< ((x2 : Int32) &&& 31)) - 1))), (3, .int r1), (0, .ref (b + 1)), (1, .int x1), (2, .int x2)]) dX10_hungerIn_50 (by decide) rfl ?_
    refine E.bipush (v := 99) dX10_hungerIn_52 (by decide) ?_
    refine E.iload_n 2 dX10_hungerIn_54 rfl ?_
    refine E.iload_n 5 dX10_hungerIn_55 rfl ?_
    refine E.iload 0 dX10_hungerIn_56 rfl ?_
    refine E.isub dX10_hungerIn_58 ?_
    refine E.imul dX10_hungerIn_59 ?_
    refine E.mmin dX10_hungerIn_60 mmX10_76 ⟨Nat.le_of_ble_eq_true rfl, Nat.le_of_ble_eq_true rfl⟩ ⟨Nat.le_refl _, Nat.le_refl _⟩ ?_
    cases hf
    exact E.iret dX10_hungerIn_63 (Nat.le_refl _) (Nat.le_refl _) (pD_rf _ _ _)
  · have hf := e_ift hf h
    refine E.bipush (v := 99) dX10_hungerIn_26 (by decide) ?_
    refine E.aload_n 2 dX10_hungerIn_28 rfl ?_
    refine E.iload_n 3 dX10_hungerIn_29 rfl ?_
    refine E.iconst (v := 1) dX10_hungerIn_30 (by decide) ?_
    obtain ⟨r4, hc4, hf⟩ := e_bind hf
    refine E.callVDs (es' := (wW12 G b v1_beasts v1_meals v1_seats v1_laws v1_inForce a2 a3)) [.int 99] [0, 1] 0 1 dX10_hungerIn_31 mlX10_72 hw rfl rfl rfl rfl (mX10_trait (hw.pick2 [0, 1] rfl (by decide)) hc4) rfl rfl rfl rfl ⟨Nat.le_of_ble_eq_true rfl, Nat.le_of_ble_eq_true rfl⟩ rfl rfl (Nat.le_of_ble_eq_true rfl) ⟨Nat.le_refl _, Nat.le_refl _⟩ rfl ?_
    refine E.iload_n 1 dX10_hungerIn_34 rfl ?_
    refine E.iload_n 4 dX10_hungerIn_35 rfl ?_
    refine E.imul dX10_hungerIn_36 ?_
    refine E.iadd dX10_hungerIn_37 ?_
    refine E.mmin dX10_hungerIn_38 mmX10_76 ⟨Nat.le_of_ble_eq_true rfl, Nat.le_of_ble_eq_true rfl⟩ ⟨Nat.le_refl _, Nat.le_refl _⟩ ?_
    cases hf
    exact E.iret dX10_hungerIn_41 (Nat.le_refl _) (Nat.le_refl _) (pD_rf _ _ _)
set_option maxRecDepth 100000 in
theorem mX10_hungerIn {G : GT} {b : Nat} {c0 : Hp} {n : Nat} (hw : e_wf (kW12) n) {v1_beasts : Int32} {v1_meals : Int32} {v1_seats : Int32} {v1_laws : Int32} {v1_inForce : Int32} {a2 : Nat → Int32} {a3 : Nat → Int32} {x1 : Int32} {x2 : Int32} {R : Int32} (hf : fX10_hungerIn a2 a3 x1 x2 = some R) : e_C G b yX10_hungerIn cX10_hungerIn 6 (some .int) 1 0 0 [.ref (b + 1), .int x1, .int x2] (e_ov (kW12) (wW12 G b v1_beasts v1_meals v1_seats v1_laws v1_inForce a2 a3) c0) n (pD (some (.int R)) (e_ov (kW12) (wW12 G b v1_beasts v1_meals v1_seats v1_laws v1_inForce a2 a3) c0) n) := e_C.of (by decide) (Nat.le_of_ble_eq_true rfl) (tX10_hungerIn hw hf)
abbrev kW13 : List Nat := [0, 1, 2, 3]
abbrev wW13 (G : GT) (b  : Nat) (v0_faultPlace : Int32) (v0_quashedRows : Int32) (v0_lastRefusal : Int32) (v1_beasts : Int32) (v1_meals : Int32) (v1_seats : Int32) (v1_laws : Int32) (v1_inForce : Int32) (a2 : Nat → Int32) (a3 : Nat → Int32) : List va_E := [.inr (11, [.ref (b + 1), .ref (b + 10), .ref (b + 29), .ref (b + 30), .ref (b + 32), .ref (b + 37), .ref (b + 40), .ref (b + 42), .ref (b + 69), .ref (b + 73), .ref (b + 74), .ref (b + 76), .ref (b + 78), .int v0_faultPlace, .int v0_quashedRows, .int v0_lastRefusal]), .inr (10, [.ref (b + 2), .ref (b + 3), .ref (b + 4), .ref (b + 5), .ref (b + 6), .int v1_beasts, .int v1_meals, .int v1_seats, .int v1_laws, .int v1_inForce]), aI G 48 a2, aI G 8 a3]
def fX11_hunger (v1_beasts : Int32) (a2 : Nat → Int32) (a3 : Nat → Int32) (x1 : Int32) (x2 : Int32) : Option (Int32) := (fX10_hasBeast v1_beasts x1).bind fun r1 => (if (r1 : Int32) = (0 : Int32) then (some ((-1 : Int32))) else ((fX11_isHour x2).bind fun r2 => (if (r2 : Int32) = (0 : Int32) then (some ((-1 : Int32))) else ((fX10_hungerIn a2 a3 x1 x2).bind fun r3 => (some (r3))))))
set_option maxHeartbeats 4000000 in
set_option maxRecDepth 100000 in
theorem tX11_hunger {G : GT} {b : Nat} {c0 : Hp} {n : Nat} (hw : e_wf (kW13) n) {v0_faultPlace : Int32} {v0_quashedRows : Int32} {v0_lastRefusal : Int32} {v1_meals : Int32} {v1_seats : Int32} {v1_laws : Int32} {v1_inForce : Int32} {v1_beasts : Int32} {a2 : Nat → Int32} {a3 : Nat → Int32} {x1 : Int32} {x2 : Int32} {R : Int32} (hf : fX11_hunger v1_beasts a2 a3 x1 x2 = some R) : E G b yX11_hunger cX11_hunger 3 (some .int) (e_rm 2 0 0) e_X0 (e_Z G b (pD (some (.int R)) (e_ov (kW13) (wW13 G b v0_faultPlace v0_quashedRows v0_lastRefusal v1_beasts v1_meals v1_seats v1_laws v1_inForce a2 a3) c0) n) 0 0) 0 [(0, .ref (b + 0)), (1, .int x1), (2, .int x2)] [] (e_ov (kW13) (wW13 G b v0_faultPlace v0_quashedRows v0_lastRefusal v1_beasts v1_meals v1_seats v1_laws v1_inForce a2 a3) c0) n 0 0 := by
  unfold fX11_hunger at hf
  refine E.aload_n 0 dX11_hunger_0 rfl ?_
  refine E.get hw 0 0 dX11_hunger_1 flX11_10 rfl rfl rfl rfl ?_
  refine E.iload_n 1 dX11_hunger_4 rfl ?_
  obtain ⟨r1, hc1, hf⟩ := e_bind hf
  refine E.callVDs (es' := (wW13 G b v0_faultPlace v0_quashedRows v0_lastRefusal v1_beasts v1_meals v1_seats v1_laws v1_inForce a2 a3)) [] [1] 1 1 dX11_hunger_5 mlX11_111 hw rfl rfl rfl rfl (mX10_hasBeast (hw.pick2 [1] rfl (by decide)) hc1) rfl rfl rfl rfl ⟨Nat.le_of_ble_eq_true rfl, Nat.le_of_ble_eq_true rfl⟩ rfl rfl (Nat.le_of_ble_eq_true rfl) ⟨Nat.le_refl _, Nat.le_refl _⟩ rfl ?_
  refine E.if_eq dX11_hunger_8 (fun h => ?_) (fun h => ?_)
  · have hf := e_ift hf h
    refine E.iconst (v := -1) dX11_hunger_18 (by decide) ?_
    cases hf
    exact E.iret dX11_hunger_19 (Nat.le_refl _) (Nat.le_refl _) (pD_rf _ _ _)
  · have hf := e_iff hf h
    refine E.iload_n 2 dX11_hunger_11 rfl ?_
    obtain ⟨r2, hc2, hf⟩ := e_bind hf
    refine E.callSD [] dX11_hunger_12 mlX11_119 (mX11_isHour hc2) ⟨Nat.le_of_ble_eq_true rfl, Nat.le_of_ble_eq_true rfl⟩ rfl rfl (Nat.le_of_ble_eq_true rfl) ⟨Nat.le_refl _, Nat.le_refl _⟩ rfl ?_
    refine E.if_ne dX11_hunger_15 (fun h => ?_) (fun h => ?_)
    · have hf := e_iff hf h
      refine E.aload_n 0 dX11_hunger_20 rfl ?_
      refine E.get hw 0 0 dX11_hunger_21 flX11_10 rfl rfl rfl rfl ?_
      refine E.iload_n 1 dX11_hunger_24 rfl ?_
      refine E.iload_n 2 dX11_hunger_25 rfl ?_
      obtain ⟨r3, hc3, hf⟩ := e_bind hf
      refine E.callVDs (es' := (wW13 G b v0_faultPlace v0_quashedRows v0_lastRefusal v1_beasts v1_meals v1_seats v1_laws v1_inForce a2 a3)) [] [1, 2, 3] 1 1 dX11_hunger_26 mlX11_137 hw rfl rfl rfl rfl (mX10_hungerIn (hw.pick2 [1, 2, 3] rfl (by decide)) hc3) rfl rfl rfl rfl ⟨Nat.le_of_ble_eq_true rfl, Nat.le_of_ble_eq_true rfl⟩ rfl rfl (Nat.le_of_ble_eq_true rfl) ⟨Nat.le_refl _, Nat.le_refl _⟩ rfl ?_
      cases hf
      exact E.iret dX11_hunger_29 (Nat.le_refl _) (Nat.le_refl _) (pD_rf _ _ _)
    · have hf := e_ift hf h
      refine E.iconst (v := -1) dX11_hunger_18 (by decide) ?_
      cases hf
      exact E.iret dX11_hunger_19 (Nat.le_refl _) (Nat.le_refl _) (pD_rf _ _ _)
set_option maxRecDepth 100000 in
theorem mX11_hunger {G : GT} {b : Nat} {c0 : Hp} {n : Nat} (hw : e_wf (kW13) n) {v0_faultPlace : Int32} {v0_quashedRows : Int32} {v0_lastRefusal : Int32} {v1_meals : Int32} {v1_seats : Int32} {v1_laws : Int32} {v1_inForce : Int32} {v1_beasts : Int32} {a2 : Nat → Int32} {a3 : Nat → Int32} {x1 : Int32} {x2 : Int32} {R : Int32} (hf : fX11_hunger v1_beasts a2 a3 x1 x2 = some R) : e_C G b yX11_hunger cX11_hunger 3 (some .int) 2 0 0 [.ref (b + 0), .int x1, .int x2] (e_ov (kW13) (wW13 G b v0_faultPlace v0_quashedRows v0_lastRefusal v1_beasts v1_meals v1_seats v1_laws v1_inForce a2 a3) c0) n (pD (some (.int R)) (e_ov (kW13) (wW13 G b v0_faultPlace v0_quashedRows v0_lastRefusal v1_beasts v1_meals v1_seats v1_laws v1_inForce a2 a3) c0) n) := e_C.of (by decide) (Nat.le_of_ble_eq_true rfl) (tX11_hunger hw hf)
abbrev kW14 : List Nat := [0, 1, 42, 78]
abbrev wW14 (G : GT) (b  : Nat) (v0_faultPlace : Int32) (v0_quashedRows : Int32) (v0_lastRefusal : Int32) (v1_beasts : Int32) (v1_meals : Int32) (v1_seats : Int32) (v1_laws : Int32) (v1_inForce : Int32) (v42_beasts : Int32) (v42_seats : Int32) (v42_seated : Int32) (v42_quota : Int32) (v42_known : Int32) (v42_surveyed : Int32) (v42_steadyBench : Int32) (v42_steadyWays : Int32) (v42_steadySwing : Int64) (a78 : Nat → Int32) : List va_E := [.inr (11, [.ref (b + 1), .ref (b + 10), .ref (b + 29), .ref (b + 30), .ref (b + 32), .ref (b + 37), .ref (b + 40), .ref (b + 42), .ref (b + 69), .ref (b + 73), .ref (b + 74), .ref (b + 76), .ref (b + 78), .int v0_faultPlace, .int v0_quashedRows, .int v0_lastRefusal]), .inr (10, [.ref (b + 2), .ref (b + 3), .ref (b + 4), .ref (b + 5), .ref (b + 6), .int v1_beasts, .int v1_meals, .int v1_seats, .int v1_laws, .int v1_inForce]), .inr (1, [.ref (b + 43), .ref (b + 44), .ref (b + 45), .ref (b + 46), .ref (b + 47), .ref (b + 48), .ref (b + 49), .ref (b + 50), .ref (b + 67), .int v42_beasts, .int v42_seats, .int v42_seated, .int v42_quota, .int v42_known, .int v42_surveyed, .int v42_steadyBench, .int v42_steadyWays, .long v42_steadySwing]), aI G 7 a78]
def fX11_bench_L17 (v0_lastRefusal : Int32) (v1_beasts : Int32) (v1_seats : Int32) (v42_known : Int32) (a78 : Nat → Int32) : Option (Int32 × Int32 × Int32 × Int32 × (Nat → Int32)) := (fX11_refuse v0_lastRefusal a78 (-1 : Int32)).bind fun r2 => (some (r2.1, r2.2.1, v1_seats, v42_known, r2.2.2))
set_option maxHeartbeats 4000000 in
set_option maxRecDepth 100000 in
theorem tX11_bench_L17 {G : GT} {b : Nat} {c0 : Hp} {n : Nat} (hw : e_wf (kW14) n) {v0_faultPlace : Int32} {v0_quashedRows : Int32} {v1_meals : Int32} {v1_laws : Int32} {v1_inForce : Int32} {v42_beasts : Int32} {v42_seats : Int32} {v42_seated : Int32} {v42_quota : Int32} {v42_surveyed : Int32} {v42_steadyBench : Int32} {v42_steadyWays : Int32} {v42_steadySwing : Int64} {v0_lastRefusal : Int32} {v1_beasts : Int32} {v1_seats : Int32} {v42_known : Int32} {a78 : Nat → Int32} {R : Int32 × Int32 × Int32 × Int32 × (Nat → Int32)} (hf : fX11_bench_L17 v0_lastRefusal v1_beasts v1_seats v42_known a78 = some R) : E G b yX11_bench cX11_bench 3 (some .int) (e_rm 2 0 0) e_X0 (e_Z G b (pD (some (.int R.1)) (e_ov (kW14) (wW14 G b v0_faultPlace v0_quashedRows R.2.1 v1_beasts v1_meals R.2.2.1 v1_laws v1_inForce v42_beasts v42_seats v42_seated v42_quota R.2.2.2.1 v42_surveyed v42_steadyBench v42_steadyWays v42_steadySwing R.2.2.2.2) c0) n) 0 0) 17 [(0, .ref (b + 0))] [] (e_ov (kW14) (wW14 G b v0_faultPlace v0_quashedRows v0_lastRefusal v1_beasts v1_meals v1_seats v1_laws v1_inForce v42_beasts v42_seats v42_seated v42_quota v42_known v42_surveyed v42_steadyBench v42_steadyWays v42_steadySwing a78) c0) n 0 0 := by
  unfold fX11_bench_L17 at hf
  refine E.aload_n 0 dX11_bench_17 rfl ?_
  refine E.iconst (v := -1) dX11_bench_18 (by decide) ?_
  obtain ⟨r2, hc2, hf⟩ := e_bind hf
  refine E.callVDs (es' := (wW14 G b v0_faultPlace v0_quashedRows r2.2.1 v1_beasts v1_meals v1_seats v1_laws v1_inForce v42_beasts v42_seats v42_seated v42_quota v42_known v42_surveyed v42_steadyBench v42_steadyWays v42_steadySwing r2.2.2)) [] [0, 3] 0 0 dX11_bench_19 mlX11_97 hw rfl rfl rfl rfl (mX11_refuse (hw.pick2 [0, 3] rfl (by decide)) hc2) rfl rfl rfl rfl ⟨Nat.le_of_ble_eq_true rfl, Nat.le_of_ble_eq_true rfl⟩ rfl rfl (Nat.le_of_ble_eq_true rfl) ⟨Nat.le_refl _, Nat.le_refl _⟩ rfl ?_
  cases hf
  exact E.iret dX11_bench_22 (Nat.le_refl _) (Nat.le_refl _) (pD_rf _ _ _)
def fX11_bench (v0_lastRefusal : Int32) (v1_beasts : Int32) (v1_seats : Int32) (v42_known : Int32) (a78 : Nat → Int32) (x1 : Int32) : Option (Int32 × Int32 × Int32 × Int32 × (Nat → Int32)) := if (x1 : Int32) < (0 : Int32) then (fX11_bench_L17 v0_lastRefusal v1_beasts v1_seats v42_known a78) else (if (x1 : Int32) < (((1 : Int32) <<< ((v1_beasts : Int32) &&& 31)) : Int32) then ((fX11_accept v0_lastRefusal v42_known v1_seats).bind fun r1 => (some (r1.1, r1.2.1, x1, r1.2.2, a78))) else (fX11_bench_L17 v0_lastRefusal v1_beasts v1_seats v42_known a78))
set_option maxHeartbeats 4000000 in
set_option maxRecDepth 100000 in
theorem tX11_bench {G : GT} {b : Nat} {c0 : Hp} {n : Nat} (hw : e_wf (kW14) n) {v0_faultPlace : Int32} {v0_quashedRows : Int32} {v1_meals : Int32} {v1_laws : Int32} {v1_inForce : Int32} {v42_beasts : Int32} {v42_seats : Int32} {v42_seated : Int32} {v42_quota : Int32} {v42_surveyed : Int32} {v42_steadyBench : Int32} {v42_steadyWays : Int32} {v42_steadySwing : Int64} {v0_lastRefusal : Int32} {v1_beasts : Int32} {v1_seats : Int32} {v42_known : Int32} {a78 : Nat → Int32} {x1 : Int32} {R : Int32 × Int32 × Int32 × Int32 × (Nat → Int32)} (hf : fX11_bench v0_lastRefusal v1_beasts v1_seats v42_known a78 x1 = some R) : E G b yX11_bench cX11_bench 3 (some .int) (e_rm 2 0 0) e_X0 (e_Z G b (pD (some (.int R.1)) (e_ov (kW14) (wW14 G b v0_faultPlace v0_quashedRows R.2.1 v1_beasts v1_meals R.2.2.1 v1_laws v1_inForce v42_beasts v42_seats v42_seated v42_quota R.2.2.2.1 v42_surveyed v42_steadyBench v42_steadyWays v42_steadySwing R.2.2.2.2) c0) n) 0 0) 0 [(0, .ref (b + 0)), (1, .int x1)] [] (e_ov (kW14) (wW14 G b v0_faultPlace v0_quashedRows v0_lastRefusal v1_beasts v1_meals v1_seats v1_laws v1_inForce v42_beasts v42_seats v42_seated v42_quota v42_known v42_surveyed v42_steadyBench v42_steadyWays v42_steadySwing a78) c0) n 0 0 := by
  unfold fX11_bench at hf
  refine E.iload_n 1 dX11_bench_0 rfl ?_
  refine E.if_lt dX11_bench_1 (fun h => ?_) (fun h => ?_)
  · have hf := e_ift hf h
    refine E.locals [0] rfl ?_
    exact tX11_bench_L17 hw hf
  · have hf := e_iff hf h
    refine E.iload_n 1 dX11_bench_4 rfl ?_
    refine E.iconst (v := 1) dX11_bench_5 (by decide) ?_
    refine E.aload_n 0 dX11_bench_6 rfl ?_
    refine E.get hw 0 0 dX11_bench_7 flX11_10 rfl rfl rfl rfl ?_
    refine E.getN hw 1 1 dX11_bench_10 fnX11_101 rfl rfl rfl rfl ?_
    refine E.ishl dX11_bench_13 ?_
    refine E.icmp_lt dX11_bench_14 (fun h => ?_) (fun h => ?_)
    · have hf := e_ift hf h
      refine E.aload_n 0 dX11_bench_23 rfl ?_
      refine E.get hw 0 0 dX11_bench_24 flX11_10 rfl rfl rfl rfl ?_
      refine E.getN hw 1 1 dX11_bench_27 fnX11_140 rfl rfl rfl rfl ?_
      refine E.istore_n (lv' := [(2, .int v1_seats), (0, .ref (b + 0)), (1, .int x1)]) dX11_bench_30 (by decide) rfl ?_
      refine E.aload_n 1 dX11_bench_31 rfl ?_
      refine E.get hw 0 0 dX11_bench_32 flX11_10 rfl rfl rfl rfl ?_
      refine E.iload_n 2 dX11_bench_35 rfl ?_
      refine E.putN (es' := (wW14 G b v0_faultPlace v0_quashedRows v0_lastRefusal v1_beasts v1_meals x1 v1_laws v1_inForce v42_beasts v42_seats v42_seated v42_quota v42_known v42_surveyed v42_steadyBench v42_steadyWays v42_steadySwing a78)) hw 1 1 dX11_bench_36 fnX11_140 ftX10 rfl rfl rfl rfl rfl rfl (Nat.le_of_ble_eq_true rfl) rfl ?_
      refine E.aload_n 1 dX11_bench_39 rfl ?_
      refine E.iload_n 0 dX11_bench_40 rfl ?_
      obtain ⟨r1, hc1, hf⟩ := e_bind hf
      refine E.callVDs (es' := (wW14 G b v0_faultPlace v0_quashedRows r1.2.1 v1_beasts v1_meals x1 v1_laws v1_inForce v42_beasts v42_seats v42_seated v42_quota r1.2.2 v42_surveyed v42_steadyBench v42_steadyWays v42_steadySwing a78)) [] [0, 2] 0 0 dX11_bench_41 mlX11_108 hw rfl rfl rfl rfl (mX11_accept (hw.pick2 [0, 2] rfl (by decide)) hc1) rfl rfl rfl rfl ⟨Nat.le_of_ble_eq_true rfl, Nat.le_of_ble_eq_true rfl⟩ rfl rfl (Nat.le_of_ble_eq_true rfl) ⟨Nat.le_refl _, Nat.le_refl _⟩ rfl ?_
      cases hf
      exact E.iret dX11_bench_44 (Nat.le_refl _) (Nat.le_refl _) (pD_rf _ _ _)
    · have hf := e_iff hf h
      refine E.locals [0] rfl ?_
      exact tX11_bench_L17 hw hf
set_option maxRecDepth 100000 in
theorem mX11_bench {G : GT} {b : Nat} {c0 : Hp} {n : Nat} (hw : e_wf (kW14) n) {v0_faultPlace : Int32} {v0_quashedRows : Int32} {v1_meals : Int32} {v1_laws : Int32} {v1_inForce : Int32} {v42_beasts : Int32} {v42_seats : Int32} {v42_seated : Int32} {v42_quota : Int32} {v42_surveyed : Int32} {v42_steadyBench : Int32} {v42_steadyWays : Int32} {v42_steadySwing : Int64} {v0_lastRefusal : Int32} {v1_beasts : Int32} {v1_seats : Int32} {v42_known : Int32} {a78 : Nat → Int32} {x1 : Int32} {R : Int32 × Int32 × Int32 × Int32 × (Nat → Int32)} (hf : fX11_bench v0_lastRefusal v1_beasts v1_seats v42_known a78 x1 = some R) : e_C G b yX11_bench cX11_bench 3 (some .int) 2 0 0 [.ref (b + 0), .int x1] (e_ov (kW14) (wW14 G b v0_faultPlace v0_quashedRows v0_lastRefusal v1_beasts v1_meals v1_seats v1_laws v1_inForce v42_beasts v42_seats v42_seated v42_quota v42_known v42_surveyed v42_steadyBench v42_steadyWays v42_steadySwing a78) c0) n (pD (some (.int R.1)) (e_ov (kW14) (wW14 G b v0_faultPlace v0_quashedRows R.2.1 v1_beasts v1_meals R.2.2.1 v1_laws v1_inForce v42_beasts v42_seats v42_seated v42_quota R.2.2.2.1 v42_surveyed v42_steadyBench v42_steadyWays v42_steadySwing R.2.2.2.2) c0) n) := e_C.of (by decide) (Nat.le_of_ble_eq_true rfl) (tX11_bench hw hf)
abbrev kW15 : List Nat := [0, 1, 4, 42, 78]
abbrev wW15 (G : GT) (b  : Nat) (v0_faultPlace : Int32) (v0_quashedRows : Int32) (v0_lastRefusal : Int32) (v1_beasts : Int32) (v1_meals : Int32) (v1_seats : Int32) (v1_laws : Int32) (v1_inForce : Int32) (a4 : Nat → Int32) (v42_beasts : Int32) (v42_seats : Int32) (v42_seated : Int32) (v42_quota : Int32) (v42_known : Int32) (v42_surveyed : Int32) (v42_steadyBench : Int32) (v42_steadyWays : Int32) (v42_steadySwing : Int64) (a78 : Nat → Int32) : List va_E := [.inr (11, [.ref (b + 1), .ref (b + 10), .ref (b + 29), .ref (b + 30), .ref (b + 32), .ref (b + 37), .ref (b + 40), .ref (b + 42), .ref (b + 69), .ref (b + 73), .ref (b + 74), .ref (b + 76), .ref (b + 78), .int v0_faultPlace, .int v0_quashedRows, .int v0_lastRefusal]), .inr (10, [.ref (b + 2), .ref (b + 3), .ref (b + 4), .ref (b + 5), .ref (b + 6), .int v1_beasts, .int v1_meals, .int v1_seats, .int v1_laws, .int v1_inForce]), aI G 6 a4, .inr (1, [.ref (b + 43), .ref (b + 44), .ref (b + 45), .ref (b + 46), .ref (b + 47), .ref (b + 48), .ref (b + 49), .ref (b + 50), .ref (b + 67), .int v42_beasts, .int v42_seats, .int v42_seated, .int v42_quota, .int v42_known, .int v42_surveyed, .int v42_steadyBench, .int v42_steadyWays, .long v42_steadySwing]), aI G 7 a78]
def fX11_terms_L28 (v0_lastRefusal : Int32) (a4 : Nat → Int32) (v42_known : Int32) (a78 : Nat → Int32) : Option (Int32 × Int32 × (Nat → Int32) × Int32 × (Nat → Int32)) := (fX11_refuse v0_lastRefusal a78 (-1 : Int32)).bind fun r6 => (some (r6.1, r6.2.1, a4, v42_known, r6.2.2))
set_option maxHeartbeats 4000000 in
set_option maxRecDepth 100000 in
theorem tX11_terms_L28 {G : GT} {b : Nat} {c0 : Hp} {n : Nat} (hw : e_wf (kW15) n) {v0_faultPlace : Int32} {v0_quashedRows : Int32} {v1_beasts : Int32} {v1_meals : Int32} {v1_seats : Int32} {v1_laws : Int32} {v1_inForce : Int32} {v42_beasts : Int32} {v42_seats : Int32} {v42_seated : Int32} {v42_quota : Int32} {v42_surveyed : Int32} {v42_steadyBench : Int32} {v42_steadyWays : Int32} {v42_steadySwing : Int64} {v0_lastRefusal : Int32} {a4 : Nat → Int32} {v42_known : Int32} {a78 : Nat → Int32} {R : Int32 × Int32 × (Nat → Int32) × Int32 × (Nat → Int32)} (hf : fX11_terms_L28 v0_lastRefusal a4 v42_known a78 = some R) : E G b yX11_terms cX11_terms 4 (some .int) (e_rm 2 0 0) e_X0 (e_Z G b (pD (some (.int R.1)) (e_ov (kW15) (wW15 G b v0_faultPlace v0_quashedRows R.2.1 v1_beasts v1_meals v1_seats v1_laws v1_inForce R.2.2.1 v42_beasts v42_seats v42_seated v42_quota R.2.2.2.1 v42_surveyed v42_steadyBench v42_steadyWays v42_steadySwing R.2.2.2.2) c0) n) 0 0) 28 [(0, .ref (b + 0))] [] (e_ov (kW15) (wW15 G b v0_faultPlace v0_quashedRows v0_lastRefusal v1_beasts v1_meals v1_seats v1_laws v1_inForce a4 v42_beasts v42_seats v42_seated v42_quota v42_known v42_surveyed v42_steadyBench v42_steadyWays v42_steadySwing a78) c0) n 0 0 := by
  unfold fX11_terms_L28 at hf
  refine E.aload_n 0 dX11_terms_28 rfl ?_
  refine E.iconst (v := -1) dX11_terms_29 (by decide) ?_
  obtain ⟨r6, hc6, hf⟩ := e_bind hf
  refine E.callVDs (es' := (wW15 G b v0_faultPlace v0_quashedRows r6.2.1 v1_beasts v1_meals v1_seats v1_laws v1_inForce a4 v42_beasts v42_seats v42_seated v42_quota v42_known v42_surveyed v42_steadyBench v42_steadyWays v42_steadySwing r6.2.2)) [] [0, 4] 0 0 dX11_terms_30 mlX11_97 hw rfl rfl rfl rfl (mX11_refuse (hw.pick2 [0, 4] rfl (by decide)) hc6) rfl rfl rfl rfl ⟨Nat.le_of_ble_eq_true rfl, Nat.le_of_ble_eq_true rfl⟩ rfl rfl (Nat.le_of_ble_eq_true rfl) ⟨Nat.le_refl _, Nat.le_refl _⟩ rfl ?_
  cases hf
  exact E.iret dX11_terms_33 (Nat.le_refl _) (Nat.le_refl _) (pD_rf _ _ _)
def fX11_terms (v0_lastRefusal : Int32) (a4 : Nat → Int32) (v42_known : Int32) (a78 : Nat → Int32) (x1 : Int32) (x2 : Int32) : Option (Int32 × Int32 × (Nat → Int32) × Int32 × (Nat → Int32)) := if (x1 : Int32) < (0 : Int32) then (fX11_terms_L28 v0_lastRefusal a4 v42_known a78) else (if (6 : Int32) ≤ (x1 : Int32) then (fX11_terms_L28 v0_lastRefusal a4 v42_known a78) else (gd x1 6 (if (x2 : Int32) < (((e_sX 3).getD (x1 : Int32).toNatClampNeg 0) : Int32) then (fX11_terms_L28 v0_lastRefusal a4 v42_known a78) else (gd x1 6 (if (x2 : Int32) ≤ (((e_sX 1).getD (x1 : Int32).toNatClampNeg 0) : Int32) then (gd x1 6 (gd x1 6 ((fX11_accept v0_lastRefusal v42_known (a4 (x1 : Int32).toNatClampNeg)).bind fun r5 => (some (r5.1, r5.2.1, (va_up a4 (x1 : Int32).toNatClampNeg x2), r5.2.2, a78))))) else (fX11_terms_L28 v0_lastRefusal a4 v42_known a78))))))
set_option maxHeartbeats 4000000 in
set_option maxRecDepth 100000 in
theorem tX11_terms {G : GT} {b : Nat} {c0 : Hp} {n : Nat} (hw : e_wf (kW15) n) {v0_faultPlace : Int32} {v0_quashedRows : Int32} {v1_beasts : Int32} {v1_meals : Int32} {v1_seats : Int32} {v1_laws : Int32} {v1_inForce : Int32} {v42_beasts : Int32} {v42_seats : Int32} {v42_seated : Int32} {v42_quota : Int32} {v42_surveyed : Int32} {v42_steadyBench : Int32} {v42_steadyWays : Int32} {v42_steadySwing : Int64} {v0_lastRefusal : Int32} {a4 : Nat → Int32} {v42_known : Int32} {a78 : Nat → Int32} {x1 : Int32} {x2 : Int32} {R : Int32 × Int32 × (Nat → Int32) × Int32 × (Nat → Int32)} (hf : fX11_terms v0_lastRefusal a4 v42_known a78 x1 x2 = some R) : E G b yX11_terms cX11_terms 4 (some .int) (e_rm 2 0 0) e_X0 (e_Z G b (pD (some (.int R.1)) (e_ov (kW15) (wW15 G b v0_faultPlace v0_quashedRows R.2.1 v1_beasts v1_meals v1_seats v1_laws v1_inForce R.2.2.1 v42_beasts v42_seats v42_seated v42_quota R.2.2.2.1 v42_surveyed v42_steadyBench v42_steadyWays v42_steadySwing R.2.2.2.2) c0) n) 0 0) 0 [(0, .ref (b + 0)), (1, .int x1), (2, .int x2)] [] (e_ov (kW15) (wW15 G b v0_faultPlace v0_quashedRows v0_lastRefusal v1_beasts v1_meals v1_seats v1_laws v1_inForce a4 v42_beasts v42_seats v42_seated v42_quota v42_known v42_surveyed v42_steadyBench v42_steadyWays v42_steadySwing a78) c0) n 0 0 := by
  unfold fX11_terms at hf
  refine E.iload_n 1 dX11_terms_0 rfl ?_
  refine E.if_lt dX11_terms_1 (fun h => ?_) (fun h => ?_)
  · have hf := e_ift hf h
    refine E.locals [0] rfl ?_
    exact tX11_terms_L28 hw hf
  · have hf := e_iff hf h
    refine E.iload_n 1 dX11_terms_4 rfl ?_
    refine E.bipush (v := 6) dX11_terms_5 (by decide) ?_
    refine E.icmp_ge dX11_terms_7 (fun h => ?_) (fun h => ?_)
    · have hf := e_ift hf h
      refine E.locals [0] rfl ?_
      exact tX11_terms_L28 hw hf
    · have hf := e_iff hf h
      refine E.iload_n 2 dX11_terms_10 rfl ?_
      refine E.gets 3 (own := "") (by decide) dX11_terms_11 (gT_in 564 (by decide +kernel) rfl) ?_
      refine E.iload_n 1 dX11_terms_14 rfl ?_
      obtain ⟨g1, hf⟩ := gd_some hf
      refine E.ti 3 (by decide) dX11_terms_15 rfl g1 ?_
      refine E.icmp_lt dX11_terms_16 (fun h => ?_) (fun h => ?_)
      · have hf := e_ift hf h
        refine E.locals [0] rfl ?_
        exact tX11_terms_L28 hw hf
      · have hf := e_iff hf h
        refine E.iload_n 2 dX11_terms_19 rfl ?_
        refine E.gets 1 (own := "") (by decide) dX11_terms_20 (gT_in 566 (by decide +kernel) rfl) ?_
        refine E.iload_n 1 dX11_terms_23 rfl ?_
        obtain ⟨g2, hf⟩ := gd_some hf
        refine E.ti 1 (by decide) dX11_terms_24 rfl g2 ?_
        refine E.icmp_le dX11_terms_25 (fun h => ?_) (fun h => ?_)
        · have hf := e_ift hf h
          refine E.aload_n 0 dX11_terms_34 rfl ?_
          refine E.get hw 0 0 dX11_terms_35 flX11_10 rfl rfl rfl rfl ?_
          refine E.getN hw 1 1 dX11_terms_38 fnX11_149 rfl rfl rfl rfl ?_
          refine E.iload_n 1 dX11_terms_41 rfl ?_
          obtain ⟨g3, hf⟩ := gd_some hf
          refine E.iald hw 2 4 dX11_terms_42 rfl rfl g3 ?_
          refine E.istore_n (lv' := [(3, .int (a4 (x1 : Int32).toNatClampNeg)), (0, .ref (b + 0)), (1, .int x1), (2, .int x2)]) dX11_terms_43 (by decide) rfl ?_
          refine E.aload_n 1 dX11_terms_44 rfl ?_
          refine E.get hw 0 0 dX11_terms_45 flX11_10 rfl rfl rfl rfl ?_
          refine E.getN hw 1 1 dX11_terms_48 fnX11_149 rfl rfl rfl rfl ?_
          refine E.iload_n 2 dX11_terms_51 rfl ?_
          refine E.iload_n 3 dX11_terms_52 rfl ?_
          obtain ⟨g4, hf⟩ := gd_some hf
          refine E.iast (es' := (wW15 G b v0_faultPlace v0_quashedRows v0_lastRefusal v1_beasts v1_meals v1_seats v1_laws v1_inForce (va_up a4 (x1 : Int32).toNatClampNeg x2) v42_beasts v42_seats v42_seated v42_quota v42_known v42_surveyed v42_steadyBench v42_steadyWays v42_steadySwing a78)) hw 2 4 dX11_terms_53 rfl rfl g4 rfl ?_
          refine E.aload_n 1 dX11_terms_54 rfl ?_
          refine E.iload_n 0 dX11_terms_55 rfl ?_
          obtain ⟨r5, hc5, hf⟩ := e_bind hf
          refine E.callVDs (es' := (wW15 G b v0_faultPlace v0_quashedRows r5.2.1 v1_beasts v1_meals v1_seats v1_laws v1_inForce (va_up a4 (x1 : Int32).toNatClampNeg x2) v42_beasts v42_seats v42_seated v42_quota r5.2.2 v42_surveyed v42_steadyBench v42_steadyWays v42_steadySwing a78)) [] [0, 3] 0 0 dX11_terms_56 mlX11_108 hw rfl rfl rfl rfl (mX11_accept (hw.pick2 [0, 3] rfl (by decide)) hc5) rfl rfl rfl rfl ⟨Nat.le_of_ble_eq_true rfl, Nat.le_of_ble_eq_true rfl⟩ rfl rfl (Nat.le_of_ble_eq_true rfl) ⟨Nat.le_refl _, Nat.le_refl _⟩ rfl ?_
          cases hf
          exact E.iret dX11_terms_59 (Nat.le_refl _) (Nat.le_refl _) (pD_rf _ _ _)
        · have hf := e_iff hf h
          refine E.locals [0] rfl ?_
          exact tX11_terms_L28 hw hf
set_option maxRecDepth 100000 in
theorem mX11_terms {G : GT} {b : Nat} {c0 : Hp} {n : Nat} (hw : e_wf (kW15) n) {v0_faultPlace : Int32} {v0_quashedRows : Int32} {v1_beasts : Int32} {v1_meals : Int32} {v1_seats : Int32} {v1_laws : Int32} {v1_inForce : Int32} {v42_beasts : Int32} {v42_seats : Int32} {v42_seated : Int32} {v42_quota : Int32} {v42_surveyed : Int32} {v42_steadyBench : Int32} {v42_steadyWays : Int32} {v42_steadySwing : Int64} {v0_lastRefusal : Int32} {a4 : Nat → Int32} {v42_known : Int32} {a78 : Nat → Int32} {x1 : Int32} {x2 : Int32} {R : Int32 × Int32 × (Nat → Int32) × Int32 × (Nat → Int32)} (hf : fX11_terms v0_lastRefusal a4 v42_known a78 x1 x2 = some R) : e_C G b yX11_terms cX11_terms 4 (some .int) 2 0 0 [.ref (b + 0), .int x1, .int x2] (e_ov (kW15) (wW15 G b v0_faultPlace v0_quashedRows v0_lastRefusal v1_beasts v1_meals v1_seats v1_laws v1_inForce a4 v42_beasts v42_seats v42_seated v42_quota v42_known v42_surveyed v42_steadyBench v42_steadyWays v42_steadySwing a78) c0) n (pD (some (.int R.1)) (e_ov (kW15) (wW15 G b v0_faultPlace v0_quashedRows R.2.1 v1_beasts v1_meals v1_seats v1_laws v1_inForce R.2.2.1 v42_beasts v42_seats v42_seated v42_quota R.2.2.2.1 v42_surveyed v42_steadyBench v42_steadyWays v42_steadySwing R.2.2.2.2) c0) n) := e_C.of (by decide) (Nat.le_of_ble_eq_true rfl) (tX11_terms hw hf)
