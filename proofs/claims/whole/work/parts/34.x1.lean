abbrev kW16 : List Nat := [30, 31]
abbrev wW16 (G : GT) (b  : Nat) (v30_length : Int32) (a31 : Nat → Int32) : List va_E := [.inr (9, [.ref (b + 31), .int v30_length]), aI G 400 a31]
def fX9_append_L3 (Fu : Nat) : Nat → Int32 → (Nat → Int32) → Int32 → Int32 → Option (Int32 × (Nat → Int32))
  | 0, _, _, _, _ => none
  | k + 1, v30_length, a31, x1, x2 => if (x2 : Int32) < (0 : Int32) then (some (v30_length, a31)) else (if (400 : Int32) ≤ (v30_length : Int32) then (some (v30_length, a31)) else (gd v30_length 400 ((fX9_append_L3 Fu k) (v30_length + 1) (va_up a31 (v30_length : Int32).toNatClampNeg (((x1 : Int32) >>> ((x2 : Int32) &&& 31)) &&& 255)) x1 (x2 + (-8 : Int32)))))
set_option maxHeartbeats 4000000 in
set_option maxRecDepth 100000 in
theorem tX9_append_L3 {G : GT} {b : Nat} {c0 : Hp} {n : Nat} (hw : e_wf (kW16) n)  {Fu : Nat} : ∀ (k : Nat) {v30_length : Int32} {a31 : Nat → Int32} {x1 : Int32} {x2 : Int32} {R : Int32 × (Nat → Int32)}, fX9_append_L3 Fu k v30_length a31 x1 x2 = some R → E G b yX9_append cX9_append 3 none (e_rm 0 0 0) e_X0 (e_Z G b (pD none (e_ov (kW16) (wW16 G b R.1 R.2) c0) n) 0 0) 3 [(0, .ref (b + 30)), (1, .int x1), (2, .int x2)] [] (e_ov (kW16) (wW16 G b v30_length a31) c0) n 0 0 := by
  intro k
  induction k with
  | zero =>
    intro _ _ _ _ _ hf
    have hf : (none : Option (Int32 × (Nat → Int32))) = some _ := hf
    cases hf
  | succ k ih =>
    intro v30_length a31 x1 x2 R hf
    rw [fX9_append_L3] at hf
    refine E.iload_n 2 dX9_append_3 rfl ?_
    refine E.if_lt dX9_append_4 (fun h => ?_) (fun h => ?_)
    · have hf := e_ift hf h
      cases hf
      exact E.vret dX9_append_49 (Nat.le_refl _) (Nat.le_refl _) (pD_rf _ _ _)
    · have hf := e_iff hf h
      refine E.aload_n 0 dX9_append_7 rfl ?_
      refine E.get hw 0 30 dX9_append_8 flX9_15 rfl rfl rfl rfl ?_
      refine E.sipush (v := 400) dX9_append_11 (by decide) ?_
      refine E.icmp_ge dX9_append_14 (fun h => ?_) (fun h => ?_)
      · have hf := e_ift hf h
        cases hf
        exact E.vret dX9_append_49 (Nat.le_refl _) (Nat.le_refl _) (pD_rf _ _ _)
      · have hf := e_iff hf h
        refine E.aload_n 0 dX9_append_17 rfl ?_
        refine E.get hw 0 30 dX9_append_18 flX9_9 rfl rfl rfl rfl ?_
        refine E.aload_n 0 dX9_append_21 rfl ?_
        refine E.get hw 0 30 dX9_append_22 flX9_15 rfl rfl rfl rfl ?_
        refine E.iload_n 1 dX9_append_25 rfl ?_
        refine E.iload_n 2 dX9_append_26 rfl ?_
        refine E.ishr dX9_append_27 ?_
        refine E.sipush (v := 255) dX9_append_28 (by decide) ?_
        refine E.iand dX9_append_31 ?_
        obtain ⟨g1, hf⟩ := gd_some hf
        refine E.iast (es' := (wW16 G b v30_length (va_up a31 (v30_length : Int32).toNatClampNeg (((x1 : Int32) >>> ((x2 : Int32) &&& 31)) &&& 255)))) hw 1 31 dX9_append_32 rfl rfl g1 rfl ?_
        refine E.aload_n 0 dX9_append_33 rfl ?_
        refine E.dup dX9_append_34 rfl ?_
        refine E.get hw 0 30 dX9_append_35 flX9_15 rfl rfl rfl rfl ?_
        refine E.iconst (v := 1) dX9_append_38 (by decide) ?_
        refine E.iadd dX9_append_39 ?_
        refine E.put (es' := (wW16 G b (v30_length + 1) (va_up a31 (v30_length : Int32).toNatClampNeg (((x1 : Int32) >>> ((x2 : Int32) &&& 31)) &&& 255)))) hw 0 30 dX9_append_40 flX9_15 ftX9 rfl rfl rfl rfl rfl rfl (Nat.le_of_ble_eq_true rfl) rfl ?_
        refine E.iinc (q := 2) (v := (x2 + (-8 : Int32))) (lv' := [(2, .int (x2 + (-8 : Int32))), (0, .ref (b + 30)), (1, .int x1)]) dX9_append_43 rfl rfl (by decide) rfl ?_
        refine E.goto dX9_append_46 ?_
        refine E.locals [1, 2, 0] rfl ?_
        exact ih hf
def fX9_append (Fu : Nat) (v30_length : Int32) (a31 : Nat → Int32) (x1 : Int32) : Option (Int32 × (Nat → Int32)) := fX9_append_L3 Fu Fu v30_length a31 x1 24
set_option maxHeartbeats 4000000 in
set_option maxRecDepth 100000 in
theorem tX9_append {G : GT} {b : Nat} {c0 : Hp} {n : Nat} (hw : e_wf (kW16) n)  {Fu : Nat} {v30_length : Int32} {a31 : Nat → Int32} {x1 : Int32} {R : Int32 × (Nat → Int32)} (hf : fX9_append Fu v30_length a31 x1 = some R) : E G b yX9_append cX9_append 3 none (e_rm 0 0 0) e_X0 (e_Z G b (pD none (e_ov (kW16) (wW16 G b R.1 R.2) c0) n) 0 0) 0 [(0, .ref (b + 30)), (1, .int x1)] [] (e_ov (kW16) (wW16 G b v30_length a31) c0) n 0 0 := by
  unfold fX9_append at hf
  refine E.bipush (v := 24) dX9_append_0 (by decide) ?_
  refine E.istore_n (lv' := [(2, .int 24), (0, .ref (b + 30)), (1, .int x1)]) dX9_append_2 (by decide) rfl ?_
  refine E.locals [1, 2, 0] rfl ?_
  exact tX9_append_L3 hw _ hf
set_option maxRecDepth 100000 in
theorem mX9_append {G : GT} {b : Nat} {c0 : Hp} {n : Nat} (hw : e_wf (kW16) n)  {Fu : Nat} {v30_length : Int32} {a31 : Nat → Int32} {x1 : Int32} {R : Int32 × (Nat → Int32)} (hf : fX9_append Fu v30_length a31 x1 = some R) : e_C G b yX9_append cX9_append 3 none 0 0 0 [.ref (b + 30), .int x1] (e_ov (kW16) (wW16 G b v30_length a31) c0) n (pD none (e_ov (kW16) (wW16 G b R.1 R.2) c0) n) := e_C.of (by decide) (Nat.le_of_ble_eq_true rfl) (tX9_append hw hf)
abbrev kW17 : List Nat := [0, 30, 31]
abbrev wW17 (G : GT) (b  : Nat) (v0_faultPlace : Int32) (v0_quashedRows : Int32) (v0_lastRefusal : Int32) (v30_length : Int32) (a31 : Nat → Int32) : List va_E := [.inr (11, [.ref (b + 1), .ref (b + 10), .ref (b + 29), .ref (b + 30), .ref (b + 32), .ref (b + 37), .ref (b + 40), .ref (b + 42), .ref (b + 69), .ref (b + 73), .ref (b + 74), .ref (b + 76), .ref (b + 78), .int v0_faultPlace, .int v0_quashedRows, .int v0_lastRefusal]), .inr (9, [.ref (b + 31), .int v30_length]), aI G 400 a31]
def fX11_feed (Fu : Nat) (v30_length : Int32) (a31 : Nat → Int32) (x1 : Int32) (x2 : Int32) (x3 : Int32) (x4 : Int32) (x5 : Int32) : Option (Int32 × Int32 × (Nat → Int32)) := if ((v30_length + 20) : Int32) ≤ (400 : Int32) then ((fX9_append Fu v30_length a31 x1).bind fun r1 => ((fX9_append Fu r1.1 r1.2 x2).bind fun r2 => ((fX9_append Fu r2.1 r2.2 x3).bind fun r3 => ((fX9_append Fu r3.1 r3.2 x4).bind fun r4 => ((fX9_append Fu r4.1 r4.2 x5).bind fun r5 => (some (r5.1, r5.1, r5.2))))))) else (some ((-1 : Int32), v30_length, a31))
set_option maxHeartbeats 4000000 in
set_option maxRecDepth 100000 in
theorem tX11_feed {G : GT} {b : Nat} {c0 : Hp} {n : Nat} (hw : e_wf (kW17) n) {v0_faultPlace : Int32} {v0_quashedRows : Int32} {v0_lastRefusal : Int32} {Fu : Nat} {v30_length : Int32} {a31 : Nat → Int32} {x1 : Int32} {x2 : Int32} {x3 : Int32} {x4 : Int32} {x5 : Int32} {R : Int32 × Int32 × (Nat → Int32)} (hf : fX11_feed Fu v30_length a31 x1 x2 x3 x4 x5 = some R) : E G b yX11_feed cX11_feed 6 (some .int) (e_rm 1 0 0) e_X0 (e_Z G b (pD (some (.int R.1)) (e_ov (kW17) (wW17 G b v0_faultPlace v0_quashedRows v0_lastRefusal R.2.1 R.2.2) c0) n) 0 0) 0 [(0, .ref (b + 0)), (1, .int x1), (2, .int x2), (3, .int x3), (4, .int x4), (5, .int x5)] [] (e_ov (kW17) (wW17 G b v0_faultPlace v0_quashedRows v0_lastRefusal v30_length a31) c0) n 0 0 := by
  unfold fX11_feed at hf
  refine E.aload_n 0 dX11_feed_0 rfl ?_
  refine E.get hw 0 0 dX11_feed_1 flX11_27 rfl rfl rfl rfl ?_
  refine E.getN hw 1 30 dX11_feed_4 fnX11_152 rfl rfl rfl rfl ?_
  refine E.bipush (v := 20) dX11_feed_7 (by decide) ?_
  refine E.iadd dX11_feed_9 ?_
  refine E.sipush (v := 400) dX11_feed_10 (by decide) ?_
  refine E.icmp_le dX11_feed_13 (fun h => ?_) (fun h => ?_)
  · have hf := e_ift hf h
    refine E.aload_n 0 dX11_feed_18 rfl ?_
    refine E.get hw 0 0 dX11_feed_19 flX11_27 rfl rfl rfl rfl ?_
    refine E.iload_n 1 dX11_feed_22 rfl ?_
    obtain ⟨r1, hc1, hf⟩ := e_bind hf
    refine E.callVDs (es' := (wW17 G b v0_faultPlace v0_quashedRows v0_lastRefusal r1.1 r1.2)) [] [1, 2] 1 30 dX11_feed_23 mlX11_155 hw rfl rfl rfl rfl (mX9_append (hw.pick2 [1, 2] rfl (by decide)) hc1) rfl rfl rfl rfl ⟨Nat.le_of_ble_eq_true rfl, Nat.le_of_ble_eq_true rfl⟩ rfl rfl (Nat.le_of_ble_eq_true rfl) ⟨Nat.le_refl _, Nat.le_refl _⟩ rfl ?_
    refine E.aload_n 0 dX11_feed_26 rfl ?_
    refine E.get hw 0 0 dX11_feed_27 flX11_27 rfl rfl rfl rfl ?_
    refine E.iload_n 2 dX11_feed_30 rfl ?_
    obtain ⟨r2, hc2, hf⟩ := e_bind hf
    refine E.callVDs (es' := (wW17 G b v0_faultPlace v0_quashedRows v0_lastRefusal r2.1 r2.2)) [] [1, 2] 1 30 dX11_feed_31 mlX11_155 hw rfl rfl rfl rfl (mX9_append (hw.pick2 [1, 2] rfl (by decide)) hc2) rfl rfl rfl rfl ⟨Nat.le_of_ble_eq_true rfl, Nat.le_of_ble_eq_true rfl⟩ rfl rfl (Nat.le_of_ble_eq_true rfl) ⟨Nat.le_refl _, Nat.le_refl _⟩ rfl ?_
    refine E.aload_n 0 dX11_feed_34 rfl ?_
    refine E.get hw 0 0 dX11_feed_35 flX11_27 rfl rfl rfl rfl ?_
    refine E.iload_n 3 dX11_feed_38 rfl ?_
    obtain ⟨r3, hc3, hf⟩ := e_bind hf
    refine E.callVDs (es' := (wW17 G b v0_faultPlace v0_quashedRows v0_lastRefusal r3.1 r3.2)) [] [1, 2] 1 30 dX11_feed_39 mlX11_155 hw rfl rfl rfl rfl (mX9_append (hw.pick2 [1, 2] rfl (by decide)) hc3) rfl rfl rfl rfl ⟨Nat.le_of_ble_eq_true rfl, Nat.le_of_ble_eq_true rfl⟩ rfl rfl (Nat.le_of_ble_eq_true rfl) ⟨Nat.le_refl _, Nat.le_refl _⟩ rfl ?_
    refine E.aload_n 0 dX11_feed_42 rfl ?_
    refine E.get hw 0 0 dX11_feed_43 flX11_27 rfl rfl rfl rfl ?_
    refine E.iload 4 dX11_feed_46 rfl ?_
    obtain ⟨r4, hc4, hf⟩ := e_bind hf
    refine E.callVDs (es' := (wW17 G b v0_faultPlace v0_quashedRows v0_lastRefusal r4.1 r4.2)) [] [1, 2] 1 30 dX11_feed_48 mlX11_155 hw rfl rfl rfl rfl (mX9_append (hw.pick2 [1, 2] rfl (by decide)) hc4) rfl rfl rfl rfl ⟨Nat.le_of_ble_eq_true rfl, Nat.le_of_ble_eq_true rfl⟩ rfl rfl (Nat.le_of_ble_eq_true rfl) ⟨Nat.le_refl _, Nat.le_refl _⟩ rfl ?_
    refine E.aload_n 0 dX11_feed_51 rfl ?_
    refine E.get hw 0 0 dX11_feed_52 flX11_27 rfl rfl rfl rfl ?_
    refine E.iload 5 dX11_feed_55 rfl ?_
    obtain ⟨r5, hc5, hf⟩ := e_bind hf
    refine E.callVDs (es' := (wW17 G b v0_faultPlace v0_quashedRows v0_lastRefusal r5.1 r5.2)) [] [1, 2] 1 30 dX11_feed_57 mlX11_155 hw rfl rfl rfl rfl (mX9_append (hw.pick2 [1, 2] rfl (by decide)) hc5) rfl rfl rfl rfl ⟨Nat.le_of_ble_eq_true rfl, Nat.le_of_ble_eq_true rfl⟩ rfl rfl (Nat.le_of_ble_eq_true rfl) ⟨Nat.le_refl _, Nat.le_refl _⟩ rfl ?_
    refine E.aload_n 0 dX11_feed_60 rfl ?_
    refine E.get hw 0 0 dX11_feed_61 flX11_27 rfl rfl rfl rfl ?_
    refine E.getN hw 1 30 dX11_feed_64 fnX11_152 rfl rfl rfl rfl ?_
    cases hf
    exact E.iret dX11_feed_67 (Nat.le_refl _) (Nat.le_refl _) (pD_rf _ _ _)
  · have hf := e_iff hf h
    refine E.iconst (v := -1) dX11_feed_16 (by decide) ?_
    cases hf
    exact E.iret dX11_feed_17 (Nat.le_refl _) (Nat.le_refl _) (pD_rf _ _ _)
set_option maxRecDepth 100000 in
theorem mX11_feed {G : GT} {b : Nat} {c0 : Hp} {n : Nat} (hw : e_wf (kW17) n) {v0_faultPlace : Int32} {v0_quashedRows : Int32} {v0_lastRefusal : Int32} {Fu : Nat} {v30_length : Int32} {a31 : Nat → Int32} {x1 : Int32} {x2 : Int32} {x3 : Int32} {x4 : Int32} {x5 : Int32} {R : Int32 × Int32 × (Nat → Int32)} (hf : fX11_feed Fu v30_length a31 x1 x2 x3 x4 x5 = some R) : e_C G b yX11_feed cX11_feed 6 (some .int) 1 0 0 [.ref (b + 0), .int x1, .int x2, .int x3, .int x4, .int x5] (e_ov (kW17) (wW17 G b v0_faultPlace v0_quashedRows v0_lastRefusal v30_length a31) c0) n (pD (some (.int R.1)) (e_ov (kW17) (wW17 G b v0_faultPlace v0_quashedRows v0_lastRefusal R.2.1 R.2.2) c0) n) := e_C.of (by decide) (Nat.le_of_ble_eq_true rfl) (tX11_feed hw hf)
abbrev kW18 : List Nat := [0, 30]
abbrev wW18 (G : GT) (b  : Nat) (v0_faultPlace : Int32) (v0_quashedRows : Int32) (v0_lastRefusal : Int32) (v30_length : Int32) : List va_E := [.inr (11, [.ref (b + 1), .ref (b + 10), .ref (b + 29), .ref (b + 30), .ref (b + 32), .ref (b + 37), .ref (b + 40), .ref (b + 42), .ref (b + 69), .ref (b + 73), .ref (b + 74), .ref (b + 76), .ref (b + 78), .int v0_faultPlace, .int v0_quashedRows, .int v0_lastRefusal]), .inr (9, [.ref (b + 31), .int v30_length])]
def fX11_end (v30_length : Int32) (x1 : Int32) : Option (Int32 × Int32) := if (x1 : Int32) < (0 : Int32) then (some ((-1 : Int32), v30_length)) else (if (x1 : Int32) ≤ (v30_length : Int32) then (some (x1, x1)) else (some ((-1 : Int32), v30_length)))
set_option maxHeartbeats 4000000 in
set_option maxRecDepth 100000 in
theorem tX11_end {G : GT} {b : Nat} {c0 : Hp} {n : Nat} (hw : e_wf (kW18) n) {v0_faultPlace : Int32} {v0_quashedRows : Int32} {v0_lastRefusal : Int32} {v30_length : Int32} {x1 : Int32} {R : Int32 × Int32} (hf : fX11_end v30_length x1 = some R) : E G b yX11_end cX11_end 2 (some .int) (e_rm 0 0 0) e_X0 (e_Z G b (pD (some (.int R.1)) (e_ov (kW18) (wW18 G b v0_faultPlace v0_quashedRows v0_lastRefusal R.2) c0) n) 0 0) 0 [(0, .ref (b + 0)), (1, .int x1)] [] (e_ov (kW18) (wW18 G b v0_faultPlace v0_quashedRows v0_lastRefusal v30_length) c0) n 0 0 := by
  unfold fX11_end at hf
  refine E.iload_n 1 dX11_end_0 rfl ?_
  refine E.if_lt dX11_end_1 (fun h => ?_) (fun h => ?_)
  · have hf := e_ift hf h
    refine E.iconst (v := -1) dX11_end_15 (by decide) ?_
    cases hf
    exact E.iret dX11_end_16 (Nat.le_refl _) (Nat.le_refl _) (pD_rf _ _ _)
  · have hf := e_iff hf h
    refine E.iload_n 1 dX11_end_4 rfl ?_
    refine E.aload_n 0 dX11_end_5 rfl ?_
    refine E.get hw 0 0 dX11_end_6 flX11_27 rfl rfl rfl rfl ?_
    refine E.getN hw 1 30 dX11_end_9 fnX11_152 rfl rfl rfl rfl ?_
    refine E.icmp_le dX11_end_12 (fun h => ?_) (fun h => ?_)
    · have hf := e_ift hf h
      refine E.aload_n 0 dX11_end_17 rfl ?_
      refine E.get hw 0 0 dX11_end_18 flX11_27 rfl rfl rfl rfl ?_
      refine E.iload_n 1 dX11_end_21 rfl ?_
      refine E.putN (es' := (wW18 G b v0_faultPlace v0_quashedRows v0_lastRefusal x1)) hw 1 30 dX11_end_22 fnX11_152 ftX9 rfl rfl rfl rfl rfl rfl (Nat.le_of_ble_eq_true rfl) rfl ?_
      refine E.iload_n 1 dX11_end_25 rfl ?_
      cases hf
      exact E.iret dX11_end_26 (Nat.le_refl _) (Nat.le_refl _) (pD_rf _ _ _)
    · have hf := e_iff hf h
      refine E.iconst (v := -1) dX11_end_15 (by decide) ?_
      cases hf
      exact E.iret dX11_end_16 (Nat.le_refl _) (Nat.le_refl _) (pD_rf _ _ _)
set_option maxRecDepth 100000 in
theorem mX11_end {G : GT} {b : Nat} {c0 : Hp} {n : Nat} (hw : e_wf (kW18) n) {v0_faultPlace : Int32} {v0_quashedRows : Int32} {v0_lastRefusal : Int32} {v30_length : Int32} {x1 : Int32} {R : Int32 × Int32} (hf : fX11_end v30_length x1 = some R) : e_C G b yX11_end cX11_end 2 (some .int) 0 0 0 [.ref (b + 0), .int x1] (e_ov (kW18) (wW18 G b v0_faultPlace v0_quashedRows v0_lastRefusal v30_length) c0) n (pD (some (.int R.1)) (e_ov (kW18) (wW18 G b v0_faultPlace v0_quashedRows v0_lastRefusal R.2) c0) n) := e_C.of (by decide) (Nat.le_of_ble_eq_true rfl) (tX11_end hw hf)
def fX9_at_L21 (v30_length : Int32) (a31 : Nat → Int32) : Option (Int32) := some ((-1 : Int32))
set_option maxHeartbeats 4000000 in
set_option maxRecDepth 100000 in
theorem tX9_at_L21 {G : GT} {b : Nat} {c0 : Hp} {n : Nat} (hw : e_wf (kW16) n)  {v30_length : Int32} {a31 : Nat → Int32} {R : Int32} (hf : fX9_at_L21 v30_length a31 = some R) : E G b yX9_at cX9_at 2 (some .int) (e_rm 0 0 0) e_X0 (e_Z G b (pD (some (.int R)) (e_ov (kW16) (wW16 G b v30_length a31) c0) n) 0 0) 21 [] [] (e_ov (kW16) (wW16 G b v30_length a31) c0) n 0 0 := by
  unfold fX9_at_L21 at hf
  refine E.iconst (v := -1) dX9_at_21 (by decide) ?_
  cases hf
  exact E.iret dX9_at_22 (Nat.le_refl _) (Nat.le_refl _) (pD_rf _ _ _)
def fX9_at (v30_length : Int32) (a31 : Nat → Int32) (x1 : Int32) : Option (Int32) := if (x1 : Int32) < (0 : Int32) then (fX9_at_L21 v30_length a31) else (if (v30_length : Int32) ≤ (x1 : Int32) then (fX9_at_L21 v30_length a31) else (gd x1 400 (some ((a31 (x1 : Int32).toNatClampNeg)))))
set_option maxHeartbeats 4000000 in
set_option maxRecDepth 100000 in
theorem tX9_at {G : GT} {b : Nat} {c0 : Hp} {n : Nat} (hw : e_wf (kW16) n)  {v30_length : Int32} {a31 : Nat → Int32} {x1 : Int32} {R : Int32} (hf : fX9_at v30_length a31 x1 = some R) : E G b yX9_at cX9_at 2 (some .int) (e_rm 0 0 0) e_X0 (e_Z G b (pD (some (.int R)) (e_ov (kW16) (wW16 G b v30_length a31) c0) n) 0 0) 0 [(0, .ref (b + 30)), (1, .int x1)] [] (e_ov (kW16) (wW16 G b v30_length a31) c0) n 0 0 := by
  unfold fX9_at at hf
  refine E.iload_n 1 dX9_at_0 rfl ?_
  refine E.if_lt dX9_at_1 (fun h => ?_) (fun h => ?_)
  · have hf := e_ift hf h
    refine E.locals [] rfl ?_
    exact tX9_at_L21 hw hf
  · have hf := e_iff hf h
    refine E.iload_n 1 dX9_at_4 rfl ?_
    refine E.aload_n 0 dX9_at_5 rfl ?_
    refine E.get hw 0 30 dX9_at_6 flX9_15 rfl rfl rfl rfl ?_
    refine E.icmp_ge dX9_at_9 (fun h => ?_) (fun h => ?_)
    · have hf := e_ift hf h
      refine E.locals [] rfl ?_
      exact tX9_at_L21 hw hf
    · have hf := e_iff hf h
      refine E.aload_n 0 dX9_at_12 rfl ?_
      refine E.get hw 0 30 dX9_at_13 flX9_9 rfl rfl rfl rfl ?_
      refine E.iload_n 1 dX9_at_16 rfl ?_
      obtain ⟨g1, hf⟩ := gd_some hf
      refine E.iald hw 1 31 dX9_at_17 rfl rfl g1 ?_
      refine E.goto dX9_at_18 ?_
      cases hf
      exact E.iret dX9_at_22 (Nat.le_refl _) (Nat.le_refl _) (pD_rf _ _ _)
set_option maxRecDepth 100000 in
theorem mX9_at {G : GT} {b : Nat} {c0 : Hp} {n : Nat} (hw : e_wf (kW16) n)  {v30_length : Int32} {a31 : Nat → Int32} {x1 : Int32} {R : Int32} (hf : fX9_at v30_length a31 x1 = some R) : e_C G b yX9_at cX9_at 2 (some .int) 0 0 0 [.ref (b + 30), .int x1] (e_ov (kW16) (wW16 G b v30_length a31) c0) n (pD (some (.int R)) (e_ov (kW16) (wW16 G b v30_length a31) c0) n) := e_C.of (by decide) (Nat.le_of_ble_eq_true rfl) (tX9_at hw hf)
def fX11_isSide (x0 : Int32) : Option (Int32) := if (x0 : Int32) = (0 : Int32) then (some (1)) else (if (x0 : Int32) = (1 : Int32) then (some (1)) else (some (0)))
set_option maxHeartbeats 4000000 in
set_option maxRecDepth 100000 in
theorem tX11_isSide {G : GT} {b : Nat} {c : Hp} {n : Nat} {x0 : Int32} {R : Int32} (hf : fX11_isSide x0 = some R) : E G b yX11_isSide cX11_isSide 1 (some .boolean) (e_rm 0 0 0) e_X0 (e_Z G b (pD (some (.int R)) c n) 0 0) 0 [(0, .int x0)] [] c n 0 0 := by
  unfold fX11_isSide at hf
  refine E.iload_n 0 dX11_isSide_0 rfl ?_
  refine E.if_eq dX11_isSide_1 (fun h => ?_) (fun h => ?_)
  · have hf := e_ift hf h
    refine E.iconst (v := 1) dX11_isSide_9 (by decide) ?_
    refine E.goto dX11_isSide_10 ?_
    cases hf
    exact E.zret dX11_isSide_14 rfl (Nat.le_refl _) (Nat.le_refl _) (pD_rf _ _ _)
  · have hf := e_iff hf h
    refine E.iload_n 0 dX11_isSide_4 rfl ?_
    refine E.iconst (v := 1) dX11_isSide_5 (by decide) ?_
    refine E.icmp_ne dX11_isSide_6 (fun h => ?_) (fun h => ?_)
    · have hf := e_iff hf h
      refine E.iconst (v := 0) dX11_isSide_13 (by decide) ?_
      cases hf
      exact E.zret dX11_isSide_14 rfl (Nat.le_refl _) (Nat.le_refl _) (pD_rf _ _ _)
    · have hf := e_ift hf h
      refine E.iconst (v := 1) dX11_isSide_9 (by decide) ?_
      refine E.goto dX11_isSide_10 ?_
      cases hf
      exact E.zret dX11_isSide_14 rfl (Nat.le_refl _) (Nat.le_refl _) (pD_rf _ _ _)
set_option maxRecDepth 100000 in
theorem mX11_isSide {G : GT} {b : Nat} {c : Hp} {n : Nat} {x0 : Int32} {R : Int32} (hf : fX11_isSide x0 = some R) : e_C G b yX11_isSide cX11_isSide 1 (some .boolean) 0 0 0 [.int x0] c n (pD (some (.int R)) c n) := e_C.of (by decide) (Nat.le_of_ble_eq_true rfl) (tX11_isSide hf)
def fX11_canJudge_L30 : Option (Int32) := some (0)
set_option maxHeartbeats 4000000 in
set_option maxRecDepth 100000 in
theorem tX11_canJudge_L30 {G : GT} {b : Nat} {c : Hp} {n : Nat}  {R : Int32} (hf : fX11_canJudge_L30 = some R) : E G b yX11_canJudge cX11_canJudge 3 (some .boolean) (e_rm 1 0 0) e_X0 (e_Z G b (pD (some (.int R)) c n) 0 0) 30 [] [] c n 0 0 := by
  unfold fX11_canJudge_L30 at hf
  refine E.iconst (v := 0) dX11_canJudge_30 (by decide) ?_
  cases hf
  exact E.zret dX11_canJudge_31 rfl (Nat.le_refl _) (Nat.le_refl _) (pD_rf _ _ _)
def fX11_canJudge (x0 : Int32) (x1 : Int32) (x2 : Int32) : Option (Int32) := (fX11_isSide x0).bind fun r1 => (if (r1 : Int32) = (0 : Int32) then (fX11_canJudge_L30) else (if (x1 : Int32) < (0 : Int32) then (fX11_canJudge_L30) else (if (256 : Int32) ≤ (x1 : Int32) then (fX11_canJudge_L30) else (if ((x2 &&& (x1 ^^^ (-1 : Int32))) : Int32) = (0 : Int32) then (some (1)) else (fX11_canJudge_L30)))))
set_option maxHeartbeats 4000000 in
set_option maxRecDepth 100000 in
theorem tX11_canJudge {G : GT} {b : Nat} {c : Hp} {n : Nat} {x0 : Int32} {x1 : Int32} {x2 : Int32} {R : Int32} (hf : fX11_canJudge x0 x1 x2 = some R) : E G b yX11_canJudge cX11_canJudge 3 (some .boolean) (e_rm 1 0 0) e_X0 (e_Z G b (pD (some (.int R)) c n) 0 0) 0 [(0, .int x0), (1, .int x1), (2, .int x2)] [] c n 0 0 := by
  unfold fX11_canJudge at hf
  refine E.iload_n 0 dX11_canJudge_0 rfl ?_
  obtain ⟨r1, hc1, hf⟩ := e_bind hf
  refine E.callSD [] dX11_canJudge_1 mlX11_203 (mX11_isSide hc1) ⟨Nat.le_of_ble_eq_true rfl, Nat.le_of_ble_eq_true rfl⟩ rfl rfl (Nat.le_of_ble_eq_true rfl) ⟨Nat.le_refl _, Nat.le_refl _⟩ rfl ?_
  refine E.if_eq dX11_canJudge_4 (fun h => ?_) (fun h => ?_)
  · have hf := e_ift hf h
    refine E.locals [] rfl ?_
    exact tX11_canJudge_L30 hf
  · have hf := e_iff hf h
    refine E.iload_n 1 dX11_canJudge_7 rfl ?_
    refine E.if_lt dX11_canJudge_8 (fun h => ?_) (fun h => ?_)
    · have hf := e_ift hf h
      refine E.locals [] rfl ?_
      exact tX11_canJudge_L30 hf
    · have hf := e_iff hf h
      refine E.iload_n 1 dX11_canJudge_11 rfl ?_
      refine E.sipush (v := 256) dX11_canJudge_12 (by decide) ?_
      refine E.icmp_ge dX11_canJudge_15 (fun h => ?_) (fun h => ?_)
      · have hf := e_ift hf h
        refine E.locals [] rfl ?_
        exact tX11_canJudge_L30 hf
      · have hf := e_iff hf h
        refine E.iload_n 2 dX11_canJudge_18 rfl ?_
        refine E.iload_n 1 dX11_canJudge_19 rfl ?_
        refine E.iconst (v := -1) dX11_canJudge_20 (by decide) ?_
        refine E.ixor dX11_canJudge_21 ?_
        refine E.iand dX11_canJudge_22 ?_
        refine E.if_ne dX11_canJudge_23 (fun h => ?_) (fun h => ?_)
        · have hf := e_iff hf h
          refine E.locals [] rfl ?_
          exact tX11_canJudge_L30 hf
        · have hf := e_ift hf h
          refine E.iconst (v := 1) dX11_canJudge_26 (by decide) ?_
          refine E.goto dX11_canJudge_27 ?_
          cases hf
          exact E.zret dX11_canJudge_31 rfl (Nat.le_refl _) (Nat.le_refl _) (pD_rf _ _ _)
set_option maxRecDepth 100000 in
theorem mX11_canJudge {G : GT} {b : Nat} {c : Hp} {n : Nat} {x0 : Int32} {x1 : Int32} {x2 : Int32} {R : Int32} (hf : fX11_canJudge x0 x1 x2 = some R) : e_C G b yX11_canJudge cX11_canJudge 3 (some .boolean) 1 0 0 [.int x0, .int x1, .int x2] c n (pD (some (.int R)) c n) := e_C.of (by decide) (Nat.le_of_ble_eq_true rfl) (tX11_canJudge hf)
abbrev kW20 (t : Nat) : List Nat := [t, (t + 1), (t + 2), (t + 3)]
abbrev wW20 (G : GT) (b t : Nat) (vT0_cases : Int32) (aT1 : Nat → Int32) (aT2 : Nat → Int32) (aT3 : Nat → Int32) : List va_E := [.inr (2, [.ref (b + (t + 1)), .ref (b + (t + 2)), .ref (b + (t + 3)), .int vT0_cases]), aI G 20 aT1, aI G 20 aT2, aI G 20 aT3]
def fX2_add (vT0_cases : Int32) (aT1 : Nat → Int32) (aT2 : Nat → Int32) (aT3 : Nat → Int32) (x1 : Int32) (x2 : Int32) (x3 : Int32) : Option (Int32 × (Nat → Int32) × (Nat → Int32) × (Nat → Int32)) := if (vT0_cases : Int32) < (20 : Int32) then (gd vT0_cases 20 (gd vT0_cases 20 (gd vT0_cases 20 (some ((vT0_cases + 1), (va_up aT1 (vT0_cases : Int32).toNatClampNeg x1), (va_up aT2 (vT0_cases : Int32).toNatClampNeg x2), (va_up aT3 (vT0_cases : Int32).toNatClampNeg x3)))))) else (some (vT0_cases, aT1, aT2, aT3))
set_option maxHeartbeats 4000000 in
set_option maxRecDepth 100000 in
theorem tX2_add {G : GT} {b : Nat} {t : Nat} {c0 : Hp} {n : Nat} (hw : e_wf (kW20 t) n)  {vT0_cases : Int32} {aT1 : Nat → Int32} {aT2 : Nat → Int32} {aT3 : Nat → Int32} {x1 : Int32} {x2 : Int32} {x3 : Int32} {R : Int32 × (Nat → Int32) × (Nat → Int32) × (Nat → Int32)} (hf : fX2_add vT0_cases aT1 aT2 aT3 x1 x2 x3 = some R) : E G b yX2_add cX2_add 4 none (e_rm 0 0 0) e_X0 (e_Z G b (pD none (e_ov (kW20 t) (wW20 G b t R.1 R.2.1 R.2.2.1 R.2.2.2) c0) n) 0 0) 0 [(0, .ref (b + t)), (1, .int x1), (2, .int x2), (3, .int x3)] [] (e_ov (kW20 t) (wW20 G b t vT0_cases aT1 aT2 aT3) c0) n 0 0 := by
  unfold fX2_add at hf
  refine E.aload_n 0 dX2_add_0 rfl ?_
  refine E.get hw 0 t dX2_add_1 flX2_27 rfl rfl rfl rfl ?_
  refine E.bipush (v := 20) dX2_add_4 (by decide) ?_
  refine E.icmp_lt dX2_add_6 (fun h => ?_) (fun h => ?_)
  · have hf := e_ift hf h
    refine E.aload_n 0 dX2_add_10 rfl ?_
    refine E.get hw 0 t dX2_add_11 flX2_9 rfl rfl rfl rfl ?_
    refine E.aload_n 0 dX2_add_14 rfl ?_
    refine E.get hw 0 t dX2_add_15 flX2_27 rfl rfl rfl rfl ?_
    refine E.iload_n 1 dX2_add_18 rfl ?_
    obtain ⟨g1, hf⟩ := gd_some hf
    refine E.iast (es' := (wW20 G b t vT0_cases (va_up aT1 (vT0_cases : Int32).toNatClampNeg x1) aT2 aT3)) hw 1 (t + 1) dX2_add_19 rfl rfl g1 rfl ?_
    refine E.aload_n 0 dX2_add_20 rfl ?_
    refine E.get hw 0 t dX2_add_21 flX2_15 rfl rfl rfl rfl ?_
    refine E.aload_n 0 dX2_add_24 rfl ?_
    refine E.get hw 0 t dX2_add_25 flX2_27 rfl rfl rfl rfl ?_
    refine E.iload_n 2 dX2_add_28 rfl ?_
    obtain ⟨g2, hf⟩ := gd_some hf
    refine E.iast (es' := (wW20 G b t vT0_cases (va_up aT1 (vT0_cases : Int32).toNatClampNeg x1) (va_up aT2 (vT0_cases : Int32).toNatClampNeg x2) aT3)) hw 2 (t + 2) dX2_add_29 rfl rfl g2 rfl ?_
    refine E.aload_n 0 dX2_add_30 rfl ?_
    refine E.get hw 0 t dX2_add_31 flX2_18 rfl rfl rfl rfl ?_
    refine E.aload_n 0 dX2_add_34 rfl ?_
    refine E.get hw 0 t dX2_add_35 flX2_27 rfl rfl rfl rfl ?_
    refine E.iload_n 3 dX2_add_38 rfl ?_
    obtain ⟨g3, hf⟩ := gd_some hf
    refine E.iast (es' := (wW20 G b t vT0_cases (va_up aT1 (vT0_cases : Int32).toNatClampNeg x1) (va_up aT2 (vT0_cases : Int32).toNatClampNeg x2) (va_up aT3 (vT0_cases : Int32).toNatClampNeg x3))) hw 3 (t + 3) dX2_add_39 rfl rfl g3 rfl ?_
    refine E.aload_n 0 dX2_add_40 rfl ?_
    refine E.dup dX2_add_41 rfl ?_
    refine E.get hw 0 t dX2_add_42 flX2_27 rfl rfl rfl rfl ?_
    refine E.iconst (v := 1) dX2_add_45 (by decide) ?_
    refine E.iadd dX2_add_46 ?_
    refine E.put (es' := (wW20 G b t (vT0_cases + 1) (va_up aT1 (vT0_cases : Int32).toNatClampNeg x1) (va_up aT2 (vT0_cases : Int32).toNatClampNeg x2) (va_up aT3 (vT0_cases : Int32).toNatClampNeg x3))) hw 0 t dX2_add_47 flX2_27 ftX2 rfl rfl rfl rfl rfl rfl (Nat.le_of_ble_eq_true rfl) rfl ?_
    cases hf
    exact E.vret dX2_add_50 (Nat.le_refl _) (Nat.le_refl _) (pD_rf _ _ _)
  · have hf := e_iff hf h
    cases hf
    exact E.vret dX2_add_9 (Nat.le_refl _) (Nat.le_refl _) (pD_rf _ _ _)
set_option maxRecDepth 100000 in
theorem mX2_add {G : GT} {b : Nat} {t : Nat} {c0 : Hp} {n : Nat} (hw : e_wf (kW20 t) n)  {vT0_cases : Int32} {aT1 : Nat → Int32} {aT2 : Nat → Int32} {aT3 : Nat → Int32} {x1 : Int32} {x2 : Int32} {x3 : Int32} {R : Int32 × (Nat → Int32) × (Nat → Int32) × (Nat → Int32)} (hf : fX2_add vT0_cases aT1 aT2 aT3 x1 x2 x3 = some R) : e_C G b yX2_add cX2_add 4 none 0 0 0 [.ref (b + t), .int x1, .int x2, .int x3] (e_ov (kW20 t) (wW20 G b t vT0_cases aT1 aT2 aT3) c0) n (pD none (e_ov (kW20 t) (wW20 G b t R.1 R.2.1 R.2.2.1 R.2.2.2) c0) n) := e_C.of (by decide) (Nat.le_of_ble_eq_true rfl) (tX2_add hw hf)
abbrev kW21 : List Nat := [0, 1, 6, 7, 8, 9, 30, 31, 42, 78]
abbrev wW21 (G : GT) (b  : Nat) (v0_faultPlace : Int32) (v0_quashedRows : Int32) (v0_lastRefusal : Int32) (v1_beasts : Int32) (v1_meals : Int32) (v1_seats : Int32) (v1_laws : Int32) (v1_inForce : Int32) (v6_cases : Int32) (a7 : Nat → Int32) (a8 : Nat → Int32) (a9 : Nat → Int32) (v30_length : Int32) (a31 : Nat → Int32) (v42_beasts : Int32) (v42_seats : Int32) (v42_seated : Int32) (v42_quota : Int32) (v42_known : Int32) (v42_surveyed : Int32) (v42_steadyBench : Int32) (v42_steadyWays : Int32) (v42_steadySwing : Int64) (a78 : Nat → Int32) : List va_E := [.inr (11, [.ref (b + 1), .ref (b + 10), .ref (b + 29), .ref (b + 30), .ref (b + 32), .ref (b + 37), .ref (b + 40), .ref (b + 42), .ref (b + 69), .ref (b + 73), .ref (b + 74), .ref (b + 76), .ref (b + 78), .int v0_faultPlace, .int v0_quashedRows, .int v0_lastRefusal]), .inr (10, [.ref (b + 2), .ref (b + 3), .ref (b + 4), .ref (b + 5), .ref (b + 6), .int v1_beasts, .int v1_meals, .int v1_seats, .int v1_laws, .int v1_inForce]), .inr (2, [.ref (b + 7), .ref (b + 8), .ref (b + 9), .int v6_cases]), aI G 20 a7, aI G 20 a8, aI G 20 a9, .inr (9, [.ref (b + 31), .int v30_length]), aI G 400 a31, .inr (1, [.ref (b + 43), .ref (b + 44), .ref (b + 45), .ref (b + 46), .ref (b + 47), .ref (b + 48), .ref (b + 49), .ref (b + 50), .ref (b + 67), .int v42_beasts, .int v42_seats, .int v42_seated, .int v42_quota, .int v42_known, .int v42_surveyed, .int v42_steadyBench, .int v42_steadyWays, .long v42_steadySwing]), aI G 7 a78]
def fX11_row_L153 (Fu : Nat) (k26 : Int32 → Int32 → Int32 → (Nat → Int32) → (Nat → Int32) → (Nat → Int32) → Int32 → (Nat → Int32) → Int32 → (Nat → Int32) → Int32 → Int32 → Option (Int32 × Int32 × Int32 × Int32 × (Nat → Int32) × (Nat → Int32) × (Nat → Int32) × Int32 × Int32 × (Nat → Int32))) (v0_quashedRows : Int32) (v0_lastRefusal : Int32) (v6_cases : Int32) (a7 : Nat → Int32) (a8 : Nat → Int32) (a9 : Nat → Int32) (v30_length : Int32) (a31 : Nat → Int32) (v42_known : Int32) (a78 : Nat → Int32) (x1 : Int32) (x2 : Int32) : Option (Int32 × Int32 × Int32 × Int32 × (Nat → Int32) × (Nat → Int32) × (Nat → Int32) × Int32 × Int32 × (Nat → Int32)) := k26 (v0_quashedRows + 1) v0_lastRefusal v6_cases a7 a8 a9 v30_length a31 v42_known a78 x1 (x2 + 3)
set_option maxHeartbeats 4000000 in
set_option maxRecDepth 100000 in
theorem tX11_row_L153 {G : GT} {b : Nat} {c0 : Hp} {n : Nat} (hw : e_wf (kW21) n) {v0_faultPlace : Int32} {v1_beasts : Int32} {v1_meals : Int32} {v1_seats : Int32} {v1_laws : Int32} {v1_inForce : Int32} {v42_beasts : Int32} {v42_seats : Int32} {v42_seated : Int32} {v42_quota : Int32} {v42_surveyed : Int32} {v42_steadyBench : Int32} {v42_steadyWays : Int32} {v42_steadySwing : Int64} {Fu : Nat} {k26 : Int32 → Int32 → Int32 → (Nat → Int32) → (Nat → Int32) → (Nat → Int32) → Int32 → (Nat → Int32) → Int32 → (Nat → Int32) → Int32 → Int32 → Option (Int32 × Int32 × Int32 × Int32 × (Nat → Int32) × (Nat → Int32) × (Nat → Int32) × Int32 × Int32 × (Nat → Int32))} (hk26 : ∀ {v0_quashedRows : Int32} {v0_lastRefusal : Int32} {v6_cases : Int32} {a7 : Nat → Int32} {a8 : Nat → Int32} {a9 : Nat → Int32} {v30_length : Int32} {a31 : Nat → Int32} {v42_known : Int32} {a78 : Nat → Int32} {x1 : Int32} {x2 : Int32} {R : Int32 × Int32 × Int32 × Int32 × (Nat → Int32) × (Nat → Int32) × (Nat → Int32) × Int32 × Int32 × (Nat → Int32)}, k26 v0_quashedRows v0_lastRefusal v6_cases a7 a8 a9 v30_length a31 v42_known a78 x1 x2 = some R → E G b yX11_row cX11_row 4 (some .int) (e_rm 2 0 0) e_X0 (e_Z G b (pD (some (.int R.1)) (e_ov (kW21) (wW21 G b v0_faultPlace R.2.1 R.2.2.1 v1_beasts v1_meals v1_seats v1_laws v1_inForce R.2.2.2.1 R.2.2.2.2.1 R.2.2.2.2.2.1 R.2.2.2.2.2.2.1 R.2.2.2.2.2.2.2.1 a31 v42_beasts v42_seats v42_seated v42_quota R.2.2.2.2.2.2.2.2.1 v42_surveyed v42_steadyBench v42_steadyWays v42_steadySwing R.2.2.2.2.2.2.2.2.2) c0) n) 0 0) 26 [(0, .ref (b + 0)), (1, .int x1), (2, .int x2)] [] (e_ov (kW21) (wW21 G b v0_faultPlace v0_quashedRows v0_lastRefusal v1_beasts v1_meals v1_seats v1_laws v1_inForce v6_cases a7 a8 a9 v30_length a31 v42_beasts v42_seats v42_seated v42_quota v42_known v42_surveyed v42_steadyBench v42_steadyWays v42_steadySwing a78) c0) n 0 0) {v0_quashedRows : Int32} {v0_lastRefusal : Int32} {v6_cases : Int32} {a7 : Nat → Int32} {a8 : Nat → Int32} {a9 : Nat → Int32} {v30_length : Int32} {a31 : Nat → Int32} {v42_known : Int32} {a78 : Nat → Int32} {x1 : Int32} {x2 : Int32} {R : Int32 × Int32 × Int32 × Int32 × (Nat → Int32) × (Nat → Int32) × (Nat → Int32) × Int32 × Int32 × (Nat → Int32)} (hf : fX11_row_L153 Fu k26 v0_quashedRows v0_lastRefusal v6_cases a7 a8 a9 v30_length a31 v42_known a78 x1 x2 = some R) : E G b yX11_row cX11_row 4 (some .int) (e_rm 2 0 0) e_X0 (e_Z G b (pD (some (.int R.1)) (e_ov (kW21) (wW21 G b v0_faultPlace R.2.1 R.2.2.1 v1_beasts v1_meals v1_seats v1_laws v1_inForce R.2.2.2.1 R.2.2.2.2.1 R.2.2.2.2.2.1 R.2.2.2.2.2.2.1 R.2.2.2.2.2.2.2.1 a31 v42_beasts v42_seats v42_seated v42_quota R.2.2.2.2.2.2.2.2.1 v42_surveyed v42_steadyBench v42_steadyWays v42_steadySwing R.2.2.2.2.2.2.2.2.2) c0) n) 0 0) 153 [(0, .ref (b + 0)), (1, .int x1), (2, .int x2)] [] (e_ov (kW21) (wW21 G b v0_faultPlace v0_quashedRows v0_lastRefusal v1_beasts v1_meals v1_seats v1_laws v1_inForce v6_cases a7 a8 a9 v30_length a31 v42_beasts v42_seats v42_seated v42_quota v42_known v42_surveyed v42_steadyBench v42_steadyWays v42_steadySwing a78) c0) n 0 0 := by
  unfold fX11_row_L153 at hf
  refine E.aload_n 0 dX11_row_153 rfl ?_
  refine E.dup dX11_row_154 rfl ?_
  refine E.get hw 0 0 dX11_row_155 flX11_159 rfl rfl rfl rfl ?_
  refine E.iconst (v := 1) dX11_row_158 (by decide) ?_
  refine E.iadd dX11_row_159 ?_
  refine E.put (es' := (wW21 G b v0_faultPlace (v0_quashedRows + 1) v0_lastRefusal v1_beasts v1_meals v1_seats v1_laws v1_inForce v6_cases a7 a8 a9 v30_length a31 v42_beasts v42_seats v42_seated v42_quota v42_known v42_surveyed v42_steadyBench v42_steadyWays v42_steadySwing a78)) hw 0 0 dX11_row_160 flX11_159 ftX11 rfl rfl rfl rfl rfl rfl (Nat.le_of_ble_eq_true rfl) rfl ?_
  refine E.iinc (q := 2) (v := (x2 + 3)) (lv' := [(2, .int (x2 + 3)), (0, .ref (b + 0)), (1, .int x1)]) dX11_row_163 rfl rfl (by decide) rfl ?_
  refine E.goto dX11_row_166 ?_
  refine E.locals [1, 2, 0] rfl ?_
  exact hk26 hf
def fX11_row_L55 (Fu : Nat) (k26 : Int32 → Int32 → Int32 → (Nat → Int32) → (Nat → Int32) → (Nat → Int32) → Int32 → (Nat → Int32) → Int32 → (Nat → Int32) → Int32 → Int32 → Option (Int32 × Int32 × Int32 × Int32 × (Nat → Int32) × (Nat → Int32) × (Nat → Int32) × Int32 × Int32 × (Nat → Int32))) (v0_quashedRows : Int32) (v0_lastRefusal : Int32) (v6_cases : Int32) (a7 : Nat → Int32) (a8 : Nat → Int32) (a9 : Nat → Int32) (v30_length : Int32) (a31 : Nat → Int32) (v42_known : Int32) (a78 : Nat → Int32) (x1 : Int32) (x2 : Int32) (s0 : Int32) : Option (Int32 × Int32 × Int32 × Int32 × (Nat → Int32) × (Nat → Int32) × (Nat → Int32) × Int32 × Int32 × (Nat → Int32)) := if (s0 : Int32) = (0 : Int32) then (fX11_row_L153 Fu k26 v0_quashedRows v0_lastRefusal v6_cases a7 a8 a9 v30_length a31 v42_known a78 x1 x2) else ((fX9_at v30_length a31 x2).bind fun r3 => ((fX9_at v30_length a31 (x2 + 1)).bind fun r4 => ((fX9_at v30_length a31 (x2 + 2)).bind fun r5 => ((fX11_canJudge r3 r4 r5).bind fun r6 => (if (r6 : Int32) = (0 : Int32) then (fX11_row_L153 Fu k26 v0_quashedRows v0_lastRefusal v6_cases a7 a8 a9 v30_length a31 v42_known a78 x1 x2) else (if (20 : Int32) ≤ (v6_cases : Int32) then (fX11_row_L153 Fu k26 v0_quashedRows v0_lastRefusal v6_cases a7 a8 a9 v30_length a31 v42_known a78 x1 x2) else ((fX9_at v30_length a31 x2).bind fun r7 => ((fX9_at v30_length a31 (x2 + 1)).bind fun r8 => ((fX9_at v30_length a31 (x2 + 2)).bind fun r9 => ((fX2_add v6_cases a7 a8 a9 r7 r8 r9).bind fun r10 => (k26 v0_quashedRows v0_lastRefusal r10.1 r10.2.1 r10.2.2.1 r10.2.2.2 v30_length a31 v42_known a78 (x1 + 1) (x2 + 3))))))))))))
set_option maxHeartbeats 4000000 in
set_option maxRecDepth 100000 in
theorem tX11_row_L55 {G : GT} {b : Nat} {c0 : Hp} {n : Nat} (hw : e_wf (kW21) n) {v0_faultPlace : Int32} {v1_beasts : Int32} {v1_meals : Int32} {v1_seats : Int32} {v1_laws : Int32} {v1_inForce : Int32} {v42_beasts : Int32} {v42_seats : Int32} {v42_seated : Int32} {v42_quota : Int32} {v42_surveyed : Int32} {v42_steadyBench : Int32} {v42_steadyWays : Int32} {v42_steadySwing : Int64} {Fu : Nat} {k26 : Int32 → Int32 → Int32 → (Nat → Int32) → (Nat → Int32) → (Nat → Int32) → Int32 → (Nat → Int32) → Int32 → (Nat → Int32) → Int32 → Int32 → Option (Int32 × Int32 × Int32 × Int32 × (Nat → Int32) × (Nat → Int32) × (Nat → Int32) × Int32 × Int32 × (Nat → Int32))} (hk26 : ∀ {v0_quashedRows : Int32} {v0_lastRefusal : Int32} {v6_cases : Int32} {a7 : Nat → Int32} {a8 : Nat → Int32} {a9 : Nat → Int32} {v30_length : Int32} {a31 : Nat → Int32} {v42_known : Int32} {a78 : Nat → Int32} {x1 : Int32} {x2 : Int32} {R : Int32 × Int32 × Int32 × Int32 × (Nat → Int32) × (Nat → Int32) × (Nat → Int32) × Int32 × Int32 × (Nat → Int32)}, k26 v0_quashedRows v0_lastRefusal v6_cases a7 a8 a9 v30_length a31 v42_known a78 x1 x2 = some R → E G b yX11_row cX11_row 4 (some .int) (e_rm 2 0 0) e_X0 (e_Z G b (pD (some (.int R.1)) (e_ov (kW21) (wW21 G b v0_faultPlace R.2.1 R.2.2.1 v1_beasts v1_meals v1_seats v1_laws v1_inForce R.2.2.2.1 R.2.2.2.2.1 R.2.2.2.2.2.1 R.2.2.2.2.2.2.1 R.2.2.2.2.2.2.2.1 a31 v42_beasts v42_seats v42_seated v42_quota R.2.2.2.2.2.2.2.2.1 v42_surveyed v42_steadyBench v42_steadyWays v42_steadySwing R.2.2.2.2.2.2.2.2.2) c0) n) 0 0) 26 [(0, .ref (b + 0)), (1, .int x1), (2, .int x2)] [] (e_ov (kW21) (wW21 G b v0_faultPlace v0_quashedRows v0_lastRefusal v1_beasts v1_meals v1_seats v1_laws v1_inForce v6_cases a7 a8 a9 v30_length a31 v42_beasts v42_seats v42_seated v42_quota v42_known v42_surveyed v42_steadyBench v42_steadyWays v42_steadySwing a78) c0) n 0 0) {v0_quashedRows : Int32} {v0_lastRefusal : Int32} {v6_cases : Int32} {a7 : Nat → Int32} {a8 : Nat → Int32} {a9 : Nat → Int32} {v30_length : Int32} {a31 : Nat → Int32} {v42_known : Int32} {a78 : Nat → Int32} {x1 : Int32} {x2 : Int32} {s0 : Int32} {R : Int32 × Int32 × Int32 × Int32 × (Nat → Int32) × (Nat → Int32) × (Nat → Int32) × Int32 × Int32 × (Nat → Int32)} (hf : fX11_row_L55 Fu k26 v0_quashedRows v0_lastRefusal v6_cases a7 a8 a9 v30_length a31 v42_known a78 x1 x2 s0 = some R) : E G b yX11_row cX11_row 4 (some .int) (e_rm 2 0 0) e_X0 (e_Z G b (pD (some (.int R.1)) (e_ov (kW21) (wW21 G b v0_faultPlace R.2.1 R.2.2.1 v1_beasts v1_meals v1_seats v1_laws v1_inForce R.2.2.2.1 R.2.2.2.2.1 R.2.2.2.2.2.1 R.2.2.2.2.2.2.1 R.2.2.2.2.2.2.2.1 a31 v42_beasts v42_seats v42_seated v42_quota R.2.2.2.2.2.2.2.2.1 v42_surveyed v42_steadyBench v42_steadyWays v42_steadySwing R.2.2.2.2.2.2.2.2.2) c0) n) 0 0) 55 [(0, .ref (b + 0)), (1, .int x1), (2, .int x2)] [.int s0] (e_ov (kW21) (wW21 G b v0_faultPlace v0_quashedRows v0_lastRefusal v1_beasts v1_meals v1_seats v1_laws v1_inForce v6_cases a7 a8 a9 v30_length a31 v42_beasts v42_seats v42_seated v42_quota v42_known v42_surveyed v42_steadyBench v42_steadyWays v42_steadySwing a78) c0) n 0 0 := by
  unfold fX11_row_L55 at hf
  refine E.istore_n (lv' := [(3, .int s0), (0, .ref (b + 0)), (1, .int x1), (2, .int x2)]) dX11_row_55 (by decide) rfl ?_
  refine E.iload_n 0 dX11_row_56 rfl ?_
  refine E.if_eq dX11_row_57 (fun h => ?_) (fun h => ?_)
  · have hf := e_ift hf h
    refine E.locals [1, 2, 3] rfl ?_
    exact tX11_row_L153 hw hk26 hf
  · have hf := e_iff hf h
    refine E.aload_n 1 dX11_row_60 rfl ?_
    refine E.get hw 0 0 dX11_row_61 flX11_27 rfl rfl rfl rfl ?_
    refine E.iload_n 3 dX11_row_64 rfl ?_
    obtain ⟨r3, hc3, hf⟩ := e_bind hf
    refine E.callVDs (es' := (wW21 G b v0_faultPlace v0_quashedRows v0_lastRefusal v1_beasts v1_meals v1_seats v1_laws v1_inForce v6_cases a7 a8 a9 v30_length a31 v42_beasts v42_seats v42_seated v42_quota v42_known v42_surveyed v42_steadyBench v42_steadyWays v42_steadySwing a78)) [] [6, 7] 6 30 dX11_row_65 mlX11_162 hw rfl rfl rfl rfl (mX9_at (hw.pick2 [6, 7] rfl (by decide)) hc3) rfl rfl rfl rfl ⟨Nat.le_of_ble_eq_true rfl, Nat.le_of_ble_eq_true rfl⟩ rfl rfl (Nat.le_of_ble_eq_true rfl) ⟨Nat.le_refl _, Nat.le_refl _⟩ rfl ?_
    refine E.aload_n 1 dX11_row_68 rfl ?_
    refine E.get hw 0 0 dX11_row_69 flX11_27 rfl rfl rfl rfl ?_
    refine E.iload_n 3 dX11_row_72 rfl ?_
    refine E.iconst (v := 1) dX11_row_73 (by decide) ?_
    refine E.iadd dX11_row_74 ?_
    obtain ⟨r4, hc4, hf⟩ := e_bind hf
    refine E.callVDs (es' := (wW21 G b v0_faultPlace v0_quashedRows v0_lastRefusal v1_beasts v1_meals v1_seats v1_laws v1_inForce v6_cases a7 a8 a9 v30_length a31 v42_beasts v42_seats v42_seated v42_quota v42_known v42_surveyed v42_steadyBench v42_steadyWays v42_steadySwing a78)) [.int r3] [6, 7] 6 30 dX11_row_75 mlX11_162 hw rfl rfl rfl rfl (mX9_at (hw.pick2 [6, 7] rfl (by decide)) hc4) rfl rfl rfl rfl ⟨Nat.le_of_ble_eq_true rfl, Nat.le_of_ble_eq_true rfl⟩ rfl rfl (Nat.le_of_ble_eq_true rfl) ⟨Nat.le_refl _, Nat.le_refl _⟩ rfl ?_
    refine E.aload_n 1 dX11_row_78 rfl ?_
    refine E.get hw 0 0 dX11_row_79 flX11_27 rfl rfl rfl rfl ?_
    refine E.iload_n 3 dX11_row_82 rfl ?_
    refine E.iconst (v := 2) dX11_row_83 (by decide) ?_
    refine E.iadd dX11_row_84 ?_
    obtain ⟨r5, hc5, hf⟩ := e_bind hf
    refine E.callVDs (es' := (wW21 G b v0_faultPlace v0_quashedRows v0_lastRefusal v1_beasts v1_meals v1_seats v1_laws v1_inForce v6_cases a7 a8 a9 v30_length a31 v42_beasts v42_seats v42_seated v42_quota v42_known v42_surveyed v42_steadyBench v42_steadyWays v42_steadySwing a78)) [.int r4, .int r3] [6, 7] 6 30 dX11_row_85 mlX11_162 hw rfl rfl rfl rfl (mX9_at (hw.pick2 [6, 7] rfl (by decide)) hc5) rfl rfl rfl rfl ⟨Nat.le_of_ble_eq_true rfl, Nat.le_of_ble_eq_true rfl⟩ rfl rfl (Nat.le_of_ble_eq_true rfl) ⟨Nat.le_refl _, Nat.le_refl _⟩ rfl ?_
    obtain ⟨r6, hc6, hf⟩ := e_bind hf
    refine E.callSD [] dX11_row_88 mlX11_165 (mX11_canJudge hc6) ⟨Nat.le_of_ble_eq_true rfl, Nat.le_of_ble_eq_true rfl⟩ rfl rfl (Nat.le_of_ble_eq_true rfl) ⟨Nat.le_refl _, Nat.le_refl _⟩ rfl ?_
    refine E.if_eq dX11_row_91 (fun h => ?_) (fun h => ?_)
    · have hf := e_ift hf h
      refine E.locals [1, 2, 3] rfl ?_
      exact tX11_row_L153 hw hk26 hf
    · have hf := e_iff hf h
      refine E.aload_n 1 dX11_row_94 rfl ?_
      refine E.get hw 0 0 dX11_row_95 flX11_10 rfl rfl rfl rfl ?_
      refine E.getN hw 1 1 dX11_row_98 fnX11_169 rfl rfl rfl rfl ?_
      refine E.getN hw 2 6 dX11_row_101 fnX11_173 rfl rfl rfl rfl ?_
      refine E.bipush (v := 20) dX11_row_104 (by decide) ?_
      refine E.icmp_ge dX11_row_106 (fun h => ?_) (fun h => ?_)
      · have hf := e_ift hf h
        refine E.locals [1, 2, 3] rfl ?_
        exact tX11_row_L153 hw hk26 hf
      · have hf := e_iff hf h
        refine E.aload_n 1 dX11_row_109 rfl ?_
        refine E.get hw 0 0 dX11_row_110 flX11_10 rfl rfl rfl rfl ?_
        refine E.getN hw 1 1 dX11_row_113 fnX11_169 rfl rfl rfl rfl ?_
        refine E.aload_n 1 dX11_row_116 rfl ?_
        refine E.get hw 0 0 dX11_row_117 flX11_27 rfl rfl rfl rfl ?_
        refine E.iload_n 3 dX11_row_120 rfl ?_
        obtain ⟨r7, hc7, hf⟩ := e_bind hf
        refine E.callVDs (es' := (wW21 G b v0_faultPlace v0_quashedRows v0_lastRefusal v1_beasts v1_meals v1_seats v1_laws v1_inForce v6_cases a7 a8 a9 v30_length a31 v42_beasts v42_seats v42_seated v42_quota v42_known v42_surveyed v42_steadyBench v42_steadyWays v42_steadySwing a78)) [.ref (b + 6)] [6, 7] 6 30 dX11_row_121 mlX11_162 hw rfl rfl rfl rfl (mX9_at (hw.pick2 [6, 7] rfl (by decide)) hc7) rfl rfl rfl rfl ⟨Nat.le_of_ble_eq_true rfl, Nat.le_of_ble_eq_true rfl⟩ rfl rfl (Nat.le_of_ble_eq_true rfl) ⟨Nat.le_refl _, Nat.le_refl _⟩ rfl ?_
        refine E.aload_n 1 dX11_row_124 rfl ?_
        refine E.get hw 0 0 dX11_row_125 flX11_27 rfl rfl rfl rfl ?_
        refine E.iload_n 3 dX11_row_128 rfl ?_
        refine E.iconst (v := 1) dX11_row_129 (by decide) ?_
        refine E.iadd dX11_row_130 ?_
        obtain ⟨r8, hc8, hf⟩ := e_bind hf
        refine E.callVDs (es' := (wW21 G b v0_faultPlace v0_quashedRows v0_lastRefusal v1_beasts v1_meals v1_seats v1_laws v1_inForce v6_cases a7 a8 a9 v30_length a31 v42_beasts v42_seats v42_seated v42_quota v42_known v42_surveyed v42_steadyBench v42_steadyWays v42_steadySwing a78)) [.int r7, .ref (b + 6)] [6, 7] 6 30 dX11_row_131 mlX11_162 hw rfl rfl rfl rfl (mX9_at (hw.pick2 [6, 7] rfl (by decide)) hc8) rfl rfl rfl rfl ⟨Nat.le_of_ble_eq_true rfl, Nat.le_of_ble_eq_true rfl⟩ rfl rfl (Nat.le_of_ble_eq_true rfl) ⟨Nat.le_refl _, Nat.le_refl _⟩ rfl ?_
        refine E.aload_n 1 dX11_row_134 rfl ?_
        refine E.get hw 0 0 dX11_row_135 flX11_27 rfl rfl rfl rfl ?_
        refine E.iload_n 3 dX11_row_138 rfl ?_
        refine E.iconst (v := 2) dX11_row_139 (by decide) ?_
        refine E.iadd dX11_row_140 ?_
        obtain ⟨r9, hc9, hf⟩ := e_bind hf
        refine E.callVDs (es' := (wW21 G b v0_faultPlace v0_quashedRows v0_lastRefusal v1_beasts v1_meals v1_seats v1_laws v1_inForce v6_cases a7 a8 a9 v30_length a31 v42_beasts v42_seats v42_seated v42_quota v42_known v42_surveyed v42_steadyBench v42_steadyWays v42_steadySwing a78)) [.int r8, .int r7, .ref (b + 6)] [6, 7] 6 30 dX11_row_141 mlX11_162 hw rfl rfl rfl rfl (mX9_at (hw.pick2 [6, 7] rfl (by decide)) hc9) rfl rfl rfl rfl ⟨Nat.le_of_ble_eq_true rfl, Nat.le_of_ble_eq_true rfl⟩ rfl rfl (Nat.le_of_ble_eq_true rfl) ⟨Nat.le_refl _, Nat.le_refl _⟩ rfl ?_
        obtain ⟨r10, hc10, hf⟩ := e_bind hf
        refine E.callVDs (es' := (wW21 G b v0_faultPlace v0_quashedRows v0_lastRefusal v1_beasts v1_meals v1_seats v1_laws v1_inForce r10.1 r10.2.1 r10.2.2.1 r10.2.2.2 v30_length a31 v42_beasts v42_seats v42_seated v42_quota v42_known v42_surveyed v42_steadyBench v42_steadyWays v42_steadySwing a78)) [] [2, 3, 4, 5] 2 6 dX11_row_144 mlX11_178 hw rfl rfl rfl rfl (mX2_add (hw.pick2 [2, 3, 4, 5] rfl (by decide)) hc10) rfl rfl rfl rfl ⟨Nat.le_of_ble_eq_true rfl, Nat.le_of_ble_eq_true rfl⟩ rfl rfl (Nat.le_of_ble_eq_true rfl) ⟨Nat.le_refl _, Nat.le_refl _⟩ rfl ?_
        refine E.iinc (q := 2) (v := (x1 + 1)) (lv' := [(1, .int (x1 + 1)), (3, .int s0), (0, .ref (b + 0)), (2, .int x2)]) dX11_row_147 rfl rfl (by decide) rfl ?_
        refine E.goto dX11_row_150 ?_
        refine E.iinc (q := 3) (v := (x2 + 3)) (lv' := [(2, .int (x2 + 3)), (1, .int (x1 + 1)), (3, .int s0), (0, .ref (b + 0))]) dX11_row_163 rfl rfl (by decide) rfl ?_
        refine E.goto dX11_row_166 ?_
        refine E.locals [3, 1, 0] rfl ?_
        exact hk26 hf
def fX11_row_L26 (Fu : Nat) : Nat → Int32 → Int32 → Int32 → (Nat → Int32) → (Nat → Int32) → (Nat → Int32) → Int32 → (Nat → Int32) → Int32 → (Nat → Int32) → Int32 → Int32 → Option (Int32 × Int32 × Int32 × Int32 × (Nat → Int32) × (Nat → Int32) × (Nat → Int32) × Int32 × Int32 × (Nat → Int32))
  | 0, _, _, _, _, _, _, _, _, _, _, _, _ => none
  | k + 1, v0_quashedRows, v0_lastRefusal, v6_cases, a7, a8, a9, v30_length, a31, v42_known, a78, x1, x2 => if (v30_length : Int32) ≤ (x2 : Int32) then ((fX11_accept v0_lastRefusal v42_known x1).bind fun r2 => (some (r2.1, v0_quashedRows, r2.2.1, v6_cases, a7, a8, a9, 0, r2.2.2, a78))) else (if (v30_length : Int32) < ((x2 + 3) : Int32) then (fX11_row_L55 Fu (fX11_row_L26 Fu k) v0_quashedRows v0_lastRefusal v6_cases a7 a8 a9 v30_length a31 v42_known a78 x1 x2 0) else (fX11_row_L55 Fu (fX11_row_L26 Fu k) v0_quashedRows v0_lastRefusal v6_cases a7 a8 a9 v30_length a31 v42_known a78 x1 x2 1))
set_option maxHeartbeats 4000000 in
set_option maxRecDepth 100000 in
theorem tX11_row_L26 {G : GT} {b : Nat} {c0 : Hp} {n : Nat} (hw : e_wf (kW21) n) {v0_faultPlace : Int32} {v1_beasts : Int32} {v1_meals : Int32} {v1_seats : Int32} {v1_laws : Int32} {v1_inForce : Int32} {v42_beasts : Int32} {v42_seats : Int32} {v42_seated : Int32} {v42_quota : Int32} {v42_surveyed : Int32} {v42_steadyBench : Int32} {v42_steadyWays : Int32} {v42_steadySwing : Int64} {Fu : Nat} : ∀ (k : Nat) {v0_quashedRows : Int32} {v0_lastRefusal : Int32} {v6_cases : Int32} {a7 : Nat → Int32} {a8 : Nat → Int32} {a9 : Nat → Int32} {v30_length : Int32} {a31 : Nat → Int32} {v42_known : Int32} {a78 : Nat → Int32} {x1 : Int32} {x2 : Int32} {R : Int32 × Int32 × Int32 × Int32 × (Nat → Int32) × (Nat → Int32) × (Nat → Int32) × Int32 × Int32 × (Nat → Int32)}, fX11_row_L26 Fu k v0_quashedRows v0_lastRefusal v6_cases a7 a8 a9 v30_length a31 v42_known a78 x1 x2 = some R → E G b yX11_row cX11_row 4 (some .int) (e_rm 2 0 0) e_X0 (e_Z G b (pD (some (.int R.1)) (e_ov (kW21) (wW21 G b v0_faultPlace R.2.1 R.2.2.1 v1_beasts v1_meals v1_seats v1_laws v1_inForce R.2.2.2.1 R.2.2.2.2.1 R.2.2.2.2.2.1 R.2.2.2.2.2.2.1 R.2.2.2.2.2.2.2.1 a31 v42_beasts v42_seats v42_seated v42_quota R.2.2.2.2.2.2.2.2.1 v42_surveyed v42_steadyBench v42_steadyWays v42_steadySwing R.2.2.2.2.2.2.2.2.2) c0) n) 0 0) 26 [(0, .ref (b + 0)), (1, .int x1), (2, .int x2)] [] (e_ov (kW21) (wW21 G b v0_faultPlace v0_quashedRows v0_lastRefusal v1_beasts v1_meals v1_seats v1_laws v1_inForce v6_cases a7 a8 a9 v30_length a31 v42_beasts v42_seats v42_seated v42_quota v42_known v42_surveyed v42_steadyBench v42_steadyWays v42_steadySwing a78) c0) n 0 0 := by
  intro k
  induction k with
  | zero =>
    intro _ _ _ _ _ _ _ _ _ _ _ _ _ hf
    have hf : (none : Option (Int32 × Int32 × Int32 × Int32 × (Nat → Int32) × (Nat → Int32) × (Nat → Int32) × Int32 × Int32 × (Nat → Int32))) = some _ := hf
    cases hf
  | succ k ih =>
    intro v0_quashedRows v0_lastRefusal v6_cases a7 a8 a9 v30_length a31 v42_known a78 x1 x2 R hf
    rw [fX11_row_L26] at hf
    refine E.iload_n 2 dX11_row_26 rfl ?_
    refine E.aload_n 0 dX11_row_27 rfl ?_
    refine E.get hw 0 0 dX11_row_28 flX11_27 rfl rfl rfl rfl ?_
    refine E.getN hw 6 30 dX11_row_31 fnX11_152 rfl rfl rfl rfl ?_
    refine E.icmp_ge dX11_row_34 (fun h => ?_) (fun h => ?_)
    · have hf := e_ift hf h
      refine E.aload_n 0 dX11_row_169 rfl ?_
      refine E.get hw 0 0 dX11_row_170 flX11_27 rfl rfl rfl rfl ?_
      refine E.iconst (v := 0) dX11_row_173 (by decide) ?_
      refine E.putN (es' := (wW21 G b v0_faultPlace v0_quashedRows v0_lastRefusal v1_beasts v1_meals v1_seats v1_laws v1_inForce v6_cases a7 a8 a9 0 a31 v42_beasts v42_seats v42_seated v42_quota v42_known v42_surveyed v42_steadyBench v42_steadyWays v42_steadySwing a78)) hw 6 30 dX11_row_174 fnX11_152 ftX9 rfl rfl rfl rfl rfl rfl (Nat.le_of_ble_eq_true rfl) rfl ?_
      refine E.aload_n 0 dX11_row_177 rfl ?_
      refine E.iload_n 1 dX11_row_178 rfl ?_
      obtain ⟨r2, hc2, hf⟩ := e_bind hf
      refine E.callVDs (es' := (wW21 G b v0_faultPlace v0_quashedRows r2.2.1 v1_beasts v1_meals v1_seats v1_laws v1_inForce v6_cases a7 a8 a9 0 a31 v42_beasts v42_seats v42_seated v42_quota r2.2.2 v42_surveyed v42_steadyBench v42_steadyWays v42_steadySwing a78)) [] [0, 8] 0 0 dX11_row_179 mlX11_108 hw rfl rfl rfl rfl (mX11_accept (hw.pick2 [0, 8] rfl (by decide)) hc2) rfl rfl rfl rfl ⟨Nat.le_of_ble_eq_true rfl, Nat.le_of_ble_eq_true rfl⟩ rfl rfl (Nat.le_of_ble_eq_true rfl) ⟨Nat.le_refl _, Nat.le_refl _⟩ rfl ?_
      cases hf
      exact E.iret dX11_row_182 (Nat.le_refl _) (Nat.le_refl _) (pD_rf _ _ _)
    · have hf := e_iff hf h
      refine E.iload_n 2 dX11_row_37 rfl ?_
      refine E.iconst (v := 3) dX11_row_38 (by decide) ?_
      refine E.iadd dX11_row_39 ?_
      refine E.aload_n 0 dX11_row_40 rfl ?_
      refine E.get hw 0 0 dX11_row_41 flX11_27 rfl rfl rfl rfl ?_
      refine E.getN hw 6 30 dX11_row_44 fnX11_152 rfl rfl rfl rfl ?_
      refine E.icmp_gt dX11_row_47 (fun h => ?_) (fun h => ?_)
      · have hf := e_ift hf h
        refine E.iconst (v := 0) dX11_row_54 (by decide) ?_
        exact tX11_row_L55 hw ih hf
      · have hf := e_iff hf h
        refine E.iconst (v := 1) dX11_row_50 (by decide) ?_
        refine E.goto dX11_row_51 ?_
        exact tX11_row_L55 hw ih hf
def fX11_row (Fu : Nat) (v0_quashedRows : Int32) (v0_lastRefusal : Int32) (v6_cases : Int32) (a7 : Nat → Int32) (a8 : Nat → Int32) (a9 : Nat → Int32) (v30_length : Int32) (a31 : Nat → Int32) (v42_known : Int32) (a78 : Nat → Int32) : Option (Int32 × Int32 × Int32 × Int32 × (Nat → Int32) × (Nat → Int32) × (Nat → Int32) × Int32 × Int32 × (Nat → Int32)) := if (v30_length : Int32) = (0 : Int32) then ((fX11_refuse v0_lastRefusal a78 (-6 : Int32)).bind fun r1 => (some (r1.1, v0_quashedRows, r1.2.1, v6_cases, a7, a8, a9, v30_length, v42_known, r1.2.2))) else (fX11_row_L26 Fu Fu 0 v0_lastRefusal v6_cases a7 a8 a9 v30_length a31 v42_known a78 0 0)
set_option maxHeartbeats 4000000 in
set_option maxRecDepth 100000 in
theorem tX11_row {G : GT} {b : Nat} {c0 : Hp} {n : Nat} (hw : e_wf (kW21) n) {v0_faultPlace : Int32} {v1_beasts : Int32} {v1_meals : Int32} {v1_seats : Int32} {v1_laws : Int32} {v1_inForce : Int32} {v42_beasts : Int32} {v42_seats : Int32} {v42_seated : Int32} {v42_quota : Int32} {v42_surveyed : Int32} {v42_steadyBench : Int32} {v42_steadyWays : Int32} {v42_steadySwing : Int64} {Fu : Nat} {v0_quashedRows : Int32} {v0_lastRefusal : Int32} {v6_cases : Int32} {a7 : Nat → Int32} {a8 : Nat → Int32} {a9 : Nat → Int32} {v30_length : Int32} {a31 : Nat → Int32} {v42_known : Int32} {a78 : Nat → Int32} {R : Int32 × Int32 × Int32 × Int32 × (Nat → Int32) × (Nat → Int32) × (Nat → Int32) × Int32 × Int32 × (Nat → Int32)} (hf : fX11_row Fu v0_quashedRows v0_lastRefusal v6_cases a7 a8 a9 v30_length a31 v42_known a78 = some R) : E G b yX11_row cX11_row 4 (some .int) (e_rm 2 0 0) e_X0 (e_Z G b (pD (some (.int R.1)) (e_ov (kW21) (wW21 G b v0_faultPlace R.2.1 R.2.2.1 v1_beasts v1_meals v1_seats v1_laws v1_inForce R.2.2.2.1 R.2.2.2.2.1 R.2.2.2.2.2.1 R.2.2.2.2.2.2.1 R.2.2.2.2.2.2.2.1 a31 v42_beasts v42_seats v42_seated v42_quota R.2.2.2.2.2.2.2.2.1 v42_surveyed v42_steadyBench v42_steadyWays v42_steadySwing R.2.2.2.2.2.2.2.2.2) c0) n) 0 0) 0 [(0, .ref (b + 0))] [] (e_ov (kW21) (wW21 G b v0_faultPlace v0_quashedRows v0_lastRefusal v1_beasts v1_meals v1_seats v1_laws v1_inForce v6_cases a7 a8 a9 v30_length a31 v42_beasts v42_seats v42_seated v42_quota v42_known v42_surveyed v42_steadyBench v42_steadyWays v42_steadySwing a78) c0) n 0 0 := by
  unfold fX11_row at hf
  refine E.aload_n 0 dX11_row_0 rfl ?_
  refine E.get hw 0 0 dX11_row_1 flX11_27 rfl rfl rfl rfl ?_
  refine E.getN hw 6 30 dX11_row_4 fnX11_152 rfl rfl rfl rfl ?_
  refine E.if_ne dX11_row_7 (fun h => ?_) (fun h => ?_)
  · have hf := e_iff hf h
    refine E.iconst (v := 0) dX11_row_17 (by decide) ?_
    refine E.istore_n (lv' := [(1, .int 0), (0, .ref (b + 0))]) dX11_row_18 (by decide) rfl ?_
    refine E.aload_n 1 dX11_row_19 rfl ?_
    refine E.iconst (v := 0) dX11_row_20 (by decide) ?_
    refine E.put (es' := (wW21 G b v0_faultPlace 0 v0_lastRefusal v1_beasts v1_meals v1_seats v1_laws v1_inForce v6_cases a7 a8 a9 v30_length a31 v42_beasts v42_seats v42_seated v42_quota v42_known v42_surveyed v42_steadyBench v42_steadyWays v42_steadySwing a78)) hw 0 0 dX11_row_21 flX11_159 ftX11 rfl rfl rfl rfl rfl rfl (Nat.le_of_ble_eq_true rfl) rfl ?_
    refine E.iconst (v := 0) dX11_row_24 (by decide) ?_
    refine E.istore_n (lv' := [(2, .int 0), (1, .int 0), (0, .ref (b + 0))]) dX11_row_25 (by decide) rfl ?_
    refine E.locals [2, 1, 0] rfl ?_
    exact tX11_row_L26 hw _ hf
  · have hf := e_ift hf h
    refine E.aload_n 0 dX11_row_10 rfl ?_
    refine E.bipush (v := -6) dX11_row_11 (by decide) ?_
    obtain ⟨r1, hc1, hf⟩ := e_bind hf
    refine E.callVDs (es' := (wW21 G b v0_faultPlace v0_quashedRows r1.2.1 v1_beasts v1_meals v1_seats v1_laws v1_inForce v6_cases a7 a8 a9 v30_length a31 v42_beasts v42_seats v42_seated v42_quota v42_known v42_surveyed v42_steadyBench v42_steadyWays v42_steadySwing r1.2.2)) [] [0, 9] 0 0 dX11_row_13 mlX11_97 hw rfl rfl rfl rfl (mX11_refuse (hw.pick2 [0, 9] rfl (by decide)) hc1) rfl rfl rfl rfl ⟨Nat.le_of_ble_eq_true rfl, Nat.le_of_ble_eq_true rfl⟩ rfl rfl (Nat.le_of_ble_eq_true rfl) ⟨Nat.le_refl _, Nat.le_refl _⟩ rfl ?_
    cases hf
    exact E.iret dX11_row_16 (Nat.le_refl _) (Nat.le_refl _) (pD_rf _ _ _)
set_option maxRecDepth 100000 in
theorem mX11_row {G : GT} {b : Nat} {c0 : Hp} {n : Nat} (hw : e_wf (kW21) n) {v0_faultPlace : Int32} {v1_beasts : Int32} {v1_meals : Int32} {v1_seats : Int32} {v1_laws : Int32} {v1_inForce : Int32} {v42_beasts : Int32} {v42_seats : Int32} {v42_seated : Int32} {v42_quota : Int32} {v42_surveyed : Int32} {v42_steadyBench : Int32} {v42_steadyWays : Int32} {v42_steadySwing : Int64} {Fu : Nat} {v0_quashedRows : Int32} {v0_lastRefusal : Int32} {v6_cases : Int32} {a7 : Nat → Int32} {a8 : Nat → Int32} {a9 : Nat → Int32} {v30_length : Int32} {a31 : Nat → Int32} {v42_known : Int32} {a78 : Nat → Int32} {R : Int32 × Int32 × Int32 × Int32 × (Nat → Int32) × (Nat → Int32) × (Nat → Int32) × Int32 × Int32 × (Nat → Int32)} (hf : fX11_row Fu v0_quashedRows v0_lastRefusal v6_cases a7 a8 a9 v30_length a31 v42_known a78 = some R) : e_C G b yX11_row cX11_row 4 (some .int) 2 0 0 [.ref (b + 0)] (e_ov (kW21) (wW21 G b v0_faultPlace v0_quashedRows v0_lastRefusal v1_beasts v1_meals v1_seats v1_laws v1_inForce v6_cases a7 a8 a9 v30_length a31 v42_beasts v42_seats v42_seated v42_quota v42_known v42_surveyed v42_steadyBench v42_steadyWays v42_steadySwing a78) c0) n (pD (some (.int R.1)) (e_ov (kW21) (wW21 G b v0_faultPlace R.2.1 R.2.2.1 v1_beasts v1_meals v1_seats v1_laws v1_inForce R.2.2.2.1 R.2.2.2.2.1 R.2.2.2.2.2.1 R.2.2.2.2.2.2.1 R.2.2.2.2.2.2.2.1 a31 v42_beasts v42_seats v42_seated v42_quota R.2.2.2.2.2.2.2.2.1 v42_surveyed v42_steadyBench v42_steadyWays v42_steadySwing R.2.2.2.2.2.2.2.2.2) c0) n) := e_C.of (by decide) (Nat.le_of_ble_eq_true rfl) (tX11_row hw hf)
abbrev kW22 : List Nat := [0]
abbrev wW22 (G : GT) (b  : Nat) (v0_faultPlace : Int32) (v0_quashedRows : Int32) (v0_lastRefusal : Int32) : List va_E := [.inr (11, [.ref (b + 1), .ref (b + 10), .ref (b + 29), .ref (b + 30), .ref (b + 32), .ref (b + 37), .ref (b + 40), .ref (b + 42), .ref (b + 69), .ref (b + 73), .ref (b + 74), .ref (b + 76), .ref (b + 78), .int v0_faultPlace, .int v0_quashedRows, .int v0_lastRefusal])]
def fX11_quashed (v0_quashedRows : Int32) : Option (Int32) := some (v0_quashedRows)
set_option maxHeartbeats 4000000 in
set_option maxRecDepth 100000 in
theorem tX11_quashed {G : GT} {b : Nat} {c0 : Hp} {n : Nat} (hw : e_wf (kW22) n) {v0_faultPlace : Int32} {v0_lastRefusal : Int32} {v0_quashedRows : Int32} {R : Int32} (hf : fX11_quashed v0_quashedRows = some R) : E G b yX11_quashed cX11_quashed 1 (some .int) (e_rm 0 0 0) e_X0 (e_Z G b (pD (some (.int R)) (e_ov (kW22) (wW22 G b v0_faultPlace v0_quashedRows v0_lastRefusal) c0) n) 0 0) 0 [(0, .ref (b + 0))] [] (e_ov (kW22) (wW22 G b v0_faultPlace v0_quashedRows v0_lastRefusal) c0) n 0 0 := by
  unfold fX11_quashed at hf
  refine E.aload_n 0 dX11_quashed_0 rfl ?_
  refine E.get hw 0 0 dX11_quashed_1 flX11_159 rfl rfl rfl rfl ?_
  cases hf
  exact E.iret dX11_quashed_4 (Nat.le_refl _) (Nat.le_refl _) (pD_rf _ _ _)
set_option maxRecDepth 100000 in
theorem mX11_quashed {G : GT} {b : Nat} {c0 : Hp} {n : Nat} (hw : e_wf (kW22) n) {v0_faultPlace : Int32} {v0_lastRefusal : Int32} {v0_quashedRows : Int32} {R : Int32} (hf : fX11_quashed v0_quashedRows = some R) : e_C G b yX11_quashed cX11_quashed 1 (some .int) 0 0 0 [.ref (b + 0)] (e_ov (kW22) (wW22 G b v0_faultPlace v0_quashedRows v0_lastRefusal) c0) n (pD (some (.int R)) (e_ov (kW22) (wW22 G b v0_faultPlace v0_quashedRows v0_lastRefusal) c0) n) := e_C.of (by decide) (Nat.le_of_ble_eq_true rfl) (tX11_quashed hw hf)
def fX11_fault (v0_faultPlace : Int32) : Option (Int32) := some (v0_faultPlace)
set_option maxHeartbeats 4000000 in
set_option maxRecDepth 100000 in
theorem tX11_fault {G : GT} {b : Nat} {c0 : Hp} {n : Nat} (hw : e_wf (kW22) n) {v0_quashedRows : Int32} {v0_lastRefusal : Int32} {v0_faultPlace : Int32} {R : Int32} (hf : fX11_fault v0_faultPlace = some R) : E G b yX11_fault cX11_fault 1 (some .int) (e_rm 0 0 0) e_X0 (e_Z G b (pD (some (.int R)) (e_ov (kW22) (wW22 G b v0_faultPlace v0_quashedRows v0_lastRefusal) c0) n) 0 0) 0 [(0, .ref (b + 0))] [] (e_ov (kW22) (wW22 G b v0_faultPlace v0_quashedRows v0_lastRefusal) c0) n 0 0 := by
  unfold fX11_fault at hf
  refine E.aload_n 0 dX11_fault_0 rfl ?_
  refine E.get hw 0 0 dX11_fault_1 flX11_89 rfl rfl rfl rfl ?_
  cases hf
  exact E.iret dX11_fault_4 (Nat.le_refl _) (Nat.le_refl _) (pD_rf _ _ _)
set_option maxRecDepth 100000 in
theorem mX11_fault {G : GT} {b : Nat} {c0 : Hp} {n : Nat} (hw : e_wf (kW22) n) {v0_quashedRows : Int32} {v0_lastRefusal : Int32} {v0_faultPlace : Int32} {R : Int32} (hf : fX11_fault v0_faultPlace = some R) : e_C G b yX11_fault cX11_fault 1 (some .int) 0 0 0 [.ref (b + 0)] (e_ov (kW22) (wW22 G b v0_faultPlace v0_quashedRows v0_lastRefusal) c0) n (pD (some (.int R)) (e_ov (kW22) (wW22 G b v0_faultPlace v0_quashedRows v0_lastRefusal) c0) n) := e_C.of (by decide) (Nat.le_of_ble_eq_true rfl) (tX11_fault hw hf)
def fX11_force_L16 (v0_lastRefusal : Int32) (v1_laws : Int32) (v1_inForce : Int32) (v42_known : Int32) (a78 : Nat → Int32) : Option (Int32 × Int32 × Int32 × Int32 × (Nat → Int32)) := (fX11_refuse v0_lastRefusal a78 (-2 : Int32)).bind fun r2 => (some (r2.1, r2.2.1, v1_inForce, v42_known, r2.2.2))
set_option maxHeartbeats 4000000 in
set_option maxRecDepth 100000 in
theorem tX11_force_L16 {G : GT} {b : Nat} {c0 : Hp} {n : Nat} (hw : e_wf (kW14) n) {v0_faultPlace : Int32} {v0_quashedRows : Int32} {v1_beasts : Int32} {v1_meals : Int32} {v1_seats : Int32} {v42_beasts : Int32} {v42_seats : Int32} {v42_seated : Int32} {v42_quota : Int32} {v42_surveyed : Int32} {v42_steadyBench : Int32} {v42_steadyWays : Int32} {v42_steadySwing : Int64} {v0_lastRefusal : Int32} {v1_laws : Int32} {v1_inForce : Int32} {v42_known : Int32} {a78 : Nat → Int32} {R : Int32 × Int32 × Int32 × Int32 × (Nat → Int32)} (hf : fX11_force_L16 v0_lastRefusal v1_laws v1_inForce v42_known a78 = some R) : E G b yX11_force cX11_force 3 (some .int) (e_rm 2 0 0) e_X0 (e_Z G b (pD (some (.int R.1)) (e_ov (kW14) (wW14 G b v0_faultPlace v0_quashedRows R.2.1 v1_beasts v1_meals v1_seats v1_laws R.2.2.1 v42_beasts v42_seats v42_seated v42_quota R.2.2.2.1 v42_surveyed v42_steadyBench v42_steadyWays v42_steadySwing R.2.2.2.2) c0) n) 0 0) 16 [(0, .ref (b + 0))] [] (e_ov (kW14) (wW14 G b v0_faultPlace v0_quashedRows v0_lastRefusal v1_beasts v1_meals v1_seats v1_laws v1_inForce v42_beasts v42_seats v42_seated v42_quota v42_known v42_surveyed v42_steadyBench v42_steadyWays v42_steadySwing a78) c0) n 0 0 := by
  unfold fX11_force_L16 at hf
  refine E.aload_n 0 dX11_force_16 rfl ?_
  refine E.bipush (v := -2) dX11_force_17 (by decide) ?_
  obtain ⟨r2, hc2, hf⟩ := e_bind hf
  refine E.callVDs (es' := (wW14 G b v0_faultPlace v0_quashedRows r2.2.1 v1_beasts v1_meals v1_seats v1_laws v1_inForce v42_beasts v42_seats v42_seated v42_quota v42_known v42_surveyed v42_steadyBench v42_steadyWays v42_steadySwing r2.2.2)) [] [0, 3] 0 0 dX11_force_19 mlX11_97 hw rfl rfl rfl rfl (mX11_refuse (hw.pick2 [0, 3] rfl (by decide)) hc2) rfl rfl rfl rfl ⟨Nat.le_of_ble_eq_true rfl, Nat.le_of_ble_eq_true rfl⟩ rfl rfl (Nat.le_of_ble_eq_true rfl) ⟨Nat.le_refl _, Nat.le_refl _⟩ rfl ?_
  cases hf
  exact E.iret dX11_force_22 (Nat.le_refl _) (Nat.le_refl _) (pD_rf _ _ _)
def fX11_force (v0_lastRefusal : Int32) (v1_laws : Int32) (v1_inForce : Int32) (v42_known : Int32) (a78 : Nat → Int32) (x1 : Int32) : Option (Int32 × Int32 × Int32 × Int32 × (Nat → Int32)) := if (x1 : Int32) < ((-1 : Int32) : Int32) then (fX11_force_L16 v0_lastRefusal v1_laws v1_inForce v42_known a78) else (if (x1 : Int32) < (v1_laws : Int32) then ((fX11_accept v0_lastRefusal v42_known v1_inForce).bind fun r1 => (some (r1.1, r1.2.1, x1, r1.2.2, a78))) else (fX11_force_L16 v0_lastRefusal v1_laws v1_inForce v42_known a78))
set_option maxHeartbeats 4000000 in
set_option maxRecDepth 100000 in
theorem tX11_force {G : GT} {b : Nat} {c0 : Hp} {n : Nat} (hw : e_wf (kW14) n) {v0_faultPlace : Int32} {v0_quashedRows : Int32} {v1_beasts : Int32} {v1_meals : Int32} {v1_seats : Int32} {v42_beasts : Int32} {v42_seats : Int32} {v42_seated : Int32} {v42_quota : Int32} {v42_surveyed : Int32} {v42_steadyBench : Int32} {v42_steadyWays : Int32} {v42_steadySwing : Int64} {v0_lastRefusal : Int32} {v1_laws : Int32} {v1_inForce : Int32} {v42_known : Int32} {a78 : Nat → Int32} {x1 : Int32} {R : Int32 × Int32 × Int32 × Int32 × (Nat → Int32)} (hf : fX11_force v0_lastRefusal v1_laws v1_inForce v42_known a78 x1 = some R) : E G b yX11_force cX11_force 3 (some .int) (e_rm 2 0 0) e_X0 (e_Z G b (pD (some (.int R.1)) (e_ov (kW14) (wW14 G b v0_faultPlace v0_quashedRows R.2.1 v1_beasts v1_meals v1_seats v1_laws R.2.2.1 v42_beasts v42_seats v42_seated v42_quota R.2.2.2.1 v42_surveyed v42_steadyBench v42_steadyWays v42_steadySwing R.2.2.2.2) c0) n) 0 0) 0 [(0, .ref (b + 0)), (1, .int x1)] [] (e_ov (kW14) (wW14 G b v0_faultPlace v0_quashedRows v0_lastRefusal v1_beasts v1_meals v1_seats v1_laws v1_inForce v42_beasts v42_seats v42_seated v42_quota v42_known v42_surveyed v42_steadyBench v42_steadyWays v42_steadySwing a78) c0) n 0 0 := by
  unfold fX11_force at hf
  refine E.iload_n 1 dX11_force_0 rfl ?_
  refine E.iconst (v := -1) dX11_force_1 (by decide) ?_
  refine E.icmp_lt dX11_force_2 (fun h => ?_) (fun h => ?_)
  · have hf := e_ift hf h
    refine E.locals [0] rfl ?_
    exact tX11_force_L16 hw hf
  · have hf := e_iff hf h
    refine E.iload_n 1 dX11_force_5 rfl ?_
    refine E.aload_n 0 dX11_force_6 rfl ?_
    refine E.get hw 0 0 dX11_force_7 flX11_10 rfl rfl rfl rfl ?_
    refine E.getN hw 1 1 dX11_force_10 fnX11_181 rfl rfl rfl rfl ?_
    refine E.icmp_lt dX11_force_13 (fun h => ?_) (fun h => ?_)
    · have hf := e_ift hf h
      refine E.aload_n 0 dX11_force_23 rfl ?_
      refine E.get hw 0 0 dX11_force_24 flX11_10 rfl rfl rfl rfl ?_
      refine E.getN hw 1 1 dX11_force_27 fnX11_196 rfl rfl rfl rfl ?_
      refine E.istore_n (lv' := [(2, .int v1_inForce), (0, .ref (b + 0)), (1, .int x1)]) dX11_force_30 (by decide) rfl ?_
      refine E.aload_n 1 dX11_force_31 rfl ?_
      refine E.get hw 0 0 dX11_force_32 flX11_10 rfl rfl rfl rfl ?_
      refine E.iload_n 2 dX11_force_35 rfl ?_
      refine E.putN (es' := (wW14 G b v0_faultPlace v0_quashedRows v0_lastRefusal v1_beasts v1_meals v1_seats v1_laws x1 v42_beasts v42_seats v42_seated v42_quota v42_known v42_surveyed v42_steadyBench v42_steadyWays v42_steadySwing a78)) hw 1 1 dX11_force_36 fnX11_196 ftX10 rfl rfl rfl rfl rfl rfl (Nat.le_of_ble_eq_true rfl) rfl ?_
      refine E.aload_n 1 dX11_force_39 rfl ?_
      refine E.iload_n 0 dX11_force_40 rfl ?_
      obtain ⟨r1, hc1, hf⟩ := e_bind hf
      refine E.callVDs (es' := (wW14 G b v0_faultPlace v0_quashedRows r1.2.1 v1_beasts v1_meals v1_seats v1_laws x1 v42_beasts v42_seats v42_seated v42_quota r1.2.2 v42_surveyed v42_steadyBench v42_steadyWays v42_steadySwing a78)) [] [0, 2] 0 0 dX11_force_41 mlX11_108 hw rfl rfl rfl rfl (mX11_accept (hw.pick2 [0, 2] rfl (by decide)) hc1) rfl rfl rfl rfl ⟨Nat.le_of_ble_eq_true rfl, Nat.le_of_ble_eq_true rfl⟩ rfl rfl (Nat.le_of_ble_eq_true rfl) ⟨Nat.le_refl _, Nat.le_refl _⟩ rfl ?_
      cases hf
      exact E.iret dX11_force_44 (Nat.le_refl _) (Nat.le_refl _) (pD_rf _ _ _)
    · have hf := e_iff hf h
      refine E.locals [0] rfl ?_
      exact tX11_force_L16 hw hf
set_option maxRecDepth 100000 in
theorem mX11_force {G : GT} {b : Nat} {c0 : Hp} {n : Nat} (hw : e_wf (kW14) n) {v0_faultPlace : Int32} {v0_quashedRows : Int32} {v1_beasts : Int32} {v1_meals : Int32} {v1_seats : Int32} {v42_beasts : Int32} {v42_seats : Int32} {v42_seated : Int32} {v42_quota : Int32} {v42_surveyed : Int32} {v42_steadyBench : Int32} {v42_steadyWays : Int32} {v42_steadySwing : Int64} {v0_lastRefusal : Int32} {v1_laws : Int32} {v1_inForce : Int32} {v42_known : Int32} {a78 : Nat → Int32} {x1 : Int32} {R : Int32 × Int32 × Int32 × Int32 × (Nat → Int32)} (hf : fX11_force v0_lastRefusal v1_laws v1_inForce v42_known a78 x1 = some R) : e_C G b yX11_force cX11_force 3 (some .int) 2 0 0 [.ref (b + 0), .int x1] (e_ov (kW14) (wW14 G b v0_faultPlace v0_quashedRows v0_lastRefusal v1_beasts v1_meals v1_seats v1_laws v1_inForce v42_beasts v42_seats v42_seated v42_quota v42_known v42_surveyed v42_steadyBench v42_steadyWays v42_steadySwing a78) c0) n (pD (some (.int R.1)) (e_ov (kW14) (wW14 G b v0_faultPlace v0_quashedRows R.2.1 v1_beasts v1_meals v1_seats v1_laws R.2.2.1 v42_beasts v42_seats v42_seated v42_quota R.2.2.2.1 v42_surveyed v42_steadyBench v42_steadyWays v42_steadySwing R.2.2.2.2) c0) n) := e_C.of (by decide) (Nat.le_of_ble_eq_true rfl) (tX11_force hw hf)
abbrev kW23 : List Nat := [1, 2, 3, 4, 37, 38]
abbrev wW23 (G : GT) (b  : Nat) (v1_beasts : Int32) (v1_meals : Int32) (v1_seats : Int32) (v1_laws : Int32) (v1_inForce : Int32) (a2 : Nat → Int32) (a3 : Nat → Int32) (a4 : Nat → Int32) (v37_height : Int32) (v37_answer : Int64) (a38 : Nat → Int32) : List va_E := [.inr (10, [.ref (b + 2), .ref (b + 3), .ref (b + 4), .ref (b + 5), .ref (b + 6), .int v1_beasts, .int v1_meals, .int v1_seats, .int v1_laws, .int v1_inForce]), aI G 48 a2, aI G 8 a3, aI G 6 a4, .inr (0, [.ref (b + 38), .ref (b + 39), .int v37_height, .long v37_answer]), aI G 10 a38]
def fX0_learn (a2 : Nat → Int32) (a3 : Nat → Int32) (a4 : Nat → Int32) (a38 : Nat → Int32) (x2 : Int32) (x3 : Int32) (x4 : Int32) : Option ((Nat → Int32)) := gd 0 10 ((fX10_trait a2 x2 0).bind fun r2 => (gd 1 10 ((fX10_hungerIn a2 a3 x2 x3).bind fun r4 => (gd 2 10 ((fX10_trait a2 x2 3).bind fun r6 => (gd 3 10 ((fX10_trait a2 x2 4).bind fun r8 => (gd 4 10 (gd 5 10 (gd 6 10 (gd 2 6 (gd 7 10 (gd 8 10 (gd 9 10 (some ((va_up (va_up (va_up (va_up (va_up (va_up (va_up (va_up (va_up (va_up a38 (0 : Int32).toNatClampNeg x2) (1 : Int32).toNatClampNeg r2) (2 : Int32).toNatClampNeg r4) (3 : Int32).toNatClampNeg r6) (4 : Int32).toNatClampNeg r8) (5 : Int32).toNatClampNeg x4) (6 : Int32).toNatClampNeg x3) (7 : Int32).toNatClampNeg (a4 (2 : Int32).toNatClampNeg)) (8 : Int32).toNatClampNeg (-1 : Int32)) (9 : Int32).toNatClampNeg 0)))))))))))))))))
set_option maxHeartbeats 4000000 in
set_option maxRecDepth 100000 in
theorem tX0_learn {G : GT} {b : Nat} {c0 : Hp} {n : Nat} (hw : e_wf (kW23) n) {v1_beasts : Int32} {v1_meals : Int32} {v1_seats : Int32} {v1_laws : Int32} {v1_inForce : Int32} {v37_height : Int32} {v37_answer : Int64} {a2 : Nat → Int32} {a3 : Nat → Int32} {a4 : Nat → Int32} {a38 : Nat → Int32} {x2 : Int32} {x3 : Int32} {x4 : Int32} {R : (Nat → Int32)} (hf : fX0_learn a2 a3 a4 a38 x2 x3 x4 = some R) : E G b yX0_learn cX0_learn 5 none (e_rm 2 0 0) e_X0 (e_Z G b (pD none (e_ov (kW23) (wW23 G b v1_beasts v1_meals v1_seats v1_laws v1_inForce a2 a3 a4 v37_height v37_answer R) c0) n) 0 0) 0 [(0, .ref (b + 37)), (1, .ref (b + 1)), (2, .int x2), (3, .int x3), (4, .int x4)] [] (e_ov (kW23) (wW23 G b v1_beasts v1_meals v1_seats v1_laws v1_inForce a2 a3 a4 v37_height v37_answer a38) c0) n 0 0 := by
  unfold fX0_learn at hf
  refine E.aload_n 0 dX0_learn_0 rfl ?_
  refine E.get hw 4 37 dX0_learn_1 flX0_11 rfl rfl rfl rfl ?_
  refine E.iconst (v := 0) dX0_learn_4 (by decide) ?_
  refine E.iload_n 2 dX0_learn_5 rfl ?_
  obtain ⟨g1, hf⟩ := gd_some hf
  refine E.iast (es' := (wW23 G b v1_beasts v1_meals v1_seats v1_laws v1_inForce a2 a3 a4 v37_height v37_answer (va_up a38 (0 : Int32).toNatClampNeg x2))) hw 5 38 dX0_learn_6 rfl rfl g1 rfl ?_
  refine E.aload_n 0 dX0_learn_7 rfl ?_
  refine E.get hw 4 37 dX0_learn_8 flX0_11 rfl rfl rfl rfl ?_
  refine E.iconst (v := 1) dX0_learn_11 (by decide) ?_
  refine E.aload_n 1 dX0_learn_12 rfl ?_
  refine E.iload_n 2 dX0_learn_13 rfl ?_
  refine E.iconst (v := 0) dX0_learn_14 (by decide) ?_
  obtain ⟨r2, hc2, hf⟩ := e_bind hf
  refine E.callVDs (es' := (wW23 G b v1_beasts v1_meals v1_seats v1_laws v1_inForce a2 a3 a4 v37_height v37_answer (va_up a38 (0 : Int32).toNatClampNeg x2))) [.int 1, .ref (b + 38)] [0, 1] 0 1 dX0_learn_15 mlX0_38 hw rfl rfl rfl rfl (mX10_trait (hw.pick2 [0, 1] rfl (by decide)) hc2) rfl rfl rfl rfl ⟨Nat.le_of_ble_eq_true rfl, Nat.le_of_ble_eq_true rfl⟩ rfl rfl (Nat.le_of_ble_eq_true rfl) ⟨Nat.le_refl _, Nat.le_refl _⟩ rfl ?_
  obtain ⟨g3, hf⟩ := gd_some hf
  refine E.iast (es' := (wW23 G b v1_beasts v1_meals v1_seats v1_laws v1_inForce a2 a3 a4 v37_height v37_answer (va_up (va_up a38 (0 : Int32).toNatClampNeg x2) (1 : Int32).toNatClampNeg r2))) hw 5 38 dX0_learn_18 rfl rfl g3 rfl ?_
  refine E.aload_n 0 dX0_learn_19 rfl ?_
  refine E.get hw 4 37 dX0_learn_20 flX0_11 rfl rfl rfl rfl ?_
  refine E.iconst (v := 2) dX0_learn_23 (by decide) ?_
  refine E.aload_n 1 dX0_learn_24 rfl ?_
  refine E.iload_n 2 dX0_learn_25 rfl ?_
  refine E.iload_n 3 dX0_learn_26 rfl ?_
  obtain ⟨r4, hc4, hf⟩ := e_bind hf
  refine E.callVDs (es' := (wW23 G b v1_beasts v1_meals v1_seats v1_laws v1_inForce a2 a3 a4 v37_height v37_answer (va_up (va_up a38 (0 : Int32).toNatClampNeg x2) (1 : Int32).toNatClampNeg r2))) [.int 2, .ref (b + 38)] [0, 1, 2] 0 1 dX0_learn_27 mlX0_42 hw rfl rfl rfl rfl (mX10_hungerIn (hw.pick2 [0, 1, 2] rfl (by decide)) hc4) rfl rfl rfl rfl ⟨Nat.le_of_ble_eq_true rfl, Nat.le_of_ble_eq_true rfl⟩ rfl rfl (Nat.le_of_ble_eq_true rfl) ⟨Nat.le_refl _, Nat.le_refl _⟩ rfl ?_
  obtain ⟨g5, hf⟩ := gd_some hf
  refine E.iast (es' := (wW23 G b v1_beasts v1_meals v1_seats v1_laws v1_inForce a2 a3 a4 v37_height v37_answer (va_up (va_up (va_up a38 (0 : Int32).toNatClampNeg x2) (1 : Int32).toNatClampNeg r2) (2 : Int32).toNatClampNeg r4))) hw 5 38 dX0_learn_30 rfl rfl g5 rfl ?_
  refine E.aload_n 0 dX0_learn_31 rfl ?_
  refine E.get hw 4 37 dX0_learn_32 flX0_11 rfl rfl rfl rfl ?_
  refine E.iconst (v := 3) dX0_learn_35 (by decide) ?_
  refine E.aload_n 1 dX0_learn_36 rfl ?_
  refine E.iload_n 2 dX0_learn_37 rfl ?_
  refine E.iconst (v := 3) dX0_learn_38 (by decide) ?_
  obtain ⟨r6, hc6, hf⟩ := e_bind hf
  refine E.callVDs (es' := (wW23 G b v1_beasts v1_meals v1_seats v1_laws v1_inForce a2 a3 a4 v37_height v37_answer (va_up (va_up (va_up a38 (0 : Int32).toNatClampNeg x2) (1 : Int32).toNatClampNeg r2) (2 : Int32).toNatClampNeg r4))) [.int 3, .ref (b + 38)] [0, 1] 0 1 dX0_learn_39 mlX0_38 hw rfl rfl rfl rfl (mX10_trait (hw.pick2 [0, 1] rfl (by decide)) hc6) rfl rfl rfl rfl ⟨Nat.le_of_ble_eq_true rfl, Nat.le_of_ble_eq_true rfl⟩ rfl rfl (Nat.le_of_ble_eq_true rfl) ⟨Nat.le_refl _, Nat.le_refl _⟩ rfl ?_
  obtain ⟨g7, hf⟩ := gd_some hf
  refine E.iast (es' := (wW23 G b v1_beasts v1_meals v1_seats v1_laws v1_inForce a2 a3 a4 v37_height v37_answer (va_up (va_up (va_up (va_up a38 (0 : Int32).toNatClampNeg x2) (1 : Int32).toNatClampNeg r2) (2 : Int32).toNatClampNeg r4) (3 : Int32).toNatClampNeg r6))) hw 5 38 dX0_learn_42 rfl rfl g7 rfl ?_
  refine E.aload_n 0 dX0_learn_43 rfl ?_
  refine E.get hw 4 37 dX0_learn_44 flX0_11 rfl rfl rfl rfl ?_
  refine E.iconst (v := 4) dX0_learn_47 (by decide) ?_
  refine E.aload_n 1 dX0_learn_48 rfl ?_
  refine E.iload_n 2 dX0_learn_49 rfl ?_
  refine E.iconst (v := 4) dX0_learn_50 (by decide) ?_
  obtain ⟨r8, hc8, hf⟩ := e_bind hf
  refine E.callVDs (es' := (wW23 G b v1_beasts v1_meals v1_seats v1_laws v1_inForce a2 a3 a4 v37_height v37_answer (va_up (va_up (va_up (va_up a38 (0 : Int32).toNatClampNeg x2) (1 : Int32).toNatClampNeg r2) (2 : Int32).toNatClampNeg r4) (3 : Int32).toNatClampNeg r6))) [.int 4, .ref (b + 38)] [0, 1] 0 1 dX0_learn_51 mlX0_38 hw rfl rfl rfl rfl (mX10_trait (hw.pick2 [0, 1] rfl (by decide)) hc8) rfl rfl rfl rfl ⟨Nat.le_of_ble_eq_true rfl, Nat.le_of_ble_eq_true rfl⟩ rfl rfl (Nat.le_of_ble_eq_true rfl) ⟨Nat.le_refl _, Nat.le_refl _⟩ rfl ?_
  obtain ⟨g9, hf⟩ := gd_some hf
  refine E.iast (es' := (wW23 G b v1_beasts v1_meals v1_seats v1_laws v1_inForce a2 a3 a4 v37_height v37_answer (va_up (va_up (va_up (va_up (va_up a38 (0 : Int32).toNatClampNeg x2) (1 : Int32).toNatClampNeg r2) (2 : Int32).toNatClampNeg r4) (3 : Int32).toNatClampNeg r6) (4 : Int32).toNatClampNeg r8))) hw 5 38 dX0_learn_54 rfl rfl g9 rfl ?_
  refine E.aload_n 0 dX0_learn_55 rfl ?_
  refine E.get hw 4 37 dX0_learn_56 flX0_11 rfl rfl rfl rfl ?_
  refine E.iconst (v := 5) dX0_learn_59 (by decide) ?_
  refine E.iload 4 dX0_learn_60 rfl ?_
  obtain ⟨g10, hf⟩ := gd_some hf
  refine E.iast (es' := (wW23 G b v1_beasts v1_meals v1_seats v1_laws v1_inForce a2 a3 a4 v37_height v37_answer (va_up (va_up (va_up (va_up (va_up (va_up a38 (0 : Int32).toNatClampNeg x2) (1 : Int32).toNatClampNeg r2) (2 : Int32).toNatClampNeg r4) (3 : Int32).toNatClampNeg r6) (4 : Int32).toNatClampNeg r8) (5 : Int32).toNatClampNeg x4))) hw 5 38 dX0_learn_62 rfl rfl g10 rfl ?_
  refine E.aload_n 0 dX0_learn_63 rfl ?_
  refine E.get hw 4 37 dX0_learn_64 flX0_11 rfl rfl rfl rfl ?_
  refine E.bipush (v := 6) dX0_learn_67 (by decide) ?_
  refine E.iload_n 3 dX0_learn_69 rfl ?_
  obtain ⟨g11, hf⟩ := gd_some hf
  refine E.iast (es' := (wW23 G b v1_beasts v1_meals v1_seats v1_laws v1_inForce a2 a3 a4 v37_height v37_answer (va_up (va_up (va_up (va_up (va_up (va_up (va_up a38 (0 : Int32).toNatClampNeg x2) (1 : Int32).toNatClampNeg r2) (2 : Int32).toNatClampNeg r4) (3 : Int32).toNatClampNeg r6) (4 : Int32).toNatClampNeg r8) (5 : Int32).toNatClampNeg x4) (6 : Int32).toNatClampNeg x3))) hw 5 38 dX0_learn_70 rfl rfl g11 rfl ?_
  refine E.aload_n 0 dX0_learn_71 rfl ?_
  refine E.get hw 4 37 dX0_learn_72 flX0_11 rfl rfl rfl rfl ?_
  refine E.bipush (v := 7) dX0_learn_75 (by decide) ?_
  refine E.aload_n 1 dX0_learn_77 rfl ?_
  refine E.getN hw 0 1 dX0_learn_78 fnX0_35 rfl rfl rfl rfl ?_
  refine E.iconst (v := 2) dX0_learn_81 (by decide) ?_
  obtain ⟨g12, hf⟩ := gd_some hf
  refine E.iald hw 3 4 dX0_learn_82 rfl rfl g12 ?_
  obtain ⟨g13, hf⟩ := gd_some hf
  refine E.iast (es' := (wW23 G b v1_beasts v1_meals v1_seats v1_laws v1_inForce a2 a3 a4 v37_height v37_answer (va_up (va_up (va_up (va_up (va_up (va_up (va_up (va_up a38 (0 : Int32).toNatClampNeg x2) (1 : Int32).toNatClampNeg r2) (2 : Int32).toNatClampNeg r4) (3 : Int32).toNatClampNeg r6) (4 : Int32).toNatClampNeg r8) (5 : Int32).toNatClampNeg x4) (6 : Int32).toNatClampNeg x3) (7 : Int32).toNatClampNeg (a4 (2 : Int32).toNatClampNeg)))) hw 5 38 dX0_learn_83 rfl rfl g13 rfl ?_
  refine E.aload_n 0 dX0_learn_84 rfl ?_
  refine E.get hw 4 37 dX0_learn_85 flX0_11 rfl rfl rfl rfl ?_
  refine E.bipush (v := 8) dX0_learn_88 (by decide) ?_
  refine E.iconst (v := -1) dX0_learn_90 (by decide) ?_
  obtain ⟨g14, hf⟩ := gd_some hf
  refine E.iast (es' := (wW23 G b v1_beasts v1_meals v1_seats v1_laws v1_inForce a2 a3 a4 v37_height v37_answer (va_up (va_up (va_up (va_up (va_up (va_up (va_up (va_up (va_up a38 (0 : Int32).toNatClampNeg x2) (1 : Int32).toNatClampNeg r2) (2 : Int32).toNatClampNeg r4) (3 : Int32).toNatClampNeg r6) (4 : Int32).toNatClampNeg r8) (5 : Int32).toNatClampNeg x4) (6 : Int32).toNatClampNeg x3) (7 : Int32).toNatClampNeg (a4 (2 : Int32).toNatClampNeg)) (8 : Int32).toNatClampNeg (-1 : Int32)))) hw 5 38 dX0_learn_91 rfl rfl g14 rfl ?_
  refine E.aload_n 0 dX0_learn_92 rfl ?_
  refine E.get hw 4 37 dX0_learn_93 flX0_11 rfl rfl rfl rfl ?_
  refine E.bipush (v := 9) dX0_learn_96 (by decide) ?_
  refine E.iconst (v := 0) dX0_learn_98 (by decide) ?_
  obtain ⟨g15, hf⟩ := gd_some hf
  refine E.iast (es' := (wW23 G b v1_beasts v1_meals v1_seats v1_laws v1_inForce a2 a3 a4 v37_height v37_answer (va_up (va_up (va_up (va_up (va_up (va_up (va_up (va_up (va_up (va_up a38 (0 : Int32).toNatClampNeg x2) (1 : Int32).toNatClampNeg r2) (2 : Int32).toNatClampNeg r4) (3 : Int32).toNatClampNeg r6) (4 : Int32).toNatClampNeg r8) (5 : Int32).toNatClampNeg x4) (6 : Int32).toNatClampNeg x3) (7 : Int32).toNatClampNeg (a4 (2 : Int32).toNatClampNeg)) (8 : Int32).toNatClampNeg (-1 : Int32)) (9 : Int32).toNatClampNeg 0))) hw 5 38 dX0_learn_99 rfl rfl g15 rfl ?_
  cases hf
  exact E.vret dX0_learn_100 (Nat.le_refl _) (Nat.le_refl _) (pD_rf _ _ _)
set_option maxRecDepth 100000 in
theorem mX0_learn {G : GT} {b : Nat} {c0 : Hp} {n : Nat} (hw : e_wf (kW23) n) {v1_beasts : Int32} {v1_meals : Int32} {v1_seats : Int32} {v1_laws : Int32} {v1_inForce : Int32} {v37_height : Int32} {v37_answer : Int64} {a2 : Nat → Int32} {a3 : Nat → Int32} {a4 : Nat → Int32} {a38 : Nat → Int32} {x2 : Int32} {x3 : Int32} {x4 : Int32} {R : (Nat → Int32)} (hf : fX0_learn a2 a3 a4 a38 x2 x3 x4 = some R) : e_C G b yX0_learn cX0_learn 5 none 2 0 0 [.ref (b + 37), .ref (b + 1), .int x2, .int x3, .int x4] (e_ov (kW23) (wW23 G b v1_beasts v1_meals v1_seats v1_laws v1_inForce a2 a3 a4 v37_height v37_answer a38) c0) n (pD none (e_ov (kW23) (wW23 G b v1_beasts v1_meals v1_seats v1_laws v1_inForce a2 a3 a4 v37_height v37_answer R) c0) n) := e_C.of (by decide) (Nat.le_of_ble_eq_true rfl) (tX0_learn hw hf)
abbrev kW24 : List Nat := [1, 5]
abbrev wW24 (G : GT) (b  : Nat) (v1_beasts : Int32) (v1_meals : Int32) (v1_seats : Int32) (v1_laws : Int32) (v1_inForce : Int32) (a5 : Nat → Option Nat) : List va_E := [.inr (10, [.ref (b + 2), .ref (b + 3), .ref (b + 4), .ref (b + 5), .ref (b + 6), .int v1_beasts, .int v1_meals, .int v1_seats, .int v1_laws, .int v1_inForce]), aQ G 4 6 a5]
def fX10_ruling_N_L30 (v1_laws : Int32) (v1_inForce : Int32) (a5 : Nat → Option Nat) : Option ((Option Nat)) := some (none)
set_option maxHeartbeats 4000000 in
set_option maxRecDepth 100000 in
theorem tX10_ruling_N_L30 {G : GT} {b : Nat} {c0 : Hp} {n : Nat} (hw : e_wf (kW24) n) {v1_beasts : Int32} {v1_meals : Int32} {v1_seats : Int32} {v1_laws : Int32} {v1_inForce : Int32} {a5 : Nat → Option Nat} {R : (Option Nat)} (hf : fX10_ruling_N_L30 v1_laws v1_inForce a5 = some R) : E G b yX10_ruling cX10_ruling 1 (some (.object "YardCourt$Law")) (e_rm 0 0 0) e_X0 (e_Z G b (pD (some (va_rf R)) (e_ov (kW24) (wW24 G b v1_beasts v1_meals v1_seats v1_laws v1_inForce a5) c0) n) 0 0) 30 [] [] (e_ov (kW24) (wW24 G b v1_beasts v1_meals v1_seats v1_laws v1_inForce a5) c0) n 0 0 := by
  unfold fX10_ruling_N_L30 at hf
  refine E.aconst_null dX10_ruling_30 ?_
  cases hf
  exact E.aret dX10_ruling_31 (Or.inl ⟨_, rfl⟩) (Or.inl rfl) (Nat.le_refl _) (Nat.le_refl _) (pD_rf _ _ _)
def fX10_ruling_N (v1_laws : Int32) (v1_inForce : Int32) (a5 : Nat → Option Nat) : Option ((Option Nat)) := if (v1_inForce : Int32) < (0 : Int32) then (fX10_ruling_N_L30 v1_laws v1_inForce a5) else (if (v1_laws : Int32) ≤ (v1_inForce : Int32) then (fX10_ruling_N_L30 v1_laws v1_inForce a5) else (gd v1_inForce 6 (some ((a5 (v1_inForce : Int32).toNatClampNeg)))))
set_option maxHeartbeats 4000000 in
set_option maxRecDepth 100000 in
theorem tX10_ruling_N {G : GT} {b : Nat} {c0 : Hp} {n : Nat} (hw : e_wf (kW24) n) {v1_beasts : Int32} {v1_meals : Int32} {v1_seats : Int32} {v1_laws : Int32} {v1_inForce : Int32} {a5 : Nat → Option Nat} {R : (Option Nat)} (hf : fX10_ruling_N v1_laws v1_inForce a5 = some R) : E G b yX10_ruling cX10_ruling 1 (some (.object "YardCourt$Law")) (e_rm 0 0 0) e_X0 (e_Z G b (pD (some (va_rf R)) (e_ov (kW24) (wW24 G b v1_beasts v1_meals v1_seats v1_laws v1_inForce a5) c0) n) 0 0) 0 [(0, .ref (b + 1))] [] (e_ov (kW24) (wW24 G b v1_beasts v1_meals v1_seats v1_laws v1_inForce a5) c0) n 0 0 := by
  unfold fX10_ruling_N at hf
  refine E.aload_n 0 dX10_ruling_0 rfl ?_
  refine E.get hw 0 1 dX10_ruling_1 flX10_42 rfl rfl rfl rfl ?_
  refine E.if_lt dX10_ruling_4 (fun h => ?_) (fun h => ?_)
  · have hf := e_ift hf h
    refine E.locals [] rfl ?_
    exact tX10_ruling_N_L30 hw hf
  · have hf := e_iff hf h
    refine E.aload_n 0 dX10_ruling_7 rfl ?_
    refine E.get hw 0 1 dX10_ruling_8 flX10_42 rfl rfl rfl rfl ?_
    refine E.aload_n 0 dX10_ruling_11 rfl ?_
    refine E.get hw 0 1 dX10_ruling_12 flX10_65 rfl rfl rfl rfl ?_
    refine E.icmp_ge dX10_ruling_15 (fun h => ?_) (fun h => ?_)
    · have hf := e_ift hf h
      refine E.locals [] rfl ?_
      exact tX10_ruling_N_L30 hw hf
    · have hf := e_iff hf h
      refine E.aload_n 0 dX10_ruling_18 rfl ?_
      refine E.get hw 0 1 dX10_ruling_19 flX10_31 rfl rfl rfl rfl ?_
      refine E.aload_n 0 dX10_ruling_22 rfl ?_
      refine E.get hw 0 1 dX10_ruling_23 flX10_42 rfl rfl rfl rfl ?_
      obtain ⟨g1, hf⟩ := gd_some hf
      refine E.aald hw 1 5 dX10_ruling_26 rfl rfl rfl g1 ?_
      refine E.goto dX10_ruling_27 ?_
      cases hf
      exact E.aret dX10_ruling_31 (Or.inl ⟨_, rfl⟩) (va_rf_or _) (Nat.le_refl _) (Nat.le_refl _) (pD_rf _ _ _)
set_option maxRecDepth 100000 in
theorem mX10_ruling_N {G : GT} {b : Nat} {c0 : Hp} {n : Nat} (hw : e_wf (kW24) n) {v1_beasts : Int32} {v1_meals : Int32} {v1_seats : Int32} {v1_laws : Int32} {v1_inForce : Int32} {a5 : Nat → Option Nat} {R : (Option Nat)} (hf : fX10_ruling_N v1_laws v1_inForce a5 = some R) : e_C G b yX10_ruling cX10_ruling 1 (some (.object "YardCourt$Law")) 0 0 0 [.ref (b + 1)] (e_ov (kW24) (wW24 G b v1_beasts v1_meals v1_seats v1_laws v1_inForce a5) c0) n (pD (some (va_rf R)) (e_ov (kW24) (wW24 G b v1_beasts v1_meals v1_seats v1_laws v1_inForce a5) c0) n) := e_C.of (by decide) (Nat.le_of_ble_eq_true rfl) (tX10_ruling_N hw hf)
abbrev kW25 : List Nat := [37]
abbrev wW25 (G : GT) (b  : Nat) (v37_height : Int32) (v37_answer : Int64) : List va_E := [.inr (0, [.ref (b + 38), .ref (b + 39), .int v37_height, .long v37_answer])]
def fX0_told_N (Fu : Nat) (x2 : Int32) (x3 : Int32) (x4 : Int32) : Option (Int32) := some (x3)
set_option maxHeartbeats 4000000 in
set_option maxRecDepth 100000 in
theorem tX0_told_N {G : GT} {b : Nat} {c0 : Hp} {n : Nat} (hw : e_wf (kW25) n) {v37_height : Int32} {v37_answer : Int64} {Fu : Nat} {x2 : Int32} {x3 : Int32} {x4 : Int32} {R : Int32} (hf : fX0_told_N Fu x2 x3 x4 = some R) : E G b yX0_told cX0_told 6 (some .int) (e_rm 0 0 0) e_X0 (e_Z G b (pD (some (.int R)) (e_ov (kW25) (wW25 G b v37_height v37_answer) c0) n) 0 0) 0 [(0, .ref (b + 37)), (1, .null), (2, .int x2), (3, .int x3), (4, .int x4)] [] (e_ov (kW25) (wW25 G b v37_height v37_answer) c0) n 0 0 := by
  unfold fX0_told_N at hf
  refine E.aload_nN 1 dX0_told_0 rfl ?_
  refine E.ifnonnullN dX0_told_1 ?_
  refine E.iload_n 3 dX0_told_4 rfl ?_
  cases hf
  exact E.iret dX0_told_5 (Nat.le_refl _) (Nat.le_refl _) (pD_rf _ _ _)
set_option maxRecDepth 100000 in
theorem mX0_told_N {G : GT} {b : Nat} {c0 : Hp} {n : Nat} (hw : e_wf (kW25) n) {v37_height : Int32} {v37_answer : Int64} {Fu : Nat} {x2 : Int32} {x3 : Int32} {x4 : Int32} {R : Int32} (hf : fX0_told_N Fu x2 x3 x4 = some R) : e_C G b yX0_told cX0_told 6 (some .int) 0 0 0 [.ref (b + 37), .null, .int x2, .int x3, .int x4] (e_ov (kW25) (wW25 G b v37_height v37_answer) c0) n (pD (some (.int R)) (e_ov (kW25) (wW25 G b v37_height v37_answer) c0) n) := e_C.of (by decide) (Nat.le_of_ble_eq_true rfl) (tX0_told_N hw hf)
abbrev kW26 : List Nat := [1, 2, 3, 4, 5, 37, 38]
abbrev wW26 (G : GT) (b  : Nat) (v1_beasts : Int32) (v1_meals : Int32) (v1_seats : Int32) (v1_laws : Int32) (v1_inForce : Int32) (a2 : Nat → Int32) (a3 : Nat → Int32) (a4 : Nat → Int32) (a5 : Nat → Option Nat) (v37_height : Int32) (v37_answer : Int64) (a38 : Nat → Int32) : List va_E := [.inr (10, [.ref (b + 2), .ref (b + 3), .ref (b + 4), .ref (b + 5), .ref (b + 6), .int v1_beasts, .int v1_meals, .int v1_seats, .int v1_laws, .int v1_inForce]), aI G 48 a2, aI G 8 a3, aI G 6 a4, aQ G 4 6 a5, .inr (0, [.ref (b + 38), .ref (b + 39), .int v37_height, .long v37_answer]), aI G 10 a38]
def fX0_chanceOf_N (Fu : Nat) (v1_laws : Int32) (v1_inForce : Int32) (a2 : Nat → Int32) (a3 : Nat → Int32) (a4 : Nat → Int32) (a5 : Nat → Option Nat) (a38 : Nat → Int32) (x2 : Int32) (x3 : Int32) (x4 : Int32) (x5 : Int32) : Option (Int32 × (Nat → Int32)) := (fX0_learn a2 a3 a4 a38 x2 x3 x4).bind fun r1 => (gd 9 10 ((fX10_ruling_N v1_laws v1_inForce a5).bind fun r3 => (gq r3 none ((fX0_told_N Fu 0 50 100).bind fun r5 => (some (r5, (va_up r1 (9 : Int32).toNatClampNeg x5)))))))
set_option maxHeartbeats 4000000 in
set_option maxRecDepth 100000 in
theorem tX0_chanceOf_N {G : GT} {b : Nat} {c0 : Hp} {n : Nat} (hw : e_wf (kW26) n) {v1_beasts : Int32} {v1_meals : Int32} {v1_seats : Int32} {v37_height : Int32} {v37_answer : Int64} {Fu : Nat} {v1_laws : Int32} {v1_inForce : Int32} {a2 : Nat → Int32} {a3 : Nat → Int32} {a4 : Nat → Int32} {a5 : Nat → Option Nat} {a38 : Nat → Int32} {x2 : Int32} {x3 : Int32} {x4 : Int32} {x5 : Int32} {R : Int32 × (Nat → Int32)} (hf : fX0_chanceOf_N Fu v1_laws v1_inForce a2 a3 a4 a5 a38 x2 x3 x4 x5 = some R) : E G b yX0_chanceOf cX0_chanceOf 6 (some .int) (e_rm 3 0 0) e_X0 (e_Z G b (pD (some (.int R.1)) (e_ov (kW26) (wW26 G b v1_beasts v1_meals v1_seats v1_laws v1_inForce a2 a3 a4 a5 v37_height v37_answer R.2) c0) n) 0 0) 0 [(0, .ref (b + 37)), (1, .ref (b + 1)), (2, .int x2), (3, .int x3), (4, .int x4), (5, .int x5)] [] (e_ov (kW26) (wW26 G b v1_beasts v1_meals v1_seats v1_laws v1_inForce a2 a3 a4 a5 v37_height v37_answer a38) c0) n 0 0 := by
  unfold fX0_chanceOf_N at hf
  refine E.aload_n 0 dX0_chanceOf_0 rfl ?_
  refine E.aload_n 1 dX0_chanceOf_1 rfl ?_
  refine E.iload_n 2 dX0_chanceOf_2 rfl ?_
  refine E.iload_n 3 dX0_chanceOf_3 rfl ?_
  refine E.iload 4 dX0_chanceOf_4 rfl ?_
  obtain ⟨r1, hc1, hf⟩ := e_bind hf
  refine E.callVDs (es' := (wW26 G b v1_beasts v1_meals v1_seats v1_laws v1_inForce a2 a3 a4 a5 v37_height v37_answer r1)) [] [0, 1, 2, 3, 5, 6] 5 37 dX0_chanceOf_6 mlX0_21 hw rfl rfl rfl rfl (mX0_learn (hw.pick2 [0, 1, 2, 3, 5, 6] rfl (by decide)) hc1) rfl rfl rfl rfl ⟨Nat.le_of_ble_eq_true rfl, Nat.le_of_ble_eq_true rfl⟩ rfl rfl (Nat.le_of_ble_eq_true rfl) ⟨Nat.le_refl _, Nat.le_refl _⟩ rfl ?_
  refine E.aload_n 0 dX0_chanceOf_9 rfl ?_
  refine E.get hw 5 37 dX0_chanceOf_10 flX0_11 rfl rfl rfl rfl ?_
  refine E.bipush (v := 9) dX0_chanceOf_13 (by decide) ?_
  refine E.iload 5 dX0_chanceOf_15 rfl ?_
  obtain ⟨g2, hf⟩ := gd_some hf
  refine E.iast (es' := (wW26 G b v1_beasts v1_meals v1_seats v1_laws v1_inForce a2 a3 a4 a5 v37_height v37_answer (va_up r1 (9 : Int32).toNatClampNeg x5))) hw 6 38 dX0_chanceOf_17 rfl rfl g2 rfl ?_
  refine E.aload_n 0 dX0_chanceOf_18 rfl ?_
  refine E.aload_n 1 dX0_chanceOf_19 rfl ?_
  obtain ⟨r3, hc3, hf⟩ := e_bind hf
  obtain ⟨g4, hf⟩ := gq_some hf
  refine E.callVDs (es' := (wW26 G b v1_beasts v1_meals v1_seats v1_laws v1_inForce a2 a3 a4 a5 v37_height v37_answer (va_up r1 (9 : Int32).toNatClampNeg x5))) [.ref (b + 37)] [0, 4] 0 1 dX0_chanceOf_20 mlX0_25 hw rfl rfl rfl rfl (mX10_ruling_N (hw.pick2 [0, 4] rfl (by decide)) hc3) rfl rfl rfl rfl ⟨Nat.le_of_ble_eq_true rfl, Nat.le_of_ble_eq_true rfl⟩ rfl rfl (Nat.le_of_ble_eq_true rfl) ⟨Nat.le_refl _, Nat.le_refl _⟩ (by rw [g4] <;> rfl) ?_
  refine E.iconst (v := 0) dX0_chanceOf_23 (by decide) ?_
  refine E.bipush (v := 50) dX0_chanceOf_24 (by decide) ?_
  refine E.bipush (v := 100) dX0_chanceOf_26 (by decide) ?_
  obtain ⟨r5, hc5, hf⟩ := e_bind hf
  refine E.callVDs (es' := (wW26 G b v1_beasts v1_meals v1_seats v1_laws v1_inForce a2 a3 a4 a5 v37_height v37_answer (va_up r1 (9 : Int32).toNatClampNeg x5))) [] [5] 5 37 dX0_chanceOf_28 mlX0_31 hw rfl rfl rfl rfl (mX0_told_N (hw.pick2 [5] rfl (by decide)) hc5) rfl rfl rfl rfl ⟨Nat.le_of_ble_eq_true rfl, Nat.le_of_ble_eq_true rfl⟩ rfl rfl (Nat.le_of_ble_eq_true rfl) ⟨Nat.le_refl _, Nat.le_refl _⟩ rfl ?_
  cases hf
  exact E.iret dX0_chanceOf_31 (Nat.le_refl _) (Nat.le_refl _) (pD_rf _ _ _)
set_option maxRecDepth 100000 in
theorem mX0_chanceOf_N {G : GT} {b : Nat} {c0 : Hp} {n : Nat} (hw : e_wf (kW26) n) {v1_beasts : Int32} {v1_meals : Int32} {v1_seats : Int32} {v37_height : Int32} {v37_answer : Int64} {Fu : Nat} {v1_laws : Int32} {v1_inForce : Int32} {a2 : Nat → Int32} {a3 : Nat → Int32} {a4 : Nat → Int32} {a5 : Nat → Option Nat} {a38 : Nat → Int32} {x2 : Int32} {x3 : Int32} {x4 : Int32} {x5 : Int32} {R : Int32 × (Nat → Int32)} (hf : fX0_chanceOf_N Fu v1_laws v1_inForce a2 a3 a4 a5 a38 x2 x3 x4 x5 = some R) : e_C G b yX0_chanceOf cX0_chanceOf 6 (some .int) 3 0 0 [.ref (b + 37), .ref (b + 1), .int x2, .int x3, .int x4, .int x5] (e_ov (kW26) (wW26 G b v1_beasts v1_meals v1_seats v1_laws v1_inForce a2 a3 a4 a5 v37_height v37_answer a38) c0) n (pD (some (.int R.1)) (e_ov (kW26) (wW26 G b v1_beasts v1_meals v1_seats v1_laws v1_inForce a2 a3 a4 a5 v37_height v37_answer R.2) c0) n) := e_C.of (by decide) (Nat.le_of_ble_eq_true rfl) (tX0_chanceOf_N hw hf)
abbrev kW27 : List Nat := [0, 1, 2, 3, 4, 5, 37, 38]
abbrev wW27 (G : GT) (b  : Nat) (v0_faultPlace : Int32) (v0_quashedRows : Int32) (v0_lastRefusal : Int32) (v1_beasts : Int32) (v1_meals : Int32) (v1_seats : Int32) (v1_laws : Int32) (v1_inForce : Int32) (a2 : Nat → Int32) (a3 : Nat → Int32) (a4 : Nat → Int32) (a5 : Nat → Option Nat) (v37_height : Int32) (v37_answer : Int64) (a38 : Nat → Int32) : List va_E := [.inr (11, [.ref (b + 1), .ref (b + 10), .ref (b + 29), .ref (b + 30), .ref (b + 32), .ref (b + 37), .ref (b + 40), .ref (b + 42), .ref (b + 69), .ref (b + 73), .ref (b + 74), .ref (b + 76), .ref (b + 78), .int v0_faultPlace, .int v0_quashedRows, .int v0_lastRefusal]), .inr (10, [.ref (b + 2), .ref (b + 3), .ref (b + 4), .ref (b + 5), .ref (b + 6), .int v1_beasts, .int v1_meals, .int v1_seats, .int v1_laws, .int v1_inForce]), aI G 48 a2, aI G 8 a3, aI G 6 a4, aQ G 4 6 a5, .inr (0, [.ref (b + 38), .ref (b + 39), .int v37_height, .long v37_answer]), aI G 10 a38]
def fX11_chance_N (Fu : Nat) (v1_beasts : Int32) (v1_laws : Int32) (v1_inForce : Int32) (a2 : Nat → Int32) (a3 : Nat → Int32) (a4 : Nat → Int32) (a5 : Nat → Option Nat) (a38 : Nat → Int32) (x1 : Int32) (x2 : Int32) (x3 : Int32) : Option (Int32 × (Nat → Int32)) := (fX10_hasBeast v1_beasts x1).bind fun r1 => (if (r1 : Int32) = (0 : Int32) then (some ((-1 : Int32), a38)) else ((fX11_isHour x2).bind fun r2 => (if (r2 : Int32) = (0 : Int32) then (some ((-1 : Int32), a38)) else (if (x3 : Int32) < (0 : Int32) then (some ((-1 : Int32), a38)) else (if (x3 : Int32) ≤ (3 : Int32) then ((fX0_chanceOf_N Fu v1_laws v1_inForce a2 a3 a4 a5 a38 x1 x2 x3 0).bind fun r3 => (some (r3.1, r3.2))) else (some ((-1 : Int32), a38)))))))
set_option maxHeartbeats 4000000 in
set_option maxRecDepth 100000 in
theorem tX11_chance_N {G : GT} {b : Nat} {c0 : Hp} {n : Nat} (hw : e_wf (kW27) n) {v0_faultPlace : Int32} {v0_quashedRows : Int32} {v0_lastRefusal : Int32} {v1_meals : Int32} {v1_seats : Int32} {v37_height : Int32} {v37_answer : Int64} {Fu : Nat} {v1_beasts : Int32} {v1_laws : Int32} {v1_inForce : Int32} {a2 : Nat → Int32} {a3 : Nat → Int32} {a4 : Nat → Int32} {a5 : Nat → Option Nat} {a38 : Nat → Int32} {x1 : Int32} {x2 : Int32} {x3 : Int32} {R : Int32 × (Nat → Int32)} (hf : fX11_chance_N Fu v1_beasts v1_laws v1_inForce a2 a3 a4 a5 a38 x1 x2 x3 = some R) : E G b yX11_chance cX11_chance 4 (some .int) (e_rm 4 0 0) e_X0 (e_Z G b (pD (some (.int R.1)) (e_ov (kW27) (wW27 G b v0_faultPlace v0_quashedRows v0_lastRefusal v1_beasts v1_meals v1_seats v1_laws v1_inForce a2 a3 a4 a5 v37_height v37_answer R.2) c0) n) 0 0) 0 [(0, .ref (b + 0)), (1, .int x1), (2, .int x2), (3, .int x3)] [] (e_ov (kW27) (wW27 G b v0_faultPlace v0_quashedRows v0_lastRefusal v1_beasts v1_meals v1_seats v1_laws v1_inForce a2 a3 a4 a5 v37_height v37_answer a38) c0) n 0 0 := by
  unfold fX11_chance_N at hf
  refine E.aload_n 0 dX11_chance_0 rfl ?_
  refine E.get hw 0 0 dX11_chance_1 flX11_10 rfl rfl rfl rfl ?_
  refine E.iload_n 1 dX11_chance_4 rfl ?_
  obtain ⟨r1, hc1, hf⟩ := e_bind hf
  refine E.callVDs (es' := (wW27 G b v0_faultPlace v0_quashedRows v0_lastRefusal v1_beasts v1_meals v1_seats v1_laws v1_inForce a2 a3 a4 a5 v37_height v37_answer a38)) [] [1] 1 1 dX11_chance_5 mlX11_111 hw rfl rfl rfl rfl (mX10_hasBeast (hw.pick2 [1] rfl (by decide)) hc1) rfl rfl rfl rfl ⟨Nat.le_of_ble_eq_true rfl, Nat.le_of_ble_eq_true rfl⟩ rfl rfl (Nat.le_of_ble_eq_true rfl) ⟨Nat.le_refl _, Nat.le_refl _⟩ rfl ?_
  refine E.if_eq dX11_chance_8 (fun h => ?_) (fun h => ?_)
  · have hf := e_ift hf h
    refine E.iconst (v := -1) dX11_chance_27 (by decide) ?_
    cases hf
    exact E.iret dX11_chance_28 (Nat.le_refl _) (Nat.le_refl _) (pD_rf _ _ _)
  · have hf := e_iff hf h
    refine E.iload_n 2 dX11_chance_11 rfl ?_
    obtain ⟨r2, hc2, hf⟩ := e_bind hf
    refine E.callSD [] dX11_chance_12 mlX11_119 (mX11_isHour hc2) ⟨Nat.le_of_ble_eq_true rfl, Nat.le_of_ble_eq_true rfl⟩ rfl rfl (Nat.le_of_ble_eq_true rfl) ⟨Nat.le_refl _, Nat.le_refl _⟩ rfl ?_
    refine E.if_eq dX11_chance_15 (fun h => ?_) (fun h => ?_)
    · have hf := e_ift hf h
      refine E.iconst (v := -1) dX11_chance_27 (by decide) ?_
      cases hf
      exact E.iret dX11_chance_28 (Nat.le_refl _) (Nat.le_refl _) (pD_rf _ _ _)
    · have hf := e_iff hf h
      refine E.iload_n 3 dX11_chance_18 rfl ?_
      refine E.if_lt dX11_chance_19 (fun h => ?_) (fun h => ?_)
      · have hf := e_ift hf h
        refine E.iconst (v := -1) dX11_chance_27 (by decide) ?_
        cases hf
        exact E.iret dX11_chance_28 (Nat.le_refl _) (Nat.le_refl _) (pD_rf _ _ _)
      · have hf := e_iff hf h
        refine E.iload_n 3 dX11_chance_22 rfl ?_
        refine E.iconst (v := 3) dX11_chance_23 (by decide) ?_
        refine E.icmp_le dX11_chance_24 (fun h => ?_) (fun h => ?_)
        · have hf := e_ift hf h
          refine E.aload_n 0 dX11_chance_29 rfl ?_
          refine E.get hw 0 0 dX11_chance_30 flX11_43 rfl rfl rfl rfl ?_
          refine E.aload_n 0 dX11_chance_33 rfl ?_
          refine E.get hw 0 0 dX11_chance_34 flX11_10 rfl rfl rfl rfl ?_
          refine E.iload_n 1 dX11_chance_37 rfl ?_
          refine E.iload_n 2 dX11_chance_38 rfl ?_
          refine E.iload_n 3 dX11_chance_39 rfl ?_
          refine E.iconst (v := 0) dX11_chance_40 (by decide) ?_
          obtain ⟨r3, hc3, hf⟩ := e_bind hf
          refine E.callVDs (es' := (wW27 G b v0_faultPlace v0_quashedRows v0_lastRefusal v1_beasts v1_meals v1_seats v1_laws v1_inForce a2 a3 a4 a5 v37_height v37_answer r3.2)) [] [1, 2, 3, 4, 5, 6, 7] 6 37 dX11_chance_41 mlX11_199 hw rfl rfl rfl rfl (mX0_chanceOf_N (hw.pick2 [1, 2, 3, 4, 5, 6, 7] rfl (by decide)) hc3) rfl rfl rfl rfl ⟨Nat.le_of_ble_eq_true rfl, Nat.le_of_ble_eq_true rfl⟩ rfl rfl (Nat.le_of_ble_eq_true rfl) ⟨Nat.le_refl _, Nat.le_refl _⟩ rfl ?_
          cases hf
          exact E.iret dX11_chance_44 (Nat.le_refl _) (Nat.le_refl _) (pD_rf _ _ _)
        · have hf := e_iff hf h
          refine E.iconst (v := -1) dX11_chance_27 (by decide) ?_
          cases hf
          exact E.iret dX11_chance_28 (Nat.le_refl _) (Nat.le_refl _) (pD_rf _ _ _)
set_option maxRecDepth 100000 in
theorem mX11_chance_N {G : GT} {b : Nat} {c0 : Hp} {n : Nat} (hw : e_wf (kW27) n) {v0_faultPlace : Int32} {v0_quashedRows : Int32} {v0_lastRefusal : Int32} {v1_meals : Int32} {v1_seats : Int32} {v37_height : Int32} {v37_answer : Int64} {Fu : Nat} {v1_beasts : Int32} {v1_laws : Int32} {v1_inForce : Int32} {a2 : Nat → Int32} {a3 : Nat → Int32} {a4 : Nat → Int32} {a5 : Nat → Option Nat} {a38 : Nat → Int32} {x1 : Int32} {x2 : Int32} {x3 : Int32} {R : Int32 × (Nat → Int32)} (hf : fX11_chance_N Fu v1_beasts v1_laws v1_inForce a2 a3 a4 a5 a38 x1 x2 x3 = some R) : e_C G b yX11_chance cX11_chance 4 (some .int) 4 0 0 [.ref (b + 0), .int x1, .int x2, .int x3] (e_ov (kW27) (wW27 G b v0_faultPlace v0_quashedRows v0_lastRefusal v1_beasts v1_meals v1_seats v1_laws v1_inForce a2 a3 a4 a5 v37_height v37_answer a38) c0) n (pD (some (.int R.1)) (e_ov (kW27) (wW27 G b v0_faultPlace v0_quashedRows v0_lastRefusal v1_beasts v1_meals v1_seats v1_laws v1_inForce a2 a3 a4 a5 v37_height v37_answer R.2) c0) n) := e_C.of (by decide) (Nat.le_of_ble_eq_true rfl) (tX11_chance_N hw hf)
def fX10_ruling_L_L30 (v1_laws : Int32) (v1_inForce : Int32) (a5 : Nat → Option Nat) : Option ((Option Nat)) := some (none)
set_option maxHeartbeats 4000000 in
set_option maxRecDepth 100000 in
theorem tX10_ruling_L_L30 {G : GT} {b : Nat} {c0 : Hp} {n : Nat} (hw : e_wf (kW24) n) {v1_beasts : Int32} {v1_meals : Int32} {v1_seats : Int32} {v1_laws : Int32} {v1_inForce : Int32} {a5 : Nat → Option Nat} {R : (Option Nat)} (hf : fX10_ruling_L_L30 v1_laws v1_inForce a5 = some R) : E G b yX10_ruling cX10_ruling 1 (some (.object "YardCourt$Law")) (e_rm 0 0 0) e_X0 (e_Z G b (pD (some (va_rf R)) (e_ov (kW24) (wW24 G b v1_beasts v1_meals v1_seats v1_laws v1_inForce a5) c0) n) 0 0) 30 [] [] (e_ov (kW24) (wW24 G b v1_beasts v1_meals v1_seats v1_laws v1_inForce a5) c0) n 0 0 := by
  unfold fX10_ruling_L_L30 at hf
  refine E.aconst_null dX10_ruling_30 ?_
  cases hf
  exact E.aret dX10_ruling_31 (Or.inl ⟨_, rfl⟩) (Or.inl rfl) (Nat.le_refl _) (Nat.le_refl _) (pD_rf _ _ _)
def fX10_ruling_L (v1_laws : Int32) (v1_inForce : Int32) (a5 : Nat → Option Nat) : Option ((Option Nat)) := if (v1_inForce : Int32) < (0 : Int32) then (fX10_ruling_L_L30 v1_laws v1_inForce a5) else (if (v1_laws : Int32) ≤ (v1_inForce : Int32) then (fX10_ruling_L_L30 v1_laws v1_inForce a5) else (gd v1_inForce 6 (some ((a5 (v1_inForce : Int32).toNatClampNeg)))))
set_option maxHeartbeats 4000000 in
set_option maxRecDepth 100000 in
theorem tX10_ruling_L {G : GT} {b : Nat} {c0 : Hp} {n : Nat} (hw : e_wf (kW24) n) {v1_beasts : Int32} {v1_meals : Int32} {v1_seats : Int32} {v1_laws : Int32} {v1_inForce : Int32} {a5 : Nat → Option Nat} {R : (Option Nat)} (hf : fX10_ruling_L v1_laws v1_inForce a5 = some R) : E G b yX10_ruling cX10_ruling 1 (some (.object "YardCourt$Law")) (e_rm 0 0 0) e_X0 (e_Z G b (pD (some (va_rf R)) (e_ov (kW24) (wW24 G b v1_beasts v1_meals v1_seats v1_laws v1_inForce a5) c0) n) 0 0) 0 [(0, .ref (b + 1))] [] (e_ov (kW24) (wW24 G b v1_beasts v1_meals v1_seats v1_laws v1_inForce a5) c0) n 0 0 := by
  unfold fX10_ruling_L at hf
  refine E.aload_n 0 dX10_ruling_0 rfl ?_
  refine E.get hw 0 1 dX10_ruling_1 flX10_42 rfl rfl rfl rfl ?_
  refine E.if_lt dX10_ruling_4 (fun h => ?_) (fun h => ?_)
  · have hf := e_ift hf h
    refine E.locals [] rfl ?_
    exact tX10_ruling_L_L30 hw hf
  · have hf := e_iff hf h
    refine E.aload_n 0 dX10_ruling_7 rfl ?_
    refine E.get hw 0 1 dX10_ruling_8 flX10_42 rfl rfl rfl rfl ?_
    refine E.aload_n 0 dX10_ruling_11 rfl ?_
    refine E.get hw 0 1 dX10_ruling_12 flX10_65 rfl rfl rfl rfl ?_
    refine E.icmp_ge dX10_ruling_15 (fun h => ?_) (fun h => ?_)
    · have hf := e_ift hf h
      refine E.locals [] rfl ?_
      exact tX10_ruling_L_L30 hw hf
    · have hf := e_iff hf h
      refine E.aload_n 0 dX10_ruling_18 rfl ?_
      refine E.get hw 0 1 dX10_ruling_19 flX10_31 rfl rfl rfl rfl ?_
      refine E.aload_n 0 dX10_ruling_22 rfl ?_
      refine E.get hw 0 1 dX10_ruling_23 flX10_42 rfl rfl rfl rfl ?_
      obtain ⟨g1, hf⟩ := gd_some hf
      refine E.aald hw 1 5 dX10_ruling_26 rfl rfl rfl g1 ?_
      refine E.goto dX10_ruling_27 ?_
      cases hf
      exact E.aret dX10_ruling_31 (Or.inl ⟨_, rfl⟩) (va_rf_or _) (Nat.le_refl _) (Nat.le_refl _) (pD_rf _ _ _)
set_option maxRecDepth 100000 in
theorem mX10_ruling_L {G : GT} {b : Nat} {c0 : Hp} {n : Nat} (hw : e_wf (kW24) n) {v1_beasts : Int32} {v1_meals : Int32} {v1_seats : Int32} {v1_laws : Int32} {v1_inForce : Int32} {a5 : Nat → Option Nat} {R : (Option Nat)} (hf : fX10_ruling_L v1_laws v1_inForce a5 = some R) : e_C G b yX10_ruling cX10_ruling 1 (some (.object "YardCourt$Law")) 0 0 0 [.ref (b + 1)] (e_ov (kW24) (wW24 G b v1_beasts v1_meals v1_seats v1_laws v1_inForce a5) c0) n (pD (some (va_rf R)) (e_ov (kW24) (wW24 G b v1_beasts v1_meals v1_seats v1_laws v1_inForce a5) c0) n) := e_C.of (by decide) (Nat.le_of_ble_eq_true rfl) (tX10_ruling_L hw hf)
abbrev kW28 : List Nat := [37, 39]
abbrev wW28 (G : GT) (b  : Nat) (v37_height : Int32) (v37_answer : Int64) (a39 : Nat → Int64) : List va_E := [.inr (0, [.ref (b + 38), .ref (b + 39), .int v37_height, .long v37_answer]), aJ G 51 a39]
def fX0_combine_L234 (v37_height : Int32) (a39 : Nat → Int64) : Option (Int32 × Int32 × (Nat → Int64)) := some (0, v37_height, a39)
set_option maxHeartbeats 4000000 in
set_option maxRecDepth 100000 in
theorem tX0_combine_L234 {G : GT} {b : Nat} {c0 : Hp} {n : Nat} (hw : e_wf (kW28) n) {v37_answer : Int64} {v37_height : Int32} {a39 : Nat → Int64} {R : Int32 × Int32 × (Nat → Int64)} (hf : fX0_combine_L234 v37_height a39 = some R) : E G b yX0_combine cX0_combine 8 (some .boolean) (e_rm 0 0 0) e_X0 (e_Z G b (pD (some (.int R.1)) (e_ov (kW28) (wW28 G b R.2.1 v37_answer R.2.2) c0) n) 0 0) 234 [] [] (e_ov (kW28) (wW28 G b v37_height v37_answer a39) c0) n 0 0 := by
  unfold fX0_combine_L234 at hf
  refine E.iconst (v := 0) dX0_combine_234 (by decide) ?_
  cases hf
  exact E.zret dX0_combine_235 rfl (Nat.le_refl _) (Nat.le_refl _) (pD_rf _ _ _)
def fX0_combine_L199 (v37_height : Int32) (a39 : Nat → Int64) (x6 : Int64) : Option (Int32 × Int32 × (Nat → Int64)) := gd (v37_height - 1) 51 (if (x6 : Int64) < ((-1000000000 : Int64) : Int64) then (fX0_combine_L234 v37_height (va_up a39 ((v37_height - 1) : Int32).toNatClampNeg x6)) else (if (1000000000 : Int64) < (x6 : Int64) then (fX0_combine_L234 v37_height (va_up a39 ((v37_height - 1) : Int32).toNatClampNeg x6)) else (some (1, v37_height, (va_up a39 ((v37_height - 1) : Int32).toNatClampNeg x6)))))
set_option maxHeartbeats 4000000 in
set_option maxRecDepth 100000 in
theorem tX0_combine_L199 {G : GT} {b : Nat} {c0 : Hp} {n : Nat} (hw : e_wf (kW28) n) {v37_answer : Int64} {v37_height : Int32} {a39 : Nat → Int64} {x6 : Int64} {R : Int32 × Int32 × (Nat → Int64)} (hf : fX0_combine_L199 v37_height a39 x6 = some R) : E G b yX0_combine cX0_combine 8 (some .boolean) (e_rm 0 0 0) e_X0 (e_Z G b (pD (some (.int R.1)) (e_ov (kW28) (wW28 G b R.2.1 v37_answer R.2.2) c0) n) 0 0) 199 [(0, .ref (b + 37)), (6, .long x6)] [] (e_ov (kW28) (wW28 G b v37_height v37_answer a39) c0) n 0 0 := by
  unfold fX0_combine_L199 at hf
  refine E.aload_n 0 dX0_combine_199 rfl ?_
  refine E.get hw 0 37 dX0_combine_200 flX0_17 rfl rfl rfl rfl ?_
  refine E.aload_n 0 dX0_combine_203 rfl ?_
  refine E.get hw 0 37 dX0_combine_204 flX0_77 rfl rfl rfl rfl ?_
  refine E.iconst (v := 1) dX0_combine_207 (by decide) ?_
  refine E.isub dX0_combine_208 ?_
  refine E.lload 1 dX0_combine_209 rfl ?_
  obtain ⟨g5, hf⟩ := gd_some hf
  refine E.last (es' := (wW28 G b v37_height v37_answer (va_up a39 ((v37_height - 1) : Int32).toNatClampNeg x6))) hw 1 39 dX0_combine_211 rfl rfl g5 rfl ?_
  refine E.lload 1 dX0_combine_212 rfl ?_
  refine E.ldc2 dX0_combine_214 kX0_94 ?_
  refine E.lc_lt dX0_combine_217 dX0_combine_218 (fun h => ?_) (fun h => ?_)
  · have hf := e_ift hf h
    refine E.locals [] rfl ?_
    exact tX0_combine_L234 hw hf
  · have hf := e_iff hf h
    refine E.lload 1 dX0_combine_221 rfl ?_
    refine E.ldc2 dX0_combine_223 kX0_96 ?_
    refine E.lc_gt dX0_combine_226 dX0_combine_227 (fun h => ?_) (fun h => ?_)
    · have hf := e_ift hf h
      refine E.locals [] rfl ?_
      exact tX0_combine_L234 hw hf
    · have hf := e_iff hf h
      refine E.iconst (v := 1) dX0_combine_230 (by decide) ?_
      refine E.goto dX0_combine_231 ?_
      cases hf
      exact E.zret dX0_combine_235 rfl (Nat.le_refl _) (Nat.le_refl _) (pD_rf _ _ _)
def fX0_combine_L197 (v37_height : Int32) (a39 : Nat → Int64) (s0 : Int64) : Option (Int32 × Int32 × (Nat → Int64)) := fX0_combine_L199 v37_height a39 s0
set_option maxHeartbeats 4000000 in
set_option maxRecDepth 100000 in
theorem tX0_combine_L197 {G : GT} {b : Nat} {c0 : Hp} {n : Nat} (hw : e_wf (kW28) n) {v37_answer : Int64} {v37_height : Int32} {a39 : Nat → Int64} {s0 : Int64} {R : Int32 × Int32 × (Nat → Int64)} (hf : fX0_combine_L197 v37_height a39 s0 = some R) : E G b yX0_combine cX0_combine 8 (some .boolean) (e_rm 0 0 0) e_X0 (e_Z G b (pD (some (.int R.1)) (e_ov (kW28) (wW28 G b R.2.1 v37_answer R.2.2) c0) n) 0 0) 197 [(0, .ref (b + 37))] [.long s0] (e_ov (kW28) (wW28 G b v37_height v37_answer a39) c0) n 0 0 := by
  unfold fX0_combine_L197 at hf
  refine E.lstore (lv' := [(6, .long s0), (0, .ref (b + 37))]) dX0_combine_197 (by decide) rfl ?_
  refine E.locals [1, 0] rfl ?_
  exact tX0_combine_L199 hw hf
def fX0_combine_L31 (v37_height : Int32) (a39 : Nat → Int64) (x1 : Int32) : Option (Int32 × Int32 × (Nat → Int64)) := gd ((v37_height - 1) - 1) 51 (gd (v37_height - 1) 51 (if (x1 : Int32) = 2 then (fX0_combine_L199 (v37_height - 1) a39 ((a39 (((v37_height - 1) - 1) : Int32).toNatClampNeg) + (a39 ((v37_height - 1) : Int32).toNatClampNeg))) else (if (x1 : Int32) = 3 then (fX0_combine_L199 (v37_height - 1) a39 ((a39 (((v37_height - 1) - 1) : Int32).toNatClampNeg) - (a39 ((v37_height - 1) : Int32).toNatClampNeg))) else (if (x1 : Int32) = 4 then (fX0_combine_L199 (v37_height - 1) a39 ((a39 (((v37_height - 1) - 1) : Int32).toNatClampNeg) * (a39 ((v37_height - 1) : Int32).toNatClampNeg))) else (if (x1 : Int32) = 5 then (if ((a39 ((v37_height - 1) : Int32).toNatClampNeg) : Int64) = (0 : Int64) then (fX0_combine_L199 (v37_height - 1) a39 0) else (gzl (a39 ((v37_height - 1) : Int32).toNatClampNeg) (fX0_combine_L199 (v37_height - 1) a39 ((a39 (((v37_height - 1) - 1) : Int32).toNatClampNeg) / (a39 ((v37_height - 1) : Int32).toNatClampNeg))))) else (if (x1 : Int32) = 6 then (if ((a39 ((v37_height - 1) : Int32).toNatClampNeg) : Int64) ≤ ((a39 (((v37_height - 1) - 1) : Int32).toNatClampNeg) : Int64) then (fX0_combine_L199 (v37_height - 1) a39 0) else (fX0_combine_L199 (v37_height - 1) a39 1)) else (if (x1 : Int32) = 7 then (if ((a39 (((v37_height - 1) - 1) : Int32).toNatClampNeg) : Int64) ≤ ((a39 ((v37_height - 1) : Int32).toNatClampNeg) : Int64) then (fX0_combine_L199 (v37_height - 1) a39 0) else (fX0_combine_L199 (v37_height - 1) a39 1)) else (if ((a39 (((v37_height - 1) - 1) : Int32).toNatClampNeg) : Int64) = ((a39 ((v37_height - 1) : Int32).toNatClampNeg) : Int64) then (fX0_combine_L197 (v37_height - 1) a39 1) else (fX0_combine_L197 (v37_height - 1) a39 0)))))))))
set_option maxHeartbeats 4000000 in
set_option maxRecDepth 100000 in
theorem tX0_combine_L31 {G : GT} {b : Nat} {c0 : Hp} {n : Nat} (hw : e_wf (kW28) n) {v37_answer : Int64} {v37_height : Int32} {a39 : Nat → Int64} {x1 : Int32} {R : Int32 × Int32 × (Nat → Int64)} (hf : fX0_combine_L31 v37_height a39 x1 = some R) : E G b yX0_combine cX0_combine 8 (some .boolean) (e_rm 0 0 0) e_X0 (e_Z G b (pD (some (.int R.1)) (e_ov (kW28) (wW28 G b R.2.1 v37_answer R.2.2) c0) n) 0 0) 31 [(0, .ref (b + 37)), (1, .int x1)] [] (e_ov (kW28) (wW28 G b v37_height v37_answer a39) c0) n 0 0 := by
  unfold fX0_combine_L31 at hf
  refine E.aload_n 0 dX0_combine_31 rfl ?_
  refine E.dup dX0_combine_32 rfl ?_
  refine E.get hw 0 37 dX0_combine_33 flX0_77 rfl rfl rfl rfl ?_
  refine E.iconst (v := 1) dX0_combine_36 (by decide) ?_
  refine E.isub dX0_combine_37 ?_
  refine E.put (es' := (wW28 G b (v37_height - 1) v37_answer a39)) hw 0 37 dX0_combine_38 flX0_77 ftX0 rfl rfl rfl rfl rfl rfl (Nat.le_of_ble_eq_true rfl) rfl ?_
  refine E.aload_n 0 dX0_combine_41 rfl ?_
  refine E.get hw 0 37 dX0_combine_42 flX0_17 rfl rfl rfl rfl ?_
  refine E.aload_n 0 dX0_combine_45 rfl ?_
  refine E.get hw 0 37 dX0_combine_46 flX0_77 rfl rfl rfl rfl ?_
  refine E.iconst (v := 1) dX0_combine_49 (by decide) ?_
  refine E.isub dX0_combine_50 ?_
  obtain ⟨g2, hf⟩ := gd_some hf
  refine E.lald hw 1 39 dX0_combine_51 rfl rfl g2 ?_
  refine E.lstore_n (lv' := [(2, .long (a39 (((v37_height - 1) - 1) : Int32).toNatClampNeg)), (0, .ref (b + 37)), (1, .int x1)]) dX0_combine_52 (by decide) rfl ?_
  refine E.aload_n 1 dX0_combine_53 rfl ?_
  refine E.get hw 0 37 dX0_combine_54 flX0_17 rfl rfl rfl rfl ?_
  refine E.aload_n 1 dX0_combine_57 rfl ?_
  refine E.get hw 0 37 dX0_combine_58 flX0_77 rfl rfl rfl rfl ?_
  obtain ⟨g3, hf⟩ := gd_some hf
  refine E.lald hw 1 39 dX0_combine_61 rfl rfl g3 ?_
  refine E.lstore (lv' := [(4, .long (a39 ((v37_height - 1) : Int32).toNatClampNeg)), (2, .long (a39 (((v37_height - 1) - 1) : Int32).toNatClampNeg)), (0, .ref (b + 37)), (1, .int x1)]) dX0_combine_62 (by decide) rfl ?_
  refine E.iload_n 3 dX0_combine_64 rfl ?_
  by_cases h2 : (x1 : Int32) = 2
  · have hf := e_ift hf h2
    refine E.tswI (w := 2) (tgt := 104) dX0_combine_65 h2 (by decide) (by decide) (o2 := 39) rfl (by decide) ?_
    refine E.lload_n 1 dX0_combine_104 rfl ?_
    refine E.lload 0 dX0_combine_105 rfl ?_
    refine E.ladd dX0_combine_107 ?_
    refine E.lstore (lv' := [(6, .long ((a39 (((v37_height - 1) - 1) : Int32).toNatClampNeg) + (a39 ((v37_height - 1) : Int32).toNatClampNeg))), (4, .long (a39 ((v37_height - 1) : Int32).toNatClampNeg)), (2, .long (a39 (((v37_height - 1) - 1) : Int32).toNatClampNeg)), (0, .ref (b + 37)), (1, .int x1)]) dX0_combine_108 (by decide) rfl ?_
    refine E.goto dX0_combine_110 ?_
    refine E.locals [3, 0] rfl ?_
    exact tX0_combine_L199 hw hf
  · have hf := e_iff hf h2
    by_cases h3 : (x1 : Int32) = 3
    · have hf := e_ift hf h3
      refine E.tswI (w := 3) (tgt := 113) dX0_combine_65 h3 (by decide) (by decide) (o2 := 48) rfl (by decide) ?_
      refine E.lload_n 1 dX0_combine_113 rfl ?_
      refine E.lload 0 dX0_combine_114 rfl ?_
      refine E.lsub dX0_combine_116 ?_
      refine E.lstore (lv' := [(6, .long ((a39 (((v37_height - 1) - 1) : Int32).toNatClampNeg) - (a39 ((v37_height - 1) : Int32).toNatClampNeg))), (4, .long (a39 ((v37_height - 1) : Int32).toNatClampNeg)), (2, .long (a39 (((v37_height - 1) - 1) : Int32).toNatClampNeg)), (0, .ref (b + 37)), (1, .int x1)]) dX0_combine_117 (by decide) rfl ?_
      refine E.goto dX0_combine_119 ?_
      refine E.locals [3, 0] rfl ?_
      exact tX0_combine_L199 hw hf
    · have hf := e_iff hf h3
      by_cases h4 : (x1 : Int32) = 4
      · have hf := e_ift hf h4
        refine E.tswI (w := 4) (tgt := 122) dX0_combine_65 h4 (by decide) (by decide) (o2 := 57) rfl (by decide) ?_
        refine E.lload_n 1 dX0_combine_122 rfl ?_
        refine E.lload 0 dX0_combine_123 rfl ?_
        refine E.lmul dX0_combine_125 ?_
        refine E.lstore (lv' := [(6, .long ((a39 (((v37_height - 1) - 1) : Int32).toNatClampNeg) * (a39 ((v37_height - 1) : Int32).toNatClampNeg))), (4, .long (a39 ((v37_height - 1) : Int32).toNatClampNeg)), (2, .long (a39 (((v37_height - 1) - 1) : Int32).toNatClampNeg)), (0, .ref (b + 37)), (1, .int x1)]) dX0_combine_126 (by decide) rfl ?_
        refine E.goto dX0_combine_128 ?_
        refine E.locals [3, 0] rfl ?_
        exact tX0_combine_L199 hw hf
      · have hf := e_iff hf h4
        by_cases h5 : (x1 : Int32) = 5
        · have hf := e_ift hf h5
          refine E.tswI (w := 5) (tgt := 131) dX0_combine_65 h5 (by decide) (by decide) (o2 := 66) rfl (by decide) ?_
          refine E.lload 0 dX0_combine_131 rfl ?_
          refine E.lconst (v := 0) dX0_combine_133 (by decide) ?_
          refine E.lc_ne dX0_combine_134 dX0_combine_135 (fun h => ?_) (fun h => ?_)
          · have hf := e_iff hf h
            refine E.lload_n 1 dX0_combine_142 rfl ?_
            refine E.lload 0 dX0_combine_143 rfl ?_
            obtain ⟨g4, hf⟩ := gzl_some hf
            refine E.ldiv dX0_combine_145 g4 ?_
            refine E.lstore (lv' := [(6, .long ((a39 (((v37_height - 1) - 1) : Int32).toNatClampNeg) / (a39 ((v37_height - 1) : Int32).toNatClampNeg))), (4, .long (a39 ((v37_height - 1) : Int32).toNatClampNeg)), (2, .long (a39 (((v37_height - 1) - 1) : Int32).toNatClampNeg)), (0, .ref (b + 37)), (1, .int x1)]) dX0_combine_146 (by decide) rfl ?_
            refine E.goto dX0_combine_148 ?_
            refine E.locals [3, 0] rfl ?_
            exact tX0_combine_L199 hw hf
          · have hf := e_ift hf h
            refine E.lconst (v := 0) dX0_combine_138 (by decide) ?_
            refine E.goto dX0_combine_139 ?_
            refine E.lstore (lv' := [(6, .long 0), (4, .long (a39 ((v37_height - 1) : Int32).toNatClampNeg)), (2, .long (a39 (((v37_height - 1) - 1) : Int32).toNatClampNeg)), (0, .ref (b + 37)), (1, .int x1)]) dX0_combine_146 (by decide) rfl ?_
            refine E.goto dX0_combine_148 ?_
            refine E.locals [3, 0] rfl ?_
            exact tX0_combine_L199 hw hf
        · have hf := e_iff hf h5
          by_cases h6 : (x1 : Int32) = 6
          · have hf := e_ift hf h6
            refine E.tswI (w := 6) (tgt := 151) dX0_combine_65 h6 (by decide) (by decide) (o2 := 86) rfl (by decide) ?_
            refine E.lload_n 1 dX0_combine_151 rfl ?_
            refine E.lload 0 dX0_combine_152 rfl ?_
            refine E.lc_ge dX0_combine_154 dX0_combine_155 (fun h => ?_) (fun h => ?_)
            · have hf := e_ift hf h
              refine E.lconst (v := 0) dX0_combine_162 (by decide) ?_
              refine E.lstore (lv' := [(6, .long 0), (4, .long (a39 ((v37_height - 1) : Int32).toNatClampNeg)), (2, .long (a39 (((v37_height - 1) - 1) : Int32).toNatClampNeg)), (0, .ref (b + 37)), (1, .int x1)]) dX0_combine_163 (by decide) rfl ?_
              refine E.goto dX0_combine_165 ?_
              refine E.locals [3, 0] rfl ?_
              exact tX0_combine_L199 hw hf
            · have hf := e_iff hf h
              refine E.lconst (v := 1) dX0_combine_158 (by decide) ?_
              refine E.goto dX0_combine_159 ?_
              refine E.lstore (lv' := [(6, .long 1), (4, .long (a39 ((v37_height - 1) : Int32).toNatClampNeg)), (2, .long (a39 (((v37_height - 1) - 1) : Int32).toNatClampNeg)), (0, .ref (b + 37)), (1, .int x1)]) dX0_combine_163 (by decide) rfl ?_
              refine E.goto dX0_combine_165 ?_
              refine E.locals [3, 0] rfl ?_
              exact tX0_combine_L199 hw hf
          · have hf := e_iff hf h6
            by_cases h7 : (x1 : Int32) = 7
            · have hf := e_ift hf h7
              refine E.tswI (w := 7) (tgt := 168) dX0_combine_65 h7 (by decide) (by decide) (o2 := 103) rfl (by decide) ?_
              refine E.lload_n 1 dX0_combine_168 rfl ?_
              refine E.lload 0 dX0_combine_169 rfl ?_
              refine E.lc_le dX0_combine_171 dX0_combine_172 (fun h => ?_) (fun h => ?_)
              · have hf := e_ift hf h
                refine E.lconst (v := 0) dX0_combine_179 (by decide) ?_
                refine E.lstore (lv' := [(6, .long 0), (4, .long (a39 ((v37_height - 1) : Int32).toNatClampNeg)), (2, .long (a39 (((v37_height - 1) - 1) : Int32).toNatClampNeg)), (0, .ref (b + 37)), (1, .int x1)]) dX0_combine_180 (by decide) rfl ?_
                refine E.goto dX0_combine_182 ?_
                refine E.locals [3, 0] rfl ?_
                exact tX0_combine_L199 hw hf
              · have hf := e_iff hf h
                refine E.lconst (v := 1) dX0_combine_175 (by decide) ?_
                refine E.goto dX0_combine_176 ?_
                refine E.lstore (lv' := [(6, .long 1), (4, .long (a39 ((v37_height - 1) : Int32).toNatClampNeg)), (2, .long (a39 (((v37_height - 1) - 1) : Int32).toNatClampNeg)), (0, .ref (b + 37)), (1, .int x1)]) dX0_combine_180 (by decide) rfl ?_
                refine E.goto dX0_combine_182 ?_
                refine E.locals [3, 0] rfl ?_
                exact tX0_combine_L199 hw hf
            · have hf := e_iff hf h7
              refine E.tswO (tgt := 185) dX0_combine_65 (e_tsw_6 (ne_toInt h2 (k := 2) (by decide)) (ne_toInt h3 (k := 3) (by decide)) (ne_toInt h4 (k := 4) (by decide)) (ne_toInt h5 (k := 5) (by decide)) (ne_toInt h6 (k := 6) (by decide)) (ne_toInt h7 (k := 7) (by decide)) (by decide) (by decide) (by decide) (by decide) (by decide) (by decide) (by decide)) (by decide) ?_
              refine E.lload_n 1 dX0_combine_185 rfl ?_
              refine E.lload 0 dX0_combine_186 rfl ?_
              refine E.lc_ne dX0_combine_188 dX0_combine_189 (fun h => ?_) (fun h => ?_)
              · have hf := e_iff hf h
                refine E.lconst (v := 0) dX0_combine_196 (by decide) ?_
                refine E.locals [2] rfl ?_
                exact tX0_combine_L197 hw hf
              · have hf := e_ift hf h
                refine E.lconst (v := 1) dX0_combine_192 (by decide) ?_
                refine E.goto dX0_combine_193 ?_
                refine E.locals [2] rfl ?_
                exact tX0_combine_L197 hw hf
def fX0_combine (v37_height : Int32) (a39 : Nat → Int64) (x1 : Int32) : Option (Int32 × Int32 × (Nat → Int64)) := if (v37_height : Int32) < (2 : Int32) then (some (0, v37_height, a39)) else (if (x1 : Int32) = (5 : Int32) then (gd (v37_height - 1) 51 (if ((a39 ((v37_height - 1) : Int32).toNatClampNeg) : Int64) = (0 : Int64) then (some (0, v37_height, a39)) else (fX0_combine_L31 v37_height a39 x1))) else (fX0_combine_L31 v37_height a39 x1))
set_option maxHeartbeats 4000000 in
set_option maxRecDepth 100000 in
theorem tX0_combine {G : GT} {b : Nat} {c0 : Hp} {n : Nat} (hw : e_wf (kW28) n) {v37_answer : Int64} {v37_height : Int32} {a39 : Nat → Int64} {x1 : Int32} {R : Int32 × Int32 × (Nat → Int64)} (hf : fX0_combine v37_height a39 x1 = some R) : E G b yX0_combine cX0_combine 8 (some .boolean) (e_rm 0 0 0) e_X0 (e_Z G b (pD (some (.int R.1)) (e_ov (kW28) (wW28 G b R.2.1 v37_answer R.2.2) c0) n) 0 0) 0 [(0, .ref (b + 37)), (1, .int x1)] [] (e_ov (kW28) (wW28 G b v37_height v37_answer a39) c0) n 0 0 := by
  unfold fX0_combine at hf
  refine E.aload_n 0 dX0_combine_0 rfl ?_
  refine E.get hw 0 37 dX0_combine_1 flX0_77 rfl rfl rfl rfl ?_
  refine E.iconst (v := 2) dX0_combine_4 (by decide) ?_
  refine E.icmp_lt dX0_combine_5 (fun h => ?_) (fun h => ?_)
  · have hf := e_ift hf h
    refine E.iconst (v := 0) dX0_combine_29 (by decide) ?_
    cases hf
    exact E.zret dX0_combine_30 rfl (Nat.le_refl _) (Nat.le_refl _) (pD_rf _ _ _)
  · have hf := e_iff hf h
    refine E.iload_n 1 dX0_combine_8 rfl ?_
    refine E.iconst (v := 5) dX0_combine_9 (by decide) ?_
    refine E.icmp_ne dX0_combine_10 (fun h => ?_) (fun h => ?_)
    · have hf := e_iff hf h
      exact tX0_combine_L31 hw hf
    · have hf := e_ift hf h
      refine E.aload_n 0 dX0_combine_13 rfl ?_
      refine E.get hw 0 37 dX0_combine_14 flX0_17 rfl rfl rfl rfl ?_
      refine E.aload_n 0 dX0_combine_17 rfl ?_
      refine E.get hw 0 37 dX0_combine_18 flX0_77 rfl rfl rfl rfl ?_
      refine E.iconst (v := 1) dX0_combine_21 (by decide) ?_
      refine E.isub dX0_combine_22 ?_
      obtain ⟨g1, hf⟩ := gd_some hf
      refine E.lald hw 1 39 dX0_combine_23 rfl rfl g1 ?_
      refine E.lconst (v := 0) dX0_combine_24 (by decide) ?_
      refine E.lc_ne dX0_combine_25 dX0_combine_26 (fun h => ?_) (fun h => ?_)
      · have hf := e_iff hf h
        exact tX0_combine_L31 hw hf
      · have hf := e_ift hf h
        refine E.iconst (v := 0) dX0_combine_29 (by decide) ?_
        cases hf
        exact E.zret dX0_combine_30 rfl (Nat.le_refl _) (Nat.le_refl _) (pD_rf _ _ _)
set_option maxRecDepth 100000 in
theorem mX0_combine {G : GT} {b : Nat} {c0 : Hp} {n : Nat} (hw : e_wf (kW28) n) {v37_answer : Int64} {v37_height : Int32} {a39 : Nat → Int64} {x1 : Int32} {R : Int32 × Int32 × (Nat → Int64)} (hf : fX0_combine v37_height a39 x1 = some R) : e_C G b yX0_combine cX0_combine 8 (some .boolean) 0 0 0 [.ref (b + 37), .int x1] (e_ov (kW28) (wW28 G b v37_height v37_answer a39) c0) n (pD (some (.int R.1)) (e_ov (kW28) (wW28 G b R.2.1 v37_answer R.2.2) c0) n) := e_C.of (by decide) (Nat.le_of_ble_eq_true rfl) (tX0_combine hw hf)
