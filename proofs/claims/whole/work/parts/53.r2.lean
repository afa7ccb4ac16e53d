abbrev kW86 : List Nat := [32]
abbrev wW86 (G : GT) (b  : Nat) (v32_clauses : Int32) (v32_length : Int32) (v32_parts : Int32) (v32_start : Int32) (v32_behind : Int32) (v32_token : Int32) (v32_number : Int32) (v32_good : Int32) : List va_E := [.inr (6, [.ref (b + 30), .ref (b + 33), .ref (b + 34), .ref (b + 35), .ref (b + 36), .int v32_clauses, .int v32_length, .int v32_parts, .int v32_start, .int v32_behind, .int v32_token, .int v32_number, .int v32_good])]
def fX6_place (v32_start : Int32) (v32_good : Int32) : Option (Int32) := if (v32_good : Int32) = (0 : Int32) then (some (v32_start)) else (some ((-1 : Int32)))
set_option maxHeartbeats 4000000 in
set_option maxRecDepth 100000 in
theorem tX6_place {G : GT} {b : Nat} {c0 : Hp} {n : Nat} (hw : e_wf (kW86) n) {v32_clauses : Int32} {v32_length : Int32} {v32_parts : Int32} {v32_behind : Int32} {v32_token : Int32} {v32_number : Int32} {v32_start : Int32} {v32_good : Int32} {R : Int32} (hf : fX6_place v32_start v32_good = some R) : E G b yX6_place cX6_place 1 (some .int) (e_rm 0 0 0) e_X0 (e_Z G b (pD (some (.int R)) (e_ov (kW86) (wW86 G b v32_clauses v32_length v32_parts v32_start v32_behind v32_token v32_number v32_good) c0) n) 0 0) 0 [(0, .ref (b + 32))] [] (e_ov (kW86) (wW86 G b v32_clauses v32_length v32_parts v32_start v32_behind v32_token v32_number v32_good) c0) n 0 0 := by
  unfold fX6_place at hf
  refine E.aload_n 0 dX6_place_0 rfl ?_
  refine E.get hw 0 32 dX6_place_1 flX6_30 rfl rfl rfl rfl ?_
  refine E.if_eq dX6_place_4 (fun h => ?_) (fun h => ?_)
  · have hf := e_ift hf h
    refine E.aload_n 0 dX6_place_11 rfl ?_
    refine E.get hw 0 32 dX6_place_12 flX6_70 rfl rfl rfl rfl ?_
    cases hf
    exact E.iret dX6_place_15 (Nat.le_refl _) (Nat.le_refl _) (pD_rf _ _ _)
  · have hf := e_iff hf h
    refine E.iconst (v := -1) dX6_place_7 (by decide) ?_
    refine E.goto dX6_place_8 ?_
    cases hf
    exact E.iret dX6_place_15 (Nat.le_refl _) (Nat.le_refl _) (pD_rf _ _ _)
set_option maxRecDepth 100000 in
theorem mX6_place {G : GT} {b : Nat} {c0 : Hp} {n : Nat} (hw : e_wf (kW86) n) {v32_clauses : Int32} {v32_length : Int32} {v32_parts : Int32} {v32_behind : Int32} {v32_token : Int32} {v32_number : Int32} {v32_start : Int32} {v32_good : Int32} {R : Int32} (hf : fX6_place v32_start v32_good = some R) : e_C G b yX6_place cX6_place 1 (some .int) 0 0 0 [.ref (b + 32)] (e_ov (kW86) (wW86 G b v32_clauses v32_length v32_parts v32_start v32_behind v32_token v32_number v32_good) c0) n (pD (some (.int R)) (e_ov (kW86) (wW86 G b v32_clauses v32_length v32_parts v32_start v32_behind v32_token v32_number v32_good) c0) n) := e_C.of (by decide) (Nat.le_of_ble_eq_true rfl) (tX6_place hw hf)
