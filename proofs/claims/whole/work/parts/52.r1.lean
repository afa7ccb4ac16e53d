def fX6_readSum_L51 (Fu : Nat) (kS : Int32 → (Nat → Int32) → Int32 → Int32 → Int32 → Int32 → Int32 → Int32 → (Nat → Int32) → Int32 → Option (Int32 × Int32 × Int32 × Int32 × Int32 × Int32 × Int32 × (Nat → Int32))) (k8 : Int32 → (Nat → Int32) → Int32 → Int32 → Int32 → Int32 → Int32 → Int32 → (Nat → Int32) → Int32 → Int32 → Int32 → Option (Int32 × Int32 × Int32 × Int32 × Int32 × Int32 × Int32 × (Nat → Int32))) (v30_length : Int32) (a31 : Nat → Int32) (v32_length : Int32) (v32_parts : Int32) (v32_start : Int32) (v32_behind : Int32) (v32_token : Int32) (v32_number : Int32) (a36 : Nat → Int32) (x1 : Int32) (x3 : Int32) (s0 : Int32) : Option (Int32 × Int32 × Int32 × Int32 × Int32 × Int32 × Int32 × (Nat → Int32)) := (fX6_advance Fu v30_length a31 v32_start v32_behind v32_token v32_number).bind fun r8 => ((fX6_readTerm Fu kS v30_length a31 v32_length v32_parts r8.1 r8.2.1 r8.2.2.1 r8.2.2.2 a36 x1).bind fun r9 => ((fX6_emit r9.2.1 r9.2.2.2.2.2.2.2 s0 0).bind fun r10 => (k8 v30_length a31 r10.1 r9.2.2.1 r9.2.2.2.1 r9.2.2.2.2.1 r9.2.2.2.2.2.1 r9.2.2.2.2.2.2.1 r10.2 x1 r9.1 (x3 + 1))))
set_option maxHeartbeats 4000000 in
set_option maxRecDepth 100000 in
theorem tX6_readSum_L51 {G : GT} {b : Nat} {c0 : Hp} {n : Nat} {D : Nat} (hD : 6 ≤ D) (hw : e_wf (kW81) n) {v32_clauses : Int32} {v32_good : Int32} {kS : Int32 → (Nat → Int32) → Int32 → Int32 → Int32 → Int32 → Int32 → Int32 → (Nat → Int32) → Int32 → Option (Int32 × Int32 × Int32 × Int32 × Int32 × Int32 × Int32 × (Nat → Int32))} (hS : ∀ {v30_length : Int32} {a31 : Nat → Int32} {v32_length : Int32} {v32_parts : Int32} {v32_start : Int32} {v32_behind : Int32} {v32_token : Int32} {v32_number : Int32} {a36 : Nat → Int32} {x1 : Int32} {R : Int32 × Int32 × Int32 × Int32 × Int32 × Int32 × Int32 × (Nat → Int32)}, kS v30_length a31 v32_length v32_parts v32_start v32_behind v32_token v32_number a36 x1 = some R → e_C G b yX6_readSum cX6_readSum 5 (some .boolean) D 0 0 [.ref (b + 32), .int x1] (e_ov (kW81) (wW81 G b v30_length a31 v32_clauses v32_length v32_parts v32_start v32_behind v32_token v32_number v32_good a36) c0) n (pD (some (.int R.1)) (e_ov (kW81) (wW81 G b v30_length a31 v32_clauses R.2.1 R.2.2.1 R.2.2.2.1 R.2.2.2.2.1 R.2.2.2.2.2.1 R.2.2.2.2.2.2.1 v32_good R.2.2.2.2.2.2.2) c0) n)) {Fu : Nat} {k8 : Int32 → (Nat → Int32) → Int32 → Int32 → Int32 → Int32 → Int32 → Int32 → (Nat → Int32) → Int32 → Int32 → Int32 → Option (Int32 × Int32 × Int32 × Int32 × Int32 × Int32 × Int32 × (Nat → Int32))} (hk8 : ∀ {v30_length : Int32} {a31 : Nat → Int32} {v32_length : Int32} {v32_parts : Int32} {v32_start : Int32} {v32_behind : Int32} {v32_token : Int32} {v32_number : Int32} {a36 : Nat → Int32} {x1 : Int32} {x2 : Int32} {x3 : Int32} {R : Int32 × Int32 × Int32 × Int32 × Int32 × Int32 × Int32 × (Nat → Int32)}, k8 v30_length a31 v32_length v32_parts v32_start v32_behind v32_token v32_number a36 x1 x2 x3 = some R → E G b yX6_readSum cX6_readSum 5 (some .boolean) (e_rm (D + 4) 0 0) e_X0 (e_Z G b (pD (some (.int R.1)) (e_ov (kW81) (wW81 G b v30_length a31 v32_clauses R.2.1 R.2.2.1 R.2.2.2.1 R.2.2.2.2.1 R.2.2.2.2.2.1 R.2.2.2.2.2.2.1 v32_good R.2.2.2.2.2.2.2) c0) n) 0 0) 8 [(0, .ref (b + 32)), (1, .int x1), (2, .int x2), (3, .int x3)] [] (e_ov (kW81) (wW81 G b v30_length a31 v32_clauses v32_length v32_parts v32_start v32_behind v32_token v32_number v32_good a36) c0) n 0 0) {v30_length : Int32} {a31 : Nat → Int32} {v32_length : Int32} {v32_parts : Int32} {v32_start : Int32} {v32_behind : Int32} {v32_token : Int32} {v32_number : Int32} {a36 : Nat → Int32} {x1 : Int32} {x3 : Int32} {s0 : Int32} {R : Int32 × Int32 × Int32 × Int32 × Int32 × Int32 × Int32 × (Nat → Int32)} (hf : fX6_readSum_L51 Fu kS k8 v30_length a31 v32_length v32_parts v32_start v32_behind v32_token v32_number a36 x1 x3 s0 = some R) : E G b yX6_readSum cX6_readSum 5 (some .boolean) (e_rm (D + 4) 0 0) e_X0 (e_Z G b (pD (some (.int R.1)) (e_ov (kW81) (wW81 G b v30_length a31 v32_clauses R.2.1 R.2.2.1 R.2.2.2.1 R.2.2.2.2.1 R.2.2.2.2.2.1 R.2.2.2.2.2.2.1 v32_good R.2.2.2.2.2.2.2) c0) n) 0 0) 51 [(0, .ref (b + 32)), (1, .int x1), (3, .int x3)] [.int s0] (e_ov (kW81) (wW81 G b v30_length a31 v32_clauses v32_length v32_parts v32_start v32_behind v32_token v32_number v32_good a36) c0) n 0 0 := by
  unfold fX6_readSum_L51 at hf
  refine E.istore (lv' := [(4, .int s0), (0, .ref (b + 32)), (1, .int x1), (3, .int x3)]) dX6_readSum_51 (by decide) rfl ?_
  refine E.aload_n 1 dX6_readSum_53 rfl ?_
  obtain ⟨r8, hc8, hf⟩ := e_bind hf
  refine E.callVDs (es' := (wW81 G b v30_length a31 v32_clauses v32_length v32_parts r8.1 r8.2.1 r8.2.2.1 r8.2.2.2 v32_good a36)) [] [0, 1, 2] 2 32 dX6_readSum_54 mlX6_47 hw rfl rfl rfl rfl (mX6_advance (hw.pick2 [0, 1, 2] rfl (by decide)) hc8) rfl rfl rfl rfl ⟨by show _ ≤ D + 4; omega, by show _ ≤ 64 * (D + 4); omega⟩ rfl rfl (Nat.le_of_ble_eq_true rfl) ⟨Nat.le_refl _, Nat.le_refl _⟩ rfl ?_
  refine E.aload_n 1 dX6_readSum_57 rfl ?_
  refine E.iload_n 2 dX6_readSum_58 rfl ?_
  obtain ⟨r9, hc9, hf⟩ := e_bind hf
  refine E.callVD [] dX6_readSum_59 mlX6_155 ⟨hw.sub (p := 2) rfl, e_ov_get hw.1 (p := 2) rfl rfl⟩ rfl rfl (mX6_readTerm (by omega) hw hS hc9) ⟨by show _ ≤ D + 4; omega, by show _ ≤ 64 * (D + 4); omega⟩ rfl rfl (Nat.le_of_ble_eq_true rfl) ⟨Nat.le_refl _, Nat.le_refl _⟩ rfl ?_
  refine E.istore_n (lv' := [(2, .int r9.1), (4, .int s0), (0, .ref (b + 32)), (1, .int x1), (3, .int x3)]) dX6_readSum_62 (by decide) rfl ?_
  refine E.aload_n 2 dX6_readSum_63 rfl ?_
  refine E.iload 1 dX6_readSum_64 rfl ?_
  refine E.iconst (v := 0) dX6_readSum_66 (by decide) ?_
  obtain ⟨r10, hc10, hf⟩ := e_bind hf
  refine E.callVDs (es' := (wW81 G b v30_length a31 v32_clauses r10.1 r9.2.2.1 r9.2.2.2.1 r9.2.2.2.2.1 r9.2.2.2.2.2.1 r9.2.2.2.2.2.2.1 v32_good r10.2)) [] [2, 3] 2 32 dX6_readSum_67 mlX6_134 hw rfl rfl rfl rfl (mX6_emit (hw.pick2 [2, 3] rfl (by decide)) hc10) rfl rfl rfl rfl ⟨by show _ ≤ D + 4; omega, by show _ ≤ 64 * (D + 4); omega⟩ rfl rfl (Nat.le_of_ble_eq_true rfl) ⟨Nat.le_refl _, Nat.le_refl _⟩ rfl ?_
  refine E.iinc (q := 4) (v := (x3 + 1)) (lv' := [(3, .int (x3 + 1)), (2, .int r9.1), (4, .int s0), (0, .ref (b + 32)), (1, .int x1)]) dX6_readSum_70 rfl rfl (by decide) rfl ?_
  refine E.goto dX6_readSum_73 ?_
  refine E.locals [3, 4, 1, 0] rfl ?_
  exact hk8 hf
def fX6_readSum_L37 (Fu : Nat) (kS : Int32 → (Nat → Int32) → Int32 → Int32 → Int32 → Int32 → Int32 → Int32 → (Nat → Int32) → Int32 → Option (Int32 × Int32 × Int32 × Int32 × Int32 × Int32 × Int32 × (Nat → Int32))) (k8 : Int32 → (Nat → Int32) → Int32 → Int32 → Int32 → Int32 → Int32 → Int32 → (Nat → Int32) → Int32 → Int32 → Int32 → Option (Int32 × Int32 × Int32 × Int32 × Int32 × Int32 × Int32 × (Nat → Int32))) (v30_length : Int32) (a31 : Nat → Int32) (v32_length : Int32) (v32_parts : Int32) (v32_start : Int32) (v32_behind : Int32) (v32_token : Int32) (v32_number : Int32) (a36 : Nat → Int32) (x1 : Int32) (x3 : Int32) : Option (Int32 × Int32 × Int32 × Int32 × Int32 × Int32 × Int32 × (Nat → Int32)) := (fX6_isSign v30_length a31 v32_start v32_token 43).bind fun r7 => (if (r7 : Int32) = (0 : Int32) then (fX6_readSum_L51 Fu kS k8 v30_length a31 v32_length v32_parts v32_start v32_behind v32_token v32_number a36 x1 x3 3) else (fX6_readSum_L51 Fu kS k8 v30_length a31 v32_length v32_parts v32_start v32_behind v32_token v32_number a36 x1 x3 2))
set_option maxHeartbeats 4000000 in
set_option maxRecDepth 100000 in
theorem tX6_readSum_L37 {G : GT} {b : Nat} {c0 : Hp} {n : Nat} {D : Nat} (hD : 6 ≤ D) (hw : e_wf (kW81) n) {v32_clauses : Int32} {v32_good : Int32} {kS : Int32 → (Nat → Int32) → Int32 → Int32 → Int32 → Int32 → Int32 → Int32 → (Nat → Int32) → Int32 → Option (Int32 × Int32 × Int32 × Int32 × Int32 × Int32 × Int32 × (Nat → Int32))} (hS : ∀ {v30_length : Int32} {a31 : Nat → Int32} {v32_length : Int32} {v32_parts : Int32} {v32_start : Int32} {v32_behind : Int32} {v32_token : Int32} {v32_number : Int32} {a36 : Nat → Int32} {x1 : Int32} {R : Int32 × Int32 × Int32 × Int32 × Int32 × Int32 × Int32 × (Nat → Int32)}, kS v30_length a31 v32_length v32_parts v32_start v32_behind v32_token v32_number a36 x1 = some R → e_C G b yX6_readSum cX6_readSum 5 (some .boolean) D 0 0 [.ref (b + 32), .int x1] (e_ov (kW81) (wW81 G b v30_length a31 v32_clauses v32_length v32_parts v32_start v32_behind v32_token v32_number v32_good a36) c0) n (pD (some (.int R.1)) (e_ov (kW81) (wW81 G b v30_length a31 v32_clauses R.2.1 R.2.2.1 R.2.2.2.1 R.2.2.2.2.1 R.2.2.2.2.2.1 R.2.2.2.2.2.2.1 v32_good R.2.2.2.2.2.2.2) c0) n)) {Fu : Nat} {k8 : Int32 → (Nat → Int32) → Int32 → Int32 → Int32 → Int32 → Int32 → Int32 → (Nat → Int32) → Int32 → Int32 → Int32 → Option (Int32 × Int32 × Int32 × Int32 × Int32 × Int32 × Int32 × (Nat → Int32))} (hk8 : ∀ {v30_length : Int32} {a31 : Nat → Int32} {v32_length : Int32} {v32_parts : Int32} {v32_start : Int32} {v32_behind : Int32} {v32_token : Int32} {v32_number : Int32} {a36 : Nat → Int32} {x1 : Int32} {x2 : Int32} {x3 : Int32} {R : Int32 × Int32 × Int32 × Int32 × Int32 × Int32 × Int32 × (Nat → Int32)}, k8 v30_length a31 v32_length v32_parts v32_start v32_behind v32_token v32_number a36 x1 x2 x3 = some R → E G b yX6_readSum cX6_readSum 5 (some .boolean) (e_rm (D + 4) 0 0) e_X0 (e_Z G b (pD (some (.int R.1)) (e_ov (kW81) (wW81 G b v30_length a31 v32_clauses R.2.1 R.2.2.1 R.2.2.2.1 R.2.2.2.2.1 R.2.2.2.2.2.1 R.2.2.2.2.2.2.1 v32_good R.2.2.2.2.2.2.2) c0) n) 0 0) 8 [(0, .ref (b + 32)), (1, .int x1), (2, .int x2), (3, .int x3)] [] (e_ov (kW81) (wW81 G b v30_length a31 v32_clauses v32_length v32_parts v32_start v32_behind v32_token v32_number v32_good a36) c0) n 0 0) {v30_length : Int32} {a31 : Nat → Int32} {v32_length : Int32} {v32_parts : Int32} {v32_start : Int32} {v32_behind : Int32} {v32_token : Int32} {v32_number : Int32} {a36 : Nat → Int32} {x1 : Int32} {x3 : Int32} {R : Int32 × Int32 × Int32 × Int32 × Int32 × Int32 × Int32 × (Nat → Int32)} (hf : fX6_readSum_L37 Fu kS k8 v30_length a31 v32_length v32_parts v32_start v32_behind v32_token v32_number a36 x1 x3 = some R) : E G b yX6_readSum cX6_readSum 5 (some .boolean) (e_rm (D + 4) 0 0) e_X0 (e_Z G b (pD (some (.int R.1)) (e_ov (kW81) (wW81 G b v30_length a31 v32_clauses R.2.1 R.2.2.1 R.2.2.2.1 R.2.2.2.2.1 R.2.2.2.2.2.1 R.2.2.2.2.2.2.1 v32_good R.2.2.2.2.2.2.2) c0) n) 0 0) 37 [(0, .ref (b + 32)), (1, .int x1), (3, .int x3)] [] (e_ov (kW81) (wW81 G b v30_length a31 v32_clauses v32_length v32_parts v32_start v32_behind v32_token v32_number v32_good a36) c0) n 0 0 := by
  unfold fX6_readSum_L37 at hf
  refine E.aload_n 0 dX6_readSum_37 rfl ?_
  refine E.bipush (v := 43) dX6_readSum_38 (by decide) ?_
  obtain ⟨r7, hc7, hf⟩ := e_bind hf
  refine E.callVDs (es' := (wW81 G b v30_length a31 v32_clauses v32_length v32_parts v32_start v32_behind v32_token v32_number v32_good a36)) [] [0, 1, 2] 2 32 dX6_readSum_40 mlX6_54 hw rfl rfl rfl rfl (mX6_isSign (hw.pick2 [0, 1, 2] rfl (by decide)) hc7) rfl rfl rfl rfl ⟨by show _ ≤ D + 4; omega, by show _ ≤ 64 * (D + 4); omega⟩ rfl rfl (Nat.le_of_ble_eq_true rfl) ⟨Nat.le_refl _, Nat.le_refl _⟩ rfl ?_
  refine E.if_eq dX6_readSum_43 (fun h => ?_) (fun h => ?_)
  · have hf := e_ift hf h
    refine E.iconst (v := 3) dX6_readSum_50 (by decide) ?_
    exact tX6_readSum_L51 hD hw hS hk8 hf
  · have hf := e_iff hf h
    refine E.iconst (v := 2) dX6_readSum_46 (by decide) ?_
    refine E.goto dX6_readSum_47 ?_
    exact tX6_readSum_L51 hD hw hS hk8 hf
def fX6_readSum_L8 (Fu : Nat) (kS : Int32 → (Nat → Int32) → Int32 → Int32 → Int32 → Int32 → Int32 → Int32 → (Nat → Int32) → Int32 → Option (Int32 × Int32 × Int32 × Int32 × Int32 × Int32 × Int32 × (Nat → Int32))) : Nat → Int32 → (Nat → Int32) → Int32 → Int32 → Int32 → Int32 → Int32 → Int32 → (Nat → Int32) → Int32 → Int32 → Int32 → Option (Int32 × Int32 × Int32 × Int32 × Int32 × Int32 × Int32 × (Nat → Int32))
  | 0, _, _, _, _, _, _, _, _, _, _, _, _ => none
  | k + 1, v30_length, a31, v32_length, v32_parts, v32_start, v32_behind, v32_token, v32_number, a36, x1, x2, x3 => if (400 : Int32) ≤ (x3 : Int32) then (gb x2 (some (x2, v32_length, v32_parts, v32_start, v32_behind, v32_token, v32_number, a36))) else (if (x2 : Int32) = (0 : Int32) then (gb x2 (some (x2, v32_length, v32_parts, v32_start, v32_behind, v32_token, v32_number, a36))) else ((fX6_isSign v30_length a31 v32_start v32_token 43).bind fun r4 => (if (r4 : Int32) = (0 : Int32) then ((fX6_isSign v30_length a31 v32_start v32_token 45).bind fun r5 => (if (r5 : Int32) = (0 : Int32) then (gb x2 (some (x2, v32_length, v32_parts, v32_start, v32_behind, v32_token, v32_number, a36))) else (fX6_readSum_L37 Fu kS (fX6_readSum_L8 Fu kS k) v30_length a31 v32_length v32_parts v32_start v32_behind v32_token v32_number a36 x1 x3))) else (fX6_readSum_L37 Fu kS (fX6_readSum_L8 Fu kS k) v30_length a31 v32_length v32_parts v32_start v32_behind v32_token v32_number a36 x1 x3))))
set_option maxHeartbeats 4000000 in
set_option maxRecDepth 100000 in
theorem tX6_readSum_L8 {G : GT} {b : Nat} {c0 : Hp} {n : Nat} {D : Nat} (hD : 6 ≤ D) (hw : e_wf (kW81) n) {v32_clauses : Int32} {v32_good : Int32} {kS : Int32 → (Nat → Int32) → Int32 → Int32 → Int32 → Int32 → Int32 → Int32 → (Nat → Int32) → Int32 → Option (Int32 × Int32 × Int32 × Int32 × Int32 × Int32 × Int32 × (Nat → Int32))} (hS : ∀ {v30_length : Int32} {a31 : Nat → Int32} {v32_length : Int32} {v32_parts : Int32} {v32_start : Int32} {v32_behind : Int32} {v32_token : Int32} {v32_number : Int32} {a36 : Nat → Int32} {x1 : Int32} {R : Int32 × Int32 × Int32 × Int32 × Int32 × Int32 × Int32 × (Nat → Int32)}, kS v30_length a31 v32_length v32_parts v32_start v32_behind v32_token v32_number a36 x1 = some R → e_C G b yX6_readSum cX6_readSum 5 (some .boolean) D 0 0 [.ref (b + 32), .int x1] (e_ov (kW81) (wW81 G b v30_length a31 v32_clauses v32_length v32_parts v32_start v32_behind v32_token v32_number v32_good a36) c0) n (pD (some (.int R.1)) (e_ov (kW81) (wW81 G b v30_length a31 v32_clauses R.2.1 R.2.2.1 R.2.2.2.1 R.2.2.2.2.1 R.2.2.2.2.2.1 R.2.2.2.2.2.2.1 v32_good R.2.2.2.2.2.2.2) c0) n)) {Fu : Nat} : ∀ (k : Nat) {v30_length : Int32} {a31 : Nat → Int32} {v32_length : Int32} {v32_parts : Int32} {v32_start : Int32} {v32_behind : Int32} {v32_token : Int32} {v32_number : Int32} {a36 : Nat → Int32} {x1 : Int32} {x2 : Int32} {x3 : Int32} {R : Int32 × Int32 × Int32 × Int32 × Int32 × Int32 × Int32 × (Nat → Int32)}, fX6_readSum_L8 Fu kS k v30_length a31 v32_length v32_parts v32_start v32_behind v32_token v32_number a36 x1 x2 x3 = some R → E G b yX6_readSum cX6_readSum 5 (some .boolean) (e_rm (D + 4) 0 0) e_X0 (e_Z G b (pD (some (.int R.1)) (e_ov (kW81) (wW81 G b v30_length a31 v32_clauses R.2.1 R.2.2.1 R.2.2.2.1 R.2.2.2.2.1 R.2.2.2.2.2.1 R.2.2.2.2.2.2.1 v32_good R.2.2.2.2.2.2.2) c0) n) 0 0) 8 [(0, .ref (b + 32)), (1, .int x1), (2, .int x2), (3, .int x3)] [] (e_ov (kW81) (wW81 G b v30_length a31 v32_clauses v32_length v32_parts v32_start v32_behind v32_token v32_number v32_good a36) c0) n 0 0 := by
  intro k
  induction k with
  | zero =>
    intro _ _ _ _ _ _ _ _ _ _ _ _ _ hf
    have hf : (none : Option (Int32 × Int32 × Int32 × Int32 × Int32 × Int32 × Int32 × (Nat → Int32))) = some _ := hf
    cases hf
  | succ k ih =>
    intro v30_length a31 v32_length v32_parts v32_start v32_behind v32_token v32_number a36 x1 x2 x3 R hf
    rw [fX6_readSum_L8] at hf
    refine E.iload_n 3 dX6_readSum_8 rfl ?_
    refine E.sipush (v := 400) dX6_readSum_9 (by decide) ?_
    refine E.icmp_ge dX6_readSum_12 (fun h => ?_) (fun h => ?_)
    · have hf := e_ift hf h
      refine E.iload_n 2 dX6_readSum_76 rfl ?_
      obtain ⟨g2, hf⟩ := gb_some hf
      cases hf
      exact E.zret dX6_readSum_77 (nb01 g2) (Nat.le_refl _) (Nat.le_refl _) (pD_rf _ _ _)
    · have hf := e_iff hf h
      refine E.iload_n 2 dX6_readSum_15 rfl ?_
      refine E.if_eq dX6_readSum_16 (fun h => ?_) (fun h => ?_)
      · have hf := e_ift hf h
        refine E.iload_n 2 dX6_readSum_76 rfl ?_
        obtain ⟨g3, hf⟩ := gb_some hf
        cases hf
        exact E.zret dX6_readSum_77 (nb01 g3) (Nat.le_refl _) (Nat.le_refl _) (pD_rf _ _ _)
      · have hf := e_iff hf h
        refine E.aload_n 0 dX6_readSum_19 rfl ?_
        refine E.bipush (v := 43) dX6_readSum_20 (by decide) ?_
        obtain ⟨r4, hc4, hf⟩ := e_bind hf
        refine E.callVDs (es' := (wW81 G b v30_length a31 v32_clauses v32_length v32_parts v32_start v32_behind v32_token v32_number v32_good a36)) [] [0, 1, 2] 2 32 dX6_readSum_22 mlX6_54 hw rfl rfl rfl rfl (mX6_isSign (hw.pick2 [0, 1, 2] rfl (by decide)) hc4) rfl rfl rfl rfl ⟨by show _ ≤ D + 4; omega, by show _ ≤ 64 * (D + 4); omega⟩ rfl rfl (Nat.le_of_ble_eq_true rfl) ⟨Nat.le_refl _, Nat.le_refl _⟩ rfl ?_
        refine E.if_ne dX6_readSum_25 (fun h => ?_) (fun h => ?_)
        · have hf := e_iff hf h
          refine E.locals [0, 1, 3] rfl ?_
          exact tX6_readSum_L37 hD hw hS ih hf
        · have hf := e_ift hf h
          refine E.aload_n 0 dX6_readSum_28 rfl ?_
          refine E.bipush (v := 45) dX6_readSum_29 (by decide) ?_
          obtain ⟨r5, hc5, hf⟩ := e_bind hf
          refine E.callVDs (es' := (wW81 G b v30_length a31 v32_clauses v32_length v32_parts v32_start v32_behind v32_token v32_number v32_good a36)) [] [0, 1, 2] 2 32 dX6_readSum_31 mlX6_54 hw rfl rfl rfl rfl (mX6_isSign (hw.pick2 [0, 1, 2] rfl (by decide)) hc5) rfl rfl rfl rfl ⟨by show _ ≤ D + 4; omega, by show _ ≤ 64 * (D + 4); omega⟩ rfl rfl (Nat.le_of_ble_eq_true rfl) ⟨Nat.le_refl _, Nat.le_refl _⟩ rfl ?_
          refine E.if_eq dX6_readSum_34 (fun h => ?_) (fun h => ?_)
          · have hf := e_ift hf h
            refine E.iload_n 2 dX6_readSum_76 rfl ?_
            obtain ⟨g6, hf⟩ := gb_some hf
            cases hf
            exact E.zret dX6_readSum_77 (nb01 g6) (Nat.le_refl _) (Nat.le_refl _) (pD_rf _ _ _)
          · have hf := e_iff hf h
            refine E.locals [0, 1, 3] rfl ?_
            exact tX6_readSum_L37 hD hw hS ih hf
def fX6_readSum (Fu : Nat) (kS : Int32 → (Nat → Int32) → Int32 → Int32 → Int32 → Int32 → Int32 → Int32 → (Nat → Int32) → Int32 → Option (Int32 × Int32 × Int32 × Int32 × Int32 × Int32 × Int32 × (Nat → Int32))) (v30_length : Int32) (a31 : Nat → Int32) (v32_length : Int32) (v32_parts : Int32) (v32_start : Int32) (v32_behind : Int32) (v32_token : Int32) (v32_number : Int32) (a36 : Nat → Int32) (x1 : Int32) : Option (Int32 × Int32 × Int32 × Int32 × Int32 × Int32 × Int32 × (Nat → Int32)) := (fX6_readTerm Fu kS v30_length a31 v32_length v32_parts v32_start v32_behind v32_token v32_number a36 x1).bind fun r1 => (fX6_readSum_L8 Fu kS Fu v30_length a31 r1.2.1 r1.2.2.1 r1.2.2.2.1 r1.2.2.2.2.1 r1.2.2.2.2.2.1 r1.2.2.2.2.2.2.1 r1.2.2.2.2.2.2.2 x1 r1.1 0)
set_option maxHeartbeats 4000000 in
set_option maxRecDepth 100000 in
theorem tX6_readSum {G : GT} {b : Nat} {c0 : Hp} {n : Nat} {D : Nat} (hD : 6 ≤ D) (hw : e_wf (kW81) n) {v32_clauses : Int32} {v32_good : Int32} {kS : Int32 → (Nat → Int32) → Int32 → Int32 → Int32 → Int32 → Int32 → Int32 → (Nat → Int32) → Int32 → Option (Int32 × Int32 × Int32 × Int32 × Int32 × Int32 × Int32 × (Nat → Int32))} (hS : ∀ {v30_length : Int32} {a31 : Nat → Int32} {v32_length : Int32} {v32_parts : Int32} {v32_start : Int32} {v32_behind : Int32} {v32_token : Int32} {v32_number : Int32} {a36 : Nat → Int32} {x1 : Int32} {R : Int32 × Int32 × Int32 × Int32 × Int32 × Int32 × Int32 × (Nat → Int32)}, kS v30_length a31 v32_length v32_parts v32_start v32_behind v32_token v32_number a36 x1 = some R → e_C G b yX6_readSum cX6_readSum 5 (some .boolean) D 0 0 [.ref (b + 32), .int x1] (e_ov (kW81) (wW81 G b v30_length a31 v32_clauses v32_length v32_parts v32_start v32_behind v32_token v32_number v32_good a36) c0) n (pD (some (.int R.1)) (e_ov (kW81) (wW81 G b v30_length a31 v32_clauses R.2.1 R.2.2.1 R.2.2.2.1 R.2.2.2.2.1 R.2.2.2.2.2.1 R.2.2.2.2.2.2.1 v32_good R.2.2.2.2.2.2.2) c0) n)) {Fu : Nat} {v30_length : Int32} {a31 : Nat → Int32} {v32_length : Int32} {v32_parts : Int32} {v32_start : Int32} {v32_behind : Int32} {v32_token : Int32} {v32_number : Int32} {a36 : Nat → Int32} {x1 : Int32} {R : Int32 × Int32 × Int32 × Int32 × Int32 × Int32 × Int32 × (Nat → Int32)} (hf : fX6_readSum Fu kS v30_length a31 v32_length v32_parts v32_start v32_behind v32_token v32_number a36 x1 = some R) : E G b yX6_readSum cX6_readSum 5 (some .boolean) (e_rm (D + 4) 0 0) e_X0 (e_Z G b (pD (some (.int R.1)) (e_ov (kW81) (wW81 G b v30_length a31 v32_clauses R.2.1 R.2.2.1 R.2.2.2.1 R.2.2.2.2.1 R.2.2.2.2.2.1 R.2.2.2.2.2.2.1 v32_good R.2.2.2.2.2.2.2) c0) n) 0 0) 0 [(0, .ref (b + 32)), (1, .int x1)] [] (e_ov (kW81) (wW81 G b v30_length a31 v32_clauses v32_length v32_parts v32_start v32_behind v32_token v32_number v32_good a36) c0) n 0 0 := by
  unfold fX6_readSum at hf
  refine E.aload_n 0 dX6_readSum_0 rfl ?_
  refine E.iload_n 1 dX6_readSum_1 rfl ?_
  obtain ⟨r1, hc1, hf⟩ := e_bind hf
  refine E.callVD [] dX6_readSum_2 mlX6_155 ⟨hw.sub (p := 2) rfl, e_ov_get hw.1 (p := 2) rfl rfl⟩ rfl rfl (mX6_readTerm (by omega) hw hS hc1) ⟨by show _ ≤ D + 4; omega, by show _ ≤ 64 * (D + 4); omega⟩ rfl rfl (Nat.le_of_ble_eq_true rfl) ⟨Nat.le_refl _, Nat.le_refl _⟩ rfl ?_
  refine E.istore_n (lv' := [(2, .int r1.1), (0, .ref (b + 32)), (1, .int x1)]) dX6_readSum_5 (by decide) rfl ?_
  refine E.iconst (v := 0) dX6_readSum_6 (by decide) ?_
  refine E.istore_n (lv' := [(3, .int 0), (2, .int r1.1), (0, .ref (b + 32)), (1, .int x1)]) dX6_readSum_7 (by decide) rfl ?_
  refine E.locals [2, 3, 1, 0] rfl ?_
  exact tX6_readSum_L8 hD hw hS _ hf
set_option maxRecDepth 100000 in
theorem mX6_readSum {G : GT} {b : Nat} {c0 : Hp} {n : Nat} {D : Nat} (hD : 6 ≤ D) (hw : e_wf (kW81) n) {v32_clauses : Int32} {v32_good : Int32} {kS : Int32 → (Nat → Int32) → Int32 → Int32 → Int32 → Int32 → Int32 → Int32 → (Nat → Int32) → Int32 → Option (Int32 × Int32 × Int32 × Int32 × Int32 × Int32 × Int32 × (Nat → Int32))} (hS : ∀ {v30_length : Int32} {a31 : Nat → Int32} {v32_length : Int32} {v32_parts : Int32} {v32_start : Int32} {v32_behind : Int32} {v32_token : Int32} {v32_number : Int32} {a36 : Nat → Int32} {x1 : Int32} {R : Int32 × Int32 × Int32 × Int32 × Int32 × Int32 × Int32 × (Nat → Int32)}, kS v30_length a31 v32_length v32_parts v32_start v32_behind v32_token v32_number a36 x1 = some R → e_C G b yX6_readSum cX6_readSum 5 (some .boolean) D 0 0 [.ref (b + 32), .int x1] (e_ov (kW81) (wW81 G b v30_length a31 v32_clauses v32_length v32_parts v32_start v32_behind v32_token v32_number v32_good a36) c0) n (pD (some (.int R.1)) (e_ov (kW81) (wW81 G b v30_length a31 v32_clauses R.2.1 R.2.2.1 R.2.2.2.1 R.2.2.2.2.1 R.2.2.2.2.2.1 R.2.2.2.2.2.2.1 v32_good R.2.2.2.2.2.2.2) c0) n)) {Fu : Nat} {v30_length : Int32} {a31 : Nat → Int32} {v32_length : Int32} {v32_parts : Int32} {v32_start : Int32} {v32_behind : Int32} {v32_token : Int32} {v32_number : Int32} {a36 : Nat → Int32} {x1 : Int32} {R : Int32 × Int32 × Int32 × Int32 × Int32 × Int32 × Int32 × (Nat → Int32)} (hf : fX6_readSum Fu kS v30_length a31 v32_length v32_parts v32_start v32_behind v32_token v32_number a36 x1 = some R) : e_C G b yX6_readSum cX6_readSum 5 (some .boolean) (D + 4) 0 0 [.ref (b + 32), .int x1] (e_ov (kW81) (wW81 G b v30_length a31 v32_clauses v32_length v32_parts v32_start v32_behind v32_token v32_number v32_good a36) c0) n (pD (some (.int R.1)) (e_ov (kW81) (wW81 G b v30_length a31 v32_clauses R.2.1 R.2.2.1 R.2.2.2.1 R.2.2.2.2.1 R.2.2.2.2.2.1 R.2.2.2.2.2.2.1 v32_good R.2.2.2.2.2.2.2) c0) n) := e_C.of (by decide) (Nat.le_of_ble_eq_true rfl) (tX6_readSum hD hw hS hf)
def fX6_rs (Fu : Nat) : Nat → Int32 → (Nat → Int32) → Int32 → Int32 → Int32 → Int32 → Int32 → Int32 → (Nat → Int32) → Int32 → Option (Int32 × Int32 × Int32 × Int32 × Int32 × Int32 × Int32 × (Nat → Int32))
  | 0, _, _, _, _, _, _, _, _, _, _ => none
  | k + 1, v30_length, a31, v32_length, v32_parts, v32_start, v32_behind, v32_token, v32_number, a36, x1 => fX6_readSum Fu (fX6_rs Fu k) v30_length a31 v32_length v32_parts v32_start v32_behind v32_token v32_number a36 x1
set_option maxRecDepth 100000 in
theorem mX6_rs {G : GT} {b : Nat} {c0 : Hp} {n : Nat} (hw : e_wf (kW81) n) {v32_clauses : Int32} {v32_good : Int32} {Fu : Nat} : ∀ (k : Nat), ∀ {v30_length : Int32} {a31 : Nat → Int32} {v32_length : Int32} {v32_parts : Int32} {v32_start : Int32} {v32_behind : Int32} {v32_token : Int32} {v32_number : Int32} {a36 : Nat → Int32} {x1 : Int32} {R : Int32 × Int32 × Int32 × Int32 × Int32 × Int32 × Int32 × (Nat → Int32)}, fX6_rs Fu k v30_length a31 v32_length v32_parts v32_start v32_behind v32_token v32_number a36 x1 = some R → e_C G b yX6_readSum cX6_readSum 5 (some .boolean) (6 + 4 * k) 0 0 [.ref (b + 32), .int x1] (e_ov (kW81) (wW81 G b v30_length a31 v32_clauses v32_length v32_parts v32_start v32_behind v32_token v32_number v32_good a36) c0) n (pD (some (.int R.1)) (e_ov (kW81) (wW81 G b v30_length a31 v32_clauses R.2.1 R.2.2.1 R.2.2.2.1 R.2.2.2.2.1 R.2.2.2.2.2.1 R.2.2.2.2.2.2.1 v32_good R.2.2.2.2.2.2.2) c0) n) := by
  intro k
  induction k with
  | zero =>
    intro _ _ _ _ _ _ _ _ _ _ _ hf
    have hf : (none : Option (Int32 × Int32 × Int32 × Int32 × Int32 × Int32 × Int32 × (Nat → Int32))) = some _ := hf
    cases hf
  | succ k ih =>
    intro v30_length a31 v32_length v32_parts v32_start v32_behind v32_token v32_number a36 x1 R hf
    rw [fX6_rs] at hf
    rw [show 6 + 4 * (k + 1) = (6 + 4 * k) + 4 by omega]
    exact mX6_readSum (by omega) hw ih hf
def fX6_readSumK (Fu : Nat) (v30_length : Int32) (a31 : Nat → Int32) (v32_length : Int32) (v32_parts : Int32) (v32_start : Int32) (v32_behind : Int32) (v32_token : Int32) (v32_number : Int32) (a36 : Nat → Int32) (x1 : Int32) : Option (Int32 × Int32 × Int32 × Int32 × Int32 × Int32 × Int32 × (Nat → Int32)) := fX6_rs Fu 10 v30_length a31 v32_length v32_parts v32_start v32_behind v32_token v32_number a36 x1
theorem mX6_readSumK {G : GT} {b : Nat} {c0 : Hp} {n : Nat} (hw : e_wf (kW81) n) {v32_clauses : Int32} {v32_good : Int32} {Fu : Nat} : ∀ {v30_length : Int32} {a31 : Nat → Int32} {v32_length : Int32} {v32_parts : Int32} {v32_start : Int32} {v32_behind : Int32} {v32_token : Int32} {v32_number : Int32} {a36 : Nat → Int32} {x1 : Int32} {R : Int32 × Int32 × Int32 × Int32 × Int32 × Int32 × Int32 × (Nat → Int32)}, fX6_readSumK Fu v30_length a31 v32_length v32_parts v32_start v32_behind v32_token v32_number a36 x1 = some R → e_C G b yX6_readSum cX6_readSum 5 (some .boolean) 46 0 0 [.ref (b + 32), .int x1] (e_ov (kW81) (wW81 G b v30_length a31 v32_clauses v32_length v32_parts v32_start v32_behind v32_token v32_number v32_good a36) c0) n (pD (some (.int R.1)) (e_ov (kW81) (wW81 G b v30_length a31 v32_clauses R.2.1 R.2.2.1 R.2.2.2.1 R.2.2.2.2.1 R.2.2.2.2.2.1 R.2.2.2.2.2.2.1 v32_good R.2.2.2.2.2.2.2) c0) n) := fun hf => mX6_rs hw 10 hf
def fX6_readComparison_L53 (Fu : Nat) (v30_length : Int32) (a31 : Nat → Int32) (v32_length : Int32) (v32_parts : Int32) (v32_start : Int32) (v32_behind : Int32) (v32_token : Int32) (v32_number : Int32) (a36 : Nat → Int32) (x1 : Int32) (s0 : Int32) : Option (Int32 × Int32 × Int32 × Int32 × Int32 × Int32 × Int32 × (Nat → Int32)) := if (s0 : Int32) = ((-1 : Int32) : Int32) then (some (0, v32_length, v32_parts, v32_start, v32_behind, v32_token, v32_number, a36)) else ((fX6_advance Fu v30_length a31 v32_start v32_behind v32_token v32_number).bind fun r5 => ((fX6_readSumK Fu v30_length a31 v32_length v32_parts r5.1 r5.2.1 r5.2.2.1 r5.2.2.2 a36 x1).bind fun r6 => (if (r6.1 : Int32) = (0 : Int32) then (some (0, r6.2.1, r6.2.2.1, r6.2.2.2.1, r6.2.2.2.2.1, r6.2.2.2.2.2.1, r6.2.2.2.2.2.2.1, r6.2.2.2.2.2.2.2)) else ((fX6_emit r6.2.1 r6.2.2.2.2.2.2.2 s0 0).bind fun r7 => (some (1, r7.1, r6.2.2.1, r6.2.2.2.1, r6.2.2.2.2.1, r6.2.2.2.2.2.1, r6.2.2.2.2.2.2.1, r7.2))))))
set_option maxHeartbeats 4000000 in
set_option maxRecDepth 100000 in
theorem tX6_readComparison_L53 {G : GT} {b : Nat} {c0 : Hp} {n : Nat} (hw : e_wf (kW81) n) {v32_clauses : Int32} {v32_good : Int32} {Fu : Nat} {v30_length : Int32} {a31 : Nat → Int32} {v32_length : Int32} {v32_parts : Int32} {v32_start : Int32} {v32_behind : Int32} {v32_token : Int32} {v32_number : Int32} {a36 : Nat → Int32} {x1 : Int32} {s0 : Int32} {R : Int32 × Int32 × Int32 × Int32 × Int32 × Int32 × Int32 × (Nat → Int32)} (hf : fX6_readComparison_L53 Fu v30_length a31 v32_length v32_parts v32_start v32_behind v32_token v32_number a36 x1 s0 = some R) : E G b yX6_readComparison cX6_readComparison 3 (some .boolean) (e_rm 47 0 0) e_X0 (e_Z G b (pD (some (.int R.1)) (e_ov (kW81) (wW81 G b v30_length a31 v32_clauses R.2.1 R.2.2.1 R.2.2.2.1 R.2.2.2.2.1 R.2.2.2.2.2.1 R.2.2.2.2.2.2.1 v32_good R.2.2.2.2.2.2.2) c0) n) 0 0) 53 [(0, .ref (b + 32)), (1, .int x1)] [.int s0] (e_ov (kW81) (wW81 G b v30_length a31 v32_clauses v32_length v32_parts v32_start v32_behind v32_token v32_number v32_good a36) c0) n 0 0 := by
  unfold fX6_readComparison_L53 at hf
  refine E.istore_n (lv' := [(2, .int s0), (0, .ref (b + 32)), (1, .int x1)]) dX6_readComparison_53 (by decide) rfl ?_
  refine E.iload_n 0 dX6_readComparison_54 rfl ?_
  refine E.iconst (v := -1) dX6_readComparison_55 (by decide) ?_
  refine E.icmp_ne dX6_readComparison_56 (fun h => ?_) (fun h => ?_)
  · have hf := e_iff hf h
    refine E.aload_n 1 dX6_readComparison_61 rfl ?_
    obtain ⟨r5, hc5, hf⟩ := e_bind hf
    refine E.callVDs (es' := (wW81 G b v30_length a31 v32_clauses v32_length v32_parts r5.1 r5.2.1 r5.2.2.1 r5.2.2.2 v32_good a36)) [] [0, 1, 2] 2 32 dX6_readComparison_62 mlX6_47 hw rfl rfl rfl rfl (mX6_advance (hw.pick2 [0, 1, 2] rfl (by decide)) hc5) rfl rfl rfl rfl ⟨Nat.le_of_ble_eq_true rfl, Nat.le_of_ble_eq_true rfl⟩ rfl rfl (Nat.le_of_ble_eq_true rfl) ⟨Nat.le_refl _, Nat.le_refl _⟩ rfl ?_
    refine E.aload_n 1 dX6_readComparison_65 rfl ?_
    refine E.iload_n 2 dX6_readComparison_66 rfl ?_
    obtain ⟨r6, hc6, hf⟩ := e_bind hf
    refine E.callVD [] dX6_readComparison_67 mlX6_111 ⟨hw.sub (p := 2) rfl, e_ov_get hw.1 (p := 2) rfl rfl⟩ rfl rfl (mX6_readSumK hw hc6) ⟨Nat.le_of_ble_eq_true rfl, Nat.le_of_ble_eq_true rfl⟩ rfl rfl (Nat.le_of_ble_eq_true rfl) ⟨Nat.le_refl _, Nat.le_refl _⟩ rfl ?_
    refine E.if_ne dX6_readComparison_70 (fun h => ?_) (fun h => ?_)
    · have hf := e_iff hf h
      refine E.aload_n 1 dX6_readComparison_75 rfl ?_
      refine E.iload_n 0 dX6_readComparison_76 rfl ?_
      refine E.iconst (v := 0) dX6_readComparison_77 (by decide) ?_
      obtain ⟨r7, hc7, hf⟩ := e_bind hf
      refine E.callVDs (es' := (wW81 G b v30_length a31 v32_clauses r7.1 r6.2.2.1 r6.2.2.2.1 r6.2.2.2.2.1 r6.2.2.2.2.2.1 r6.2.2.2.2.2.2.1 v32_good r7.2)) [] [2, 3] 2 32 dX6_readComparison_78 mlX6_134 hw rfl rfl rfl rfl (mX6_emit (hw.pick2 [2, 3] rfl (by decide)) hc7) rfl rfl rfl rfl ⟨Nat.le_of_ble_eq_true rfl, Nat.le_of_ble_eq_true rfl⟩ rfl rfl (Nat.le_of_ble_eq_true rfl) ⟨Nat.le_refl _, Nat.le_refl _⟩ rfl ?_
      refine E.iconst (v := 1) dX6_readComparison_81 (by decide) ?_
      cases hf
      exact E.zret dX6_readComparison_82 rfl (Nat.le_refl _) (Nat.le_refl _) (pD_rf _ _ _)
    · have hf := e_ift hf h
      refine E.iconst (v := 0) dX6_readComparison_73 (by decide) ?_
      cases hf
      exact E.zret dX6_readComparison_74 rfl (Nat.le_refl _) (Nat.le_refl _) (pD_rf _ _ _)
  · have hf := e_ift hf h
    refine E.iconst (v := 0) dX6_readComparison_59 (by decide) ?_
    cases hf
    exact E.zret dX6_readComparison_60 rfl (Nat.le_refl _) (Nat.le_refl _) (pD_rf _ _ _)
def fX6_readComparison (Fu : Nat) (v30_length : Int32) (a31 : Nat → Int32) (v32_length : Int32) (v32_parts : Int32) (v32_start : Int32) (v32_behind : Int32) (v32_token : Int32) (v32_number : Int32) (a36 : Nat → Int32) (x1 : Int32) : Option (Int32 × Int32 × Int32 × Int32 × Int32 × Int32 × Int32 × (Nat → Int32)) := (fX6_readSumK Fu v30_length a31 v32_length v32_parts v32_start v32_behind v32_token v32_number a36 x1).bind fun r1 => (if (r1.1 : Int32) = (0 : Int32) then (some (0, r1.2.1, r1.2.2.1, r1.2.2.2.1, r1.2.2.2.2.1, r1.2.2.2.2.2.1, r1.2.2.2.2.2.2.1, r1.2.2.2.2.2.2.2)) else ((fX6_isSign v30_length a31 r1.2.2.2.1 r1.2.2.2.2.2.1 60).bind fun r2 => (if (r2 : Int32) = (0 : Int32) then ((fX6_isSign v30_length a31 r1.2.2.2.1 r1.2.2.2.2.2.1 62).bind fun r3 => (if (r3 : Int32) = (0 : Int32) then ((fX6_isSign v30_length a31 r1.2.2.2.1 r1.2.2.2.2.2.1 61).bind fun r4 => (if (r4 : Int32) = (0 : Int32) then (fX6_readComparison_L53 Fu v30_length a31 r1.2.1 r1.2.2.1 r1.2.2.2.1 r1.2.2.2.2.1 r1.2.2.2.2.2.1 r1.2.2.2.2.2.2.1 r1.2.2.2.2.2.2.2 x1 (-1 : Int32)) else (fX6_readComparison_L53 Fu v30_length a31 r1.2.1 r1.2.2.1 r1.2.2.2.1 r1.2.2.2.2.1 r1.2.2.2.2.2.1 r1.2.2.2.2.2.2.1 r1.2.2.2.2.2.2.2 x1 8))) else (fX6_readComparison_L53 Fu v30_length a31 r1.2.1 r1.2.2.1 r1.2.2.2.1 r1.2.2.2.2.1 r1.2.2.2.2.2.1 r1.2.2.2.2.2.2.1 r1.2.2.2.2.2.2.2 x1 7))) else (fX6_readComparison_L53 Fu v30_length a31 r1.2.1 r1.2.2.1 r1.2.2.2.1 r1.2.2.2.2.1 r1.2.2.2.2.2.1 r1.2.2.2.2.2.2.1 r1.2.2.2.2.2.2.2 x1 6))))
set_option maxHeartbeats 4000000 in
set_option maxRecDepth 100000 in
theorem tX6_readComparison {G : GT} {b : Nat} {c0 : Hp} {n : Nat} (hw : e_wf (kW81) n) {v32_clauses : Int32} {v32_good : Int32} {Fu : Nat} {v30_length : Int32} {a31 : Nat → Int32} {v32_length : Int32} {v32_parts : Int32} {v32_start : Int32} {v32_behind : Int32} {v32_token : Int32} {v32_number : Int32} {a36 : Nat → Int32} {x1 : Int32} {R : Int32 × Int32 × Int32 × Int32 × Int32 × Int32 × Int32 × (Nat → Int32)} (hf : fX6_readComparison Fu v30_length a31 v32_length v32_parts v32_start v32_behind v32_token v32_number a36 x1 = some R) : E G b yX6_readComparison cX6_readComparison 3 (some .boolean) (e_rm 47 0 0) e_X0 (e_Z G b (pD (some (.int R.1)) (e_ov (kW81) (wW81 G b v30_length a31 v32_clauses R.2.1 R.2.2.1 R.2.2.2.1 R.2.2.2.2.1 R.2.2.2.2.2.1 R.2.2.2.2.2.2.1 v32_good R.2.2.2.2.2.2.2) c0) n) 0 0) 0 [(0, .ref (b + 32)), (1, .int x1)] [] (e_ov (kW81) (wW81 G b v30_length a31 v32_clauses v32_length v32_parts v32_start v32_behind v32_token v32_number v32_good a36) c0) n 0 0 := by
  unfold fX6_readComparison at hf
  refine E.aload_n 0 dX6_readComparison_0 rfl ?_
  refine E.iload_n 1 dX6_readComparison_1 rfl ?_
  obtain ⟨r1, hc1, hf⟩ := e_bind hf
  refine E.callVD [] dX6_readComparison_2 mlX6_111 ⟨hw.sub (p := 2) rfl, e_ov_get hw.1 (p := 2) rfl rfl⟩ rfl rfl (mX6_readSumK hw hc1) ⟨Nat.le_of_ble_eq_true rfl, Nat.le_of_ble_eq_true rfl⟩ rfl rfl (Nat.le_of_ble_eq_true rfl) ⟨Nat.le_refl _, Nat.le_refl _⟩ rfl ?_
  refine E.if_ne dX6_readComparison_5 (fun h => ?_) (fun h => ?_)
  · have hf := e_iff hf h
    refine E.aload_n 0 dX6_readComparison_10 rfl ?_
    refine E.bipush (v := 60) dX6_readComparison_11 (by decide) ?_
    obtain ⟨r2, hc2, hf⟩ := e_bind hf
    refine E.callVDs (es' := (wW81 G b v30_length a31 v32_clauses r1.2.1 r1.2.2.1 r1.2.2.2.1 r1.2.2.2.2.1 r1.2.2.2.2.2.1 r1.2.2.2.2.2.2.1 v32_good r1.2.2.2.2.2.2.2)) [] [0, 1, 2] 2 32 dX6_readComparison_13 mlX6_54 hw rfl rfl rfl rfl (mX6_isSign (hw.pick2 [0, 1, 2] rfl (by decide)) hc2) rfl rfl rfl rfl ⟨Nat.le_of_ble_eq_true rfl, Nat.le_of_ble_eq_true rfl⟩ rfl rfl (Nat.le_of_ble_eq_true rfl) ⟨Nat.le_refl _, Nat.le_refl _⟩ rfl ?_
    refine E.if_eq dX6_readComparison_16 (fun h => ?_) (fun h => ?_)
    · have hf := e_ift hf h
      refine E.aload_n 0 dX6_readComparison_24 rfl ?_
      refine E.bipush (v := 62) dX6_readComparison_25 (by decide) ?_
      obtain ⟨r3, hc3, hf⟩ := e_bind hf
      refine E.callVDs (es' := (wW81 G b v30_length a31 v32_clauses r1.2.1 r1.2.2.1 r1.2.2.2.1 r1.2.2.2.2.1 r1.2.2.2.2.2.1 r1.2.2.2.2.2.2.1 v32_good r1.2.2.2.2.2.2.2)) [] [0, 1, 2] 2 32 dX6_readComparison_27 mlX6_54 hw rfl rfl rfl rfl (mX6_isSign (hw.pick2 [0, 1, 2] rfl (by decide)) hc3) rfl rfl rfl rfl ⟨Nat.le_of_ble_eq_true rfl, Nat.le_of_ble_eq_true rfl⟩ rfl rfl (Nat.le_of_ble_eq_true rfl) ⟨Nat.le_refl _, Nat.le_refl _⟩ rfl ?_
      refine E.if_eq dX6_readComparison_30 (fun h => ?_) (fun h => ?_)
      · have hf := e_ift hf h
        refine E.aload_n 0 dX6_readComparison_38 rfl ?_
        refine E.bipush (v := 61) dX6_readComparison_39 (by decide) ?_
        obtain ⟨r4, hc4, hf⟩ := e_bind hf
        refine E.callVDs (es' := (wW81 G b v30_length a31 v32_clauses r1.2.1 r1.2.2.1 r1.2.2.2.1 r1.2.2.2.2.1 r1.2.2.2.2.2.1 r1.2.2.2.2.2.2.1 v32_good r1.2.2.2.2.2.2.2)) [] [0, 1, 2] 2 32 dX6_readComparison_41 mlX6_54 hw rfl rfl rfl rfl (mX6_isSign (hw.pick2 [0, 1, 2] rfl (by decide)) hc4) rfl rfl rfl rfl ⟨Nat.le_of_ble_eq_true rfl, Nat.le_of_ble_eq_true rfl⟩ rfl rfl (Nat.le_of_ble_eq_true rfl) ⟨Nat.le_refl _, Nat.le_refl _⟩ rfl ?_
        refine E.if_eq dX6_readComparison_44 (fun h => ?_) (fun h => ?_)
        · have hf := e_ift hf h
          refine E.iconst (v := -1) dX6_readComparison_52 (by decide) ?_
          exact tX6_readComparison_L53 hw hf
        · have hf := e_iff hf h
          refine E.bipush (v := 8) dX6_readComparison_47 (by decide) ?_
          refine E.goto dX6_readComparison_49 ?_
          exact tX6_readComparison_L53 hw hf
      · have hf := e_iff hf h
        refine E.bipush (v := 7) dX6_readComparison_33 (by decide) ?_
        refine E.goto dX6_readComparison_35 ?_
        exact tX6_readComparison_L53 hw hf
    · have hf := e_iff hf h
      refine E.bipush (v := 6) dX6_readComparison_19 (by decide) ?_
      refine E.goto dX6_readComparison_21 ?_
      exact tX6_readComparison_L53 hw hf
  · have hf := e_ift hf h
    refine E.iconst (v := 0) dX6_readComparison_8 (by decide) ?_
    cases hf
    exact E.zret dX6_readComparison_9 rfl (Nat.le_refl _) (Nat.le_refl _) (pD_rf _ _ _)
set_option maxRecDepth 100000 in
theorem mX6_readComparison {G : GT} {b : Nat} {c0 : Hp} {n : Nat} (hw : e_wf (kW81) n) {v32_clauses : Int32} {v32_good : Int32} {Fu : Nat} {v30_length : Int32} {a31 : Nat → Int32} {v32_length : Int32} {v32_parts : Int32} {v32_start : Int32} {v32_behind : Int32} {v32_token : Int32} {v32_number : Int32} {a36 : Nat → Int32} {x1 : Int32} {R : Int32 × Int32 × Int32 × Int32 × Int32 × Int32 × Int32 × (Nat → Int32)} (hf : fX6_readComparison Fu v30_length a31 v32_length v32_parts v32_start v32_behind v32_token v32_number a36 x1 = some R) : e_C G b yX6_readComparison cX6_readComparison 3 (some .boolean) 47 0 0 [.ref (b + 32), .int x1] (e_ov (kW81) (wW81 G b v30_length a31 v32_clauses v32_length v32_parts v32_start v32_behind v32_token v32_number v32_good a36) c0) n (pD (some (.int R.1)) (e_ov (kW81) (wW81 G b v30_length a31 v32_clauses R.2.1 R.2.2.1 R.2.2.2.1 R.2.2.2.2.1 R.2.2.2.2.2.1 R.2.2.2.2.2.2.1 v32_good R.2.2.2.2.2.2.2) c0) n) := e_C.of (by decide) (Nat.le_of_ble_eq_true rfl) (tX6_readComparison hw hf)
def fX6_readBracketedTest (Fu : Nat) (kT : Int32 → (Nat → Int32) → Int32 → Int32 → Int32 → Int32 → Int32 → Int32 → (Nat → Int32) → Int32 → Option (Int32 × Int32 × Int32 × Int32 × Int32 × Int32 × Int32 × (Nat → Int32))) (v30_length : Int32) (a31 : Nat → Int32) (v32_length : Int32) (v32_parts : Int32) (v32_start : Int32) (v32_behind : Int32) (v32_token : Int32) (v32_number : Int32) (a36 : Nat → Int32) (x1 : Int32) : Option (Int32 × Int32 × Int32 × Int32 × Int32 × Int32 × Int32 × (Nat → Int32)) := if (x1 : Int32) < (8 : Int32) then ((fX6_advance Fu v30_length a31 v32_start v32_behind v32_token v32_number).bind fun r1 => ((kT v30_length a31 v32_length v32_parts r1.1 r1.2.1 r1.2.2.1 r1.2.2.2 a36 (x1 + 1)).bind fun r2 => (if (r2.1 : Int32) = (0 : Int32) then (some (0, r2.2.1, r2.2.2.1, r2.2.2.2.1, r2.2.2.2.2.1, r2.2.2.2.2.2.1, r2.2.2.2.2.2.2.1, r2.2.2.2.2.2.2.2)) else ((fX6_isSign v30_length a31 r2.2.2.2.1 r2.2.2.2.2.2.1 41).bind fun r3 => (if (r3 : Int32) = (0 : Int32) then (some (0, r2.2.1, r2.2.2.1, r2.2.2.2.1, r2.2.2.2.2.1, r2.2.2.2.2.2.1, r2.2.2.2.2.2.2.1, r2.2.2.2.2.2.2.2)) else ((fX6_advance Fu v30_length a31 r2.2.2.2.1 r2.2.2.2.2.1 r2.2.2.2.2.2.1 r2.2.2.2.2.2.2.1).bind fun r4 => (some (1, r2.2.1, r2.2.2.1, r4.1, r4.2.1, r4.2.2.1, r4.2.2.2, r2.2.2.2.2.2.2.2)))))))) else (some (0, v32_length, v32_parts, v32_start, v32_behind, v32_token, v32_number, a36))
set_option maxHeartbeats 4000000 in
set_option maxRecDepth 100000 in
theorem tX6_readBracketedTest {G : GT} {b : Nat} {c0 : Hp} {n : Nat} {D : Nat} (hD : 50 ≤ D) (hw : e_wf (kW81) n) {v32_clauses : Int32} {v32_good : Int32} {kT : Int32 → (Nat → Int32) → Int32 → Int32 → Int32 → Int32 → Int32 → Int32 → (Nat → Int32) → Int32 → Option (Int32 × Int32 × Int32 × Int32 × Int32 × Int32 × Int32 × (Nat → Int32))} (hT : ∀ {v30_length : Int32} {a31 : Nat → Int32} {v32_length : Int32} {v32_parts : Int32} {v32_start : Int32} {v32_behind : Int32} {v32_token : Int32} {v32_number : Int32} {a36 : Nat → Int32} {x1 : Int32} {R : Int32 × Int32 × Int32 × Int32 × Int32 × Int32 × Int32 × (Nat → Int32)}, kT v30_length a31 v32_length v32_parts v32_start v32_behind v32_token v32_number a36 x1 = some R → e_C G b yX6_readTest cX6_readTest 5 (some .boolean) D 0 0 [.ref (b + 32), .int x1] (e_ov (kW81) (wW81 G b v30_length a31 v32_clauses v32_length v32_parts v32_start v32_behind v32_token v32_number v32_good a36) c0) n (pD (some (.int R.1)) (e_ov (kW81) (wW81 G b v30_length a31 v32_clauses R.2.1 R.2.2.1 R.2.2.2.1 R.2.2.2.2.1 R.2.2.2.2.2.1 R.2.2.2.2.2.2.1 v32_good R.2.2.2.2.2.2.2) c0) n)) {Fu : Nat} {v30_length : Int32} {a31 : Nat → Int32} {v32_length : Int32} {v32_parts : Int32} {v32_start : Int32} {v32_behind : Int32} {v32_token : Int32} {v32_number : Int32} {a36 : Nat → Int32} {x1 : Int32} {R : Int32 × Int32 × Int32 × Int32 × Int32 × Int32 × Int32 × (Nat → Int32)} (hf : fX6_readBracketedTest Fu kT v30_length a31 v32_length v32_parts v32_start v32_behind v32_token v32_number a36 x1 = some R) : E G b yX6_readBracketedTest cX6_readBracketedTest 2 (some .boolean) (e_rm (D + 1) 0 0) e_X0 (e_Z G b (pD (some (.int R.1)) (e_ov (kW81) (wW81 G b v30_length a31 v32_clauses R.2.1 R.2.2.1 R.2.2.2.1 R.2.2.2.2.1 R.2.2.2.2.2.1 R.2.2.2.2.2.2.1 v32_good R.2.2.2.2.2.2.2) c0) n) 0 0) 0 [(0, .ref (b + 32)), (1, .int x1)] [] (e_ov (kW81) (wW81 G b v30_length a31 v32_clauses v32_length v32_parts v32_start v32_behind v32_token v32_number v32_good a36) c0) n 0 0 := by
  unfold fX6_readBracketedTest at hf
  refine E.iload_n 1 dX6_readBracketedTest_0 rfl ?_
  refine E.bipush (v := 8) dX6_readBracketedTest_1 (by decide) ?_
  refine E.icmp_lt dX6_readBracketedTest_3 (fun h => ?_) (fun h => ?_)
  · have hf := e_ift hf h
    refine E.aload_n 0 dX6_readBracketedTest_8 rfl ?_
    obtain ⟨r1, hc1, hf⟩ := e_bind hf
    refine E.callVDs (es' := (wW81 G b v30_length a31 v32_clauses v32_length v32_parts r1.1 r1.2.1 r1.2.2.1 r1.2.2.2 v32_good a36)) [] [0, 1, 2] 2 32 dX6_readBracketedTest_9 mlX6_47 hw rfl rfl rfl rfl (mX6_advance (hw.pick2 [0, 1, 2] rfl (by decide)) hc1) rfl rfl rfl rfl ⟨by show _ ≤ D + 1; omega, by show _ ≤ 64 * (D + 1); omega⟩ rfl rfl (Nat.le_of_ble_eq_true rfl) ⟨Nat.le_refl _, Nat.le_refl _⟩ rfl ?_
    refine E.aload_n 0 dX6_readBracketedTest_12 rfl ?_
    refine E.iload_n 1 dX6_readBracketedTest_13 rfl ?_
    refine E.iconst (v := 1) dX6_readBracketedTest_14 (by decide) ?_
    refine E.iadd dX6_readBracketedTest_15 ?_
    obtain ⟨r2, hc2, hf⟩ := e_bind hf
    refine E.callVD [] dX6_readBracketedTest_16 mlX6_120 ⟨hw.sub (p := 2) rfl, e_ov_get hw.1 (p := 2) rfl rfl⟩ rfl rfl (hT hc2) ⟨by show _ ≤ D + 1; omega, by show _ ≤ 64 * (D + 1); omega⟩ rfl rfl (Nat.le_of_ble_eq_true rfl) ⟨Nat.le_refl _, Nat.le_refl _⟩ rfl ?_
    refine E.if_eq dX6_readBracketedTest_19 (fun h => ?_) (fun h => ?_)
    · have hf := e_ift hf h
      refine E.iconst (v := 0) dX6_readBracketedTest_31 (by decide) ?_
      cases hf
      exact E.zret dX6_readBracketedTest_32 rfl (Nat.le_refl _) (Nat.le_refl _) (pD_rf _ _ _)
    · have hf := e_iff hf h
      refine E.aload_n 0 dX6_readBracketedTest_22 rfl ?_
      refine E.bipush (v := 41) dX6_readBracketedTest_23 (by decide) ?_
      obtain ⟨r3, hc3, hf⟩ := e_bind hf
      refine E.callVDs (es' := (wW81 G b v30_length a31 v32_clauses r2.2.1 r2.2.2.1 r2.2.2.2.1 r2.2.2.2.2.1 r2.2.2.2.2.2.1 r2.2.2.2.2.2.2.1 v32_good r2.2.2.2.2.2.2.2)) [] [0, 1, 2] 2 32 dX6_readBracketedTest_25 mlX6_54 hw rfl rfl rfl rfl (mX6_isSign (hw.pick2 [0, 1, 2] rfl (by decide)) hc3) rfl rfl rfl rfl ⟨by show _ ≤ D + 1; omega, by show _ ≤ 64 * (D + 1); omega⟩ rfl rfl (Nat.le_of_ble_eq_true rfl) ⟨Nat.le_refl _, Nat.le_refl _⟩ rfl ?_
      refine E.if_ne dX6_readBracketedTest_28 (fun h => ?_) (fun h => ?_)
      · have hf := e_iff hf h
        refine E.aload_n 0 dX6_readBracketedTest_33 rfl ?_
        obtain ⟨r4, hc4, hf⟩ := e_bind hf
        refine E.callVDs (es' := (wW81 G b v30_length a31 v32_clauses r2.2.1 r2.2.2.1 r4.1 r4.2.1 r4.2.2.1 r4.2.2.2 v32_good r2.2.2.2.2.2.2.2)) [] [0, 1, 2] 2 32 dX6_readBracketedTest_34 mlX6_47 hw rfl rfl rfl rfl (mX6_advance (hw.pick2 [0, 1, 2] rfl (by decide)) hc4) rfl rfl rfl rfl ⟨by show _ ≤ D + 1; omega, by show _ ≤ 64 * (D + 1); omega⟩ rfl rfl (Nat.le_of_ble_eq_true rfl) ⟨Nat.le_refl _, Nat.le_refl _⟩ rfl ?_
        refine E.iconst (v := 1) dX6_readBracketedTest_37 (by decide) ?_
        cases hf
        exact E.zret dX6_readBracketedTest_38 rfl (Nat.le_refl _) (Nat.le_refl _) (pD_rf _ _ _)
      · have hf := e_ift hf h
        refine E.iconst (v := 0) dX6_readBracketedTest_31 (by decide) ?_
        cases hf
        exact E.zret dX6_readBracketedTest_32 rfl (Nat.le_refl _) (Nat.le_refl _) (pD_rf _ _ _)
  · have hf := e_iff hf h
    refine E.iconst (v := 0) dX6_readBracketedTest_6 (by decide) ?_
    cases hf
    exact E.zret dX6_readBracketedTest_7 rfl (Nat.le_refl _) (Nat.le_refl _) (pD_rf _ _ _)
set_option maxRecDepth 100000 in
theorem mX6_readBracketedTest {G : GT} {b : Nat} {c0 : Hp} {n : Nat} {D : Nat} (hD : 50 ≤ D) (hw : e_wf (kW81) n) {v32_clauses : Int32} {v32_good : Int32} {kT : Int32 → (Nat → Int32) → Int32 → Int32 → Int32 → Int32 → Int32 → Int32 → (Nat → Int32) → Int32 → Option (Int32 × Int32 × Int32 × Int32 × Int32 × Int32 × Int32 × (Nat → Int32))} (hT : ∀ {v30_length : Int32} {a31 : Nat → Int32} {v32_length : Int32} {v32_parts : Int32} {v32_start : Int32} {v32_behind : Int32} {v32_token : Int32} {v32_number : Int32} {a36 : Nat → Int32} {x1 : Int32} {R : Int32 × Int32 × Int32 × Int32 × Int32 × Int32 × Int32 × (Nat → Int32)}, kT v30_length a31 v32_length v32_parts v32_start v32_behind v32_token v32_number a36 x1 = some R → e_C G b yX6_readTest cX6_readTest 5 (some .boolean) D 0 0 [.ref (b + 32), .int x1] (e_ov (kW81) (wW81 G b v30_length a31 v32_clauses v32_length v32_parts v32_start v32_behind v32_token v32_number v32_good a36) c0) n (pD (some (.int R.1)) (e_ov (kW81) (wW81 G b v30_length a31 v32_clauses R.2.1 R.2.2.1 R.2.2.2.1 R.2.2.2.2.1 R.2.2.2.2.2.1 R.2.2.2.2.2.2.1 v32_good R.2.2.2.2.2.2.2) c0) n)) {Fu : Nat} {v30_length : Int32} {a31 : Nat → Int32} {v32_length : Int32} {v32_parts : Int32} {v32_start : Int32} {v32_behind : Int32} {v32_token : Int32} {v32_number : Int32} {a36 : Nat → Int32} {x1 : Int32} {R : Int32 × Int32 × Int32 × Int32 × Int32 × Int32 × Int32 × (Nat → Int32)} (hf : fX6_readBracketedTest Fu kT v30_length a31 v32_length v32_parts v32_start v32_behind v32_token v32_number a36 x1 = some R) : e_C G b yX6_readBracketedTest cX6_readBracketedTest 2 (some .boolean) (D + 1) 0 0 [.ref (b + 32), .int x1] (e_ov (kW81) (wW81 G b v30_length a31 v32_clauses v32_length v32_parts v32_start v32_behind v32_token v32_number v32_good a36) c0) n (pD (some (.int R.1)) (e_ov (kW81) (wW81 G b v30_length a31 v32_clauses R.2.1 R.2.2.1 R.2.2.2.1 R.2.2.2.2.1 R.2.2.2.2.2.1 R.2.2.2.2.2.2.1 v32_good R.2.2.2.2.2.2.2) c0) n) := e_C.of (by decide) (Nat.le_of_ble_eq_true rfl) (tX6_readBracketedTest hD hw hT hf)
def fX6_readPlain_L62 (Fu : Nat) (kT : Int32 → (Nat → Int32) → Int32 → Int32 → Int32 → Int32 → Int32 → Int32 → (Nat → Int32) → Int32 → Option (Int32 × Int32 × Int32 × Int32 × Int32 × Int32 × Int32 × (Nat → Int32))) (v30_length : Int32) (a31 : Nat → Int32) (v32_length : Int32) (v32_parts : Int32) (v32_start : Int32) (v32_behind : Int32) (v32_token : Int32) (v32_number : Int32) (a36 : Nat → Int32) (x2 : Int32) (s0 : Int32) : Option (Int32 × Int32 × Int32 × Int32 × Int32 × Int32 × Int32 × (Nat → Int32)) := if (s0 : Int32) = (0 : Int32) then (gb s0 (some (s0, v32_length, v32_parts, v32_start, v32_behind, v32_token, v32_number, a36))) else (if (x2 : Int32) = (0 : Int32) then (gb s0 (some (s0, v32_length, v32_parts, v32_start, v32_behind, v32_token, v32_number, a36))) else ((fX6_emit v32_length a36 9 0).bind fun r7 => (gb s0 (some (s0, r7.1, v32_parts, v32_start, v32_behind, v32_token, v32_number, r7.2)))))
set_option maxHeartbeats 4000000 in
set_option maxRecDepth 100000 in
theorem tX6_readPlain_L62 {G : GT} {b : Nat} {c0 : Hp} {n : Nat} {D : Nat} (hD : 50 ≤ D) (hw : e_wf (kW81) n) {v32_clauses : Int32} {v32_good : Int32} {kT : Int32 → (Nat → Int32) → Int32 → Int32 → Int32 → Int32 → Int32 → Int32 → (Nat → Int32) → Int32 → Option (Int32 × Int32 × Int32 × Int32 × Int32 × Int32 × Int32 × (Nat → Int32))} (hT : ∀ {v30_length : Int32} {a31 : Nat → Int32} {v32_length : Int32} {v32_parts : Int32} {v32_start : Int32} {v32_behind : Int32} {v32_token : Int32} {v32_number : Int32} {a36 : Nat → Int32} {x1 : Int32} {R : Int32 × Int32 × Int32 × Int32 × Int32 × Int32 × Int32 × (Nat → Int32)}, kT v30_length a31 v32_length v32_parts v32_start v32_behind v32_token v32_number a36 x1 = some R → e_C G b yX6_readTest cX6_readTest 5 (some .boolean) D 0 0 [.ref (b + 32), .int x1] (e_ov (kW81) (wW81 G b v30_length a31 v32_clauses v32_length v32_parts v32_start v32_behind v32_token v32_number v32_good a36) c0) n (pD (some (.int R.1)) (e_ov (kW81) (wW81 G b v30_length a31 v32_clauses R.2.1 R.2.2.1 R.2.2.2.1 R.2.2.2.2.1 R.2.2.2.2.2.1 R.2.2.2.2.2.2.1 v32_good R.2.2.2.2.2.2.2) c0) n)) {Fu : Nat} {v30_length : Int32} {a31 : Nat → Int32} {v32_length : Int32} {v32_parts : Int32} {v32_start : Int32} {v32_behind : Int32} {v32_token : Int32} {v32_number : Int32} {a36 : Nat → Int32} {x2 : Int32} {s0 : Int32} {R : Int32 × Int32 × Int32 × Int32 × Int32 × Int32 × Int32 × (Nat → Int32)} (hf : fX6_readPlain_L62 Fu kT v30_length a31 v32_length v32_parts v32_start v32_behind v32_token v32_number a36 x2 s0 = some R) : E G b yX6_readPlain cX6_readPlain 4 (some .boolean) (e_rm (D + 2) 0 0) e_X0 (e_Z G b (pD (some (.int R.1)) (e_ov (kW81) (wW81 G b v30_length a31 v32_clauses R.2.1 R.2.2.1 R.2.2.2.1 R.2.2.2.2.1 R.2.2.2.2.2.1 R.2.2.2.2.2.2.1 v32_good R.2.2.2.2.2.2.2) c0) n) 0 0) 62 [(0, .ref (b + 32)), (2, .int x2)] [.int s0] (e_ov (kW81) (wW81 G b v30_length a31 v32_clauses v32_length v32_parts v32_start v32_behind v32_token v32_number v32_good a36) c0) n 0 0 := by
  unfold fX6_readPlain_L62 at hf
  refine E.istore_n (lv' := [(3, .int s0), (0, .ref (b + 32)), (2, .int x2)]) dX6_readPlain_62 (by decide) rfl ?_
  refine E.iload_n 0 dX6_readPlain_63 rfl ?_
  refine E.if_eq dX6_readPlain_64 (fun h => ?_) (fun h => ?_)
  · have hf := e_ift hf h
    refine E.iload_n 0 dX6_readPlain_78 rfl ?_
    obtain ⟨g5, hf⟩ := gb_some hf
    cases hf
    exact E.zret dX6_readPlain_79 (nb01 g5) (Nat.le_refl _) (Nat.le_refl _) (pD_rf _ _ _)
  · have hf := e_iff hf h
    refine E.iload_n 2 dX6_readPlain_67 rfl ?_
    refine E.if_eq dX6_readPlain_68 (fun h => ?_) (fun h => ?_)
    · have hf := e_ift hf h
      refine E.iload_n 0 dX6_readPlain_78 rfl ?_
      obtain ⟨g6, hf⟩ := gb_some hf
      cases hf
      exact E.zret dX6_readPlain_79 (nb01 g6) (Nat.le_refl _) (Nat.le_refl _) (pD_rf _ _ _)
    · have hf := e_iff hf h
      refine E.aload_n 1 dX6_readPlain_71 rfl ?_
      refine E.bipush (v := 9) dX6_readPlain_72 (by decide) ?_
      refine E.iconst (v := 0) dX6_readPlain_74 (by decide) ?_
      obtain ⟨r7, hc7, hf⟩ := e_bind hf
      refine E.callVDs (es' := (wW81 G b v30_length a31 v32_clauses r7.1 v32_parts v32_start v32_behind v32_token v32_number v32_good r7.2)) [] [2, 3] 2 32 dX6_readPlain_75 mlX6_134 hw rfl rfl rfl rfl (mX6_emit (hw.pick2 [2, 3] rfl (by decide)) hc7) rfl rfl rfl rfl ⟨by show _ ≤ D + 2; omega, by show _ ≤ 64 * (D + 2); omega⟩ rfl rfl (Nat.le_of_ble_eq_true rfl) ⟨Nat.le_refl _, Nat.le_refl _⟩ rfl ?_
      refine E.iload_n 0 dX6_readPlain_78 rfl ?_
      obtain ⟨g8, hf⟩ := gb_some hf
      cases hf
      exact E.zret dX6_readPlain_79 (nb01 g8) (Nat.le_refl _) (Nat.le_refl _) (pD_rf _ _ _)
def fX6_readPlain_L40 (Fu : Nat) (kT : Int32 → (Nat → Int32) → Int32 → Int32 → Int32 → Int32 → Int32 → Int32 → (Nat → Int32) → Int32 → Option (Int32 × Int32 × Int32 × Int32 × Int32 × Int32 × Int32 × (Nat → Int32))) (v30_length : Int32) (a31 : Nat → Int32) (v32_length : Int32) (v32_parts : Int32) (v32_start : Int32) (v32_behind : Int32) (v32_token : Int32) (v32_number : Int32) (a36 : Nat → Int32) (x1 : Int32) (x2 : Int32) : Option (Int32 × Int32 × Int32 × Int32 × Int32 × Int32 × Int32 × (Nat → Int32)) := (fX6_isSign v30_length a31 v32_start v32_token 40).bind fun r2 => (if (r2 : Int32) = (0 : Int32) then ((fX6_readComparison Fu v30_length a31 v32_length v32_parts v32_start v32_behind v32_token v32_number a36 x1).bind fun r3 => (fX6_readPlain_L62 Fu kT v30_length a31 r3.2.1 r3.2.2.1 r3.2.2.2.1 r3.2.2.2.2.1 r3.2.2.2.2.2.1 r3.2.2.2.2.2.2.1 r3.2.2.2.2.2.2.2 x2 r3.1)) else ((fX6_readBracketedTest Fu kT v30_length a31 v32_length v32_parts v32_start v32_behind v32_token v32_number a36 x1).bind fun r4 => (fX6_readPlain_L62 Fu kT v30_length a31 r4.2.1 r4.2.2.1 r4.2.2.2.1 r4.2.2.2.2.1 r4.2.2.2.2.2.1 r4.2.2.2.2.2.2.1 r4.2.2.2.2.2.2.2 x2 r4.1)))
set_option maxHeartbeats 4000000 in
set_option maxRecDepth 100000 in
theorem tX6_readPlain_L40 {G : GT} {b : Nat} {c0 : Hp} {n : Nat} {D : Nat} (hD : 50 ≤ D) (hw : e_wf (kW81) n) {v32_clauses : Int32} {v32_good : Int32} {kT : Int32 → (Nat → Int32) → Int32 → Int32 → Int32 → Int32 → Int32 → Int32 → (Nat → Int32) → Int32 → Option (Int32 × Int32 × Int32 × Int32 × Int32 × Int32 × Int32 × (Nat → Int32))} (hT : ∀ {v30_length : Int32} {a31 : Nat → Int32} {v32_length : Int32} {v32_parts : Int32} {v32_start : Int32} {v32_behind : Int32} {v32_token : Int32} {v32_number : Int32} {a36 : Nat → Int32} {x1 : Int32} {R : Int32 × Int32 × Int32 × Int32 × Int32 × Int32 × Int32 × (Nat → Int32)}, kT v30_length a31 v32_length v32_parts v32_start v32_behind v32_token v32_number a36 x1 = some R → e_C G b yX6_readTest cX6_readTest 5 (some .boolean) D 0 0 [.ref (b + 32), .int x1] (e_ov (kW81) (wW81 G b v30_length a31 v32_clauses v32_length v32_parts v32_start v32_behind v32_token v32_number v32_good a36) c0) n (pD (some (.int R.1)) (e_ov (kW81) (wW81 G b v30_length a31 v32_clauses R.2.1 R.2.2.1 R.2.2.2.1 R.2.2.2.2.1 R.2.2.2.2.2.1 R.2.2.2.2.2.2.1 v32_good R.2.2.2.2.2.2.2) c0) n)) {Fu : Nat} {v30_length : Int32} {a31 : Nat → Int32} {v32_length : Int32} {v32_parts : Int32} {v32_start : Int32} {v32_behind : Int32} {v32_token : Int32} {v32_number : Int32} {a36 : Nat → Int32} {x1 : Int32} {x2 : Int32} {R : Int32 × Int32 × Int32 × Int32 × Int32 × Int32 × Int32 × (Nat → Int32)} (hf : fX6_readPlain_L40 Fu kT v30_length a31 v32_length v32_parts v32_start v32_behind v32_token v32_number a36 x1 x2 = some R) : E G b yX6_readPlain cX6_readPlain 4 (some .boolean) (e_rm (D + 2) 0 0) e_X0 (e_Z G b (pD (some (.int R.1)) (e_ov (kW81) (wW81 G b v30_length a31 v32_clauses R.2.1 R.2.2.1 R.2.2.2.1 R.2.2.2.2.1 R.2.2.2.2.2.1 R.2.2.2.2.2.2.1 v32_good R.2.2.2.2.2.2.2) c0) n) 0 0) 40 [(0, .ref (b + 32)), (1, .int x1), (2, .int x2)] [] (e_ov (kW81) (wW81 G b v30_length a31 v32_clauses v32_length v32_parts v32_start v32_behind v32_token v32_number v32_good a36) c0) n 0 0 := by
  unfold fX6_readPlain_L40 at hf
  refine E.aload_n 0 dX6_readPlain_40 rfl ?_
  refine E.bipush (v := 40) dX6_readPlain_41 (by decide) ?_
  obtain ⟨r2, hc2, hf⟩ := e_bind hf
  refine E.callVDs (es' := (wW81 G b v30_length a31 v32_clauses v32_length v32_parts v32_start v32_behind v32_token v32_number v32_good a36)) [] [0, 1, 2] 2 32 dX6_readPlain_43 mlX6_54 hw rfl rfl rfl rfl (mX6_isSign (hw.pick2 [0, 1, 2] rfl (by decide)) hc2) rfl rfl rfl rfl ⟨by show _ ≤ D + 2; omega, by show _ ≤ 64 * (D + 2); omega⟩ rfl rfl (Nat.le_of_ble_eq_true rfl) ⟨Nat.le_refl _, Nat.le_refl _⟩ rfl ?_
  refine E.if_eq dX6_readPlain_46 (fun h => ?_) (fun h => ?_)
  · have hf := e_ift hf h
    refine E.aload_n 0 dX6_readPlain_57 rfl ?_
    refine E.iload_n 1 dX6_readPlain_58 rfl ?_
    obtain ⟨r3, hc3, hf⟩ := e_bind hf
    refine E.callVD [] dX6_readPlain_59 mlX6_152 ⟨hw.sub (p := 2) rfl, e_ov_get hw.1 (p := 2) rfl rfl⟩ rfl rfl (mX6_readComparison hw hc3) ⟨by show _ ≤ D + 2; omega, by show _ ≤ 64 * (D + 2); omega⟩ rfl rfl (Nat.le_of_ble_eq_true rfl) ⟨Nat.le_refl _, Nat.le_refl _⟩ rfl ?_
    refine E.locals [0, 2] rfl ?_
    exact tX6_readPlain_L62 hD hw hT hf
  · have hf := e_iff hf h
    refine E.aload_n 0 dX6_readPlain_49 rfl ?_
    refine E.iload_n 1 dX6_readPlain_50 rfl ?_
    obtain ⟨r4, hc4, hf⟩ := e_bind hf
    refine E.callVD [] dX6_readPlain_51 mlX6_149 ⟨hw.sub (p := 2) rfl, e_ov_get hw.1 (p := 2) rfl rfl⟩ rfl rfl (mX6_readBracketedTest (by omega) hw hT hc4) ⟨by show _ ≤ D + 2; omega, by show _ ≤ 64 * (D + 2); omega⟩ rfl rfl (Nat.le_of_ble_eq_true rfl) ⟨Nat.le_refl _, Nat.le_refl _⟩ rfl ?_
    refine E.goto dX6_readPlain_54 ?_
    refine E.locals [0, 2] rfl ?_
    exact tX6_readPlain_L62 hD hw hT hf
def fX6_readPlain_L29 (Fu : Nat) (kT : Int32 → (Nat → Int32) → Int32 → Int32 → Int32 → Int32 → Int32 → Int32 → (Nat → Int32) → Int32 → Option (Int32 × Int32 × Int32 × Int32 × Int32 × Int32 × Int32 × (Nat → Int32))) (k4 : Int32 → (Nat → Int32) → Int32 → Int32 → Int32 → Int32 → Int32 → Int32 → (Nat → Int32) → Int32 → Int32 → Int32 → Option (Int32 × Int32 × Int32 × Int32 × Int32 × Int32 × Int32 × (Nat → Int32))) (v30_length : Int32) (a31 : Nat → Int32) (v32_length : Int32) (v32_parts : Int32) (v32_start : Int32) (v32_behind : Int32) (v32_token : Int32) (v32_number : Int32) (a36 : Nat → Int32) (x1 : Int32) (x3 : Int32) (s0 : Int32) : Option (Int32 × Int32 × Int32 × Int32 × Int32 × Int32 × Int32 × (Nat → Int32)) := (fX6_advance Fu v30_length a31 v32_start v32_behind v32_token v32_number).bind fun r9 => (k4 v30_length a31 v32_length v32_parts r9.1 r9.2.1 r9.2.2.1 r9.2.2.2 a36 x1 s0 (x3 + 1))
set_option maxHeartbeats 4000000 in
set_option maxRecDepth 100000 in
theorem tX6_readPlain_L29 {G : GT} {b : Nat} {c0 : Hp} {n : Nat} {D : Nat} (hD : 50 ≤ D) (hw : e_wf (kW81) n) {v32_clauses : Int32} {v32_good : Int32} {kT : Int32 → (Nat → Int32) → Int32 → Int32 → Int32 → Int32 → Int32 → Int32 → (Nat → Int32) → Int32 → Option (Int32 × Int32 × Int32 × Int32 × Int32 × Int32 × Int32 × (Nat → Int32))} (hT : ∀ {v30_length : Int32} {a31 : Nat → Int32} {v32_length : Int32} {v32_parts : Int32} {v32_start : Int32} {v32_behind : Int32} {v32_token : Int32} {v32_number : Int32} {a36 : Nat → Int32} {x1 : Int32} {R : Int32 × Int32 × Int32 × Int32 × Int32 × Int32 × Int32 × (Nat → Int32)}, kT v30_length a31 v32_length v32_parts v32_start v32_behind v32_token v32_number a36 x1 = some R → e_C G b yX6_readTest cX6_readTest 5 (some .boolean) D 0 0 [.ref (b + 32), .int x1] (e_ov (kW81) (wW81 G b v30_length a31 v32_clauses v32_length v32_parts v32_start v32_behind v32_token v32_number v32_good a36) c0) n (pD (some (.int R.1)) (e_ov (kW81) (wW81 G b v30_length a31 v32_clauses R.2.1 R.2.2.1 R.2.2.2.1 R.2.2.2.2.1 R.2.2.2.2.2.1 R.2.2.2.2.2.2.1 v32_good R.2.2.2.2.2.2.2) c0) n)) {Fu : Nat} {k4 : Int32 → (Nat → Int32) → Int32 → Int32 → Int32 → Int32 → Int32 → Int32 → (Nat → Int32) → Int32 → Int32 → Int32 → Option (Int32 × Int32 × Int32 × Int32 × Int32 × Int32 × Int32 × (Nat → Int32))} (hk4 : ∀ {v30_length : Int32} {a31 : Nat → Int32} {v32_length : Int32} {v32_parts : Int32} {v32_start : Int32} {v32_behind : Int32} {v32_token : Int32} {v32_number : Int32} {a36 : Nat → Int32} {x1 : Int32} {x2 : Int32} {x3 : Int32} {R : Int32 × Int32 × Int32 × Int32 × Int32 × Int32 × Int32 × (Nat → Int32)}, k4 v30_length a31 v32_length v32_parts v32_start v32_behind v32_token v32_number a36 x1 x2 x3 = some R → E G b yX6_readPlain cX6_readPlain 4 (some .boolean) (e_rm (D + 2) 0 0) e_X0 (e_Z G b (pD (some (.int R.1)) (e_ov (kW81) (wW81 G b v30_length a31 v32_clauses R.2.1 R.2.2.1 R.2.2.2.1 R.2.2.2.2.1 R.2.2.2.2.2.1 R.2.2.2.2.2.2.1 v32_good R.2.2.2.2.2.2.2) c0) n) 0 0) 4 [(0, .ref (b + 32)), (1, .int x1), (2, .int x2), (3, .int x3)] [] (e_ov (kW81) (wW81 G b v30_length a31 v32_clauses v32_length v32_parts v32_start v32_behind v32_token v32_number v32_good a36) c0) n 0 0) {v30_length : Int32} {a31 : Nat → Int32} {v32_length : Int32} {v32_parts : Int32} {v32_start : Int32} {v32_behind : Int32} {v32_token : Int32} {v32_number : Int32} {a36 : Nat → Int32} {x1 : Int32} {x3 : Int32} {s0 : Int32} {R : Int32 × Int32 × Int32 × Int32 × Int32 × Int32 × Int32 × (Nat → Int32)} (hf : fX6_readPlain_L29 Fu kT k4 v30_length a31 v32_length v32_parts v32_start v32_behind v32_token v32_number a36 x1 x3 s0 = some R) : E G b yX6_readPlain cX6_readPlain 4 (some .boolean) (e_rm (D + 2) 0 0) e_X0 (e_Z G b (pD (some (.int R.1)) (e_ov (kW81) (wW81 G b v30_length a31 v32_clauses R.2.1 R.2.2.1 R.2.2.2.1 R.2.2.2.2.1 R.2.2.2.2.2.1 R.2.2.2.2.2.2.1 v32_good R.2.2.2.2.2.2.2) c0) n) 0 0) 29 [(0, .ref (b + 32)), (1, .int x1), (3, .int x3)] [.int s0] (e_ov (kW81) (wW81 G b v30_length a31 v32_clauses v32_length v32_parts v32_start v32_behind v32_token v32_number v32_good a36) c0) n 0 0 := by
  unfold fX6_readPlain_L29 at hf
  refine E.istore_n (lv' := [(2, .int s0), (0, .ref (b + 32)), (1, .int x1), (3, .int x3)]) dX6_readPlain_29 (by decide) rfl ?_
  refine E.aload_n 1 dX6_readPlain_30 rfl ?_
  obtain ⟨r9, hc9, hf⟩ := e_bind hf
  refine E.callVDs (es' := (wW81 G b v30_length a31 v32_clauses v32_length v32_parts r9.1 r9.2.1 r9.2.2.1 r9.2.2.2 v32_good a36)) [] [0, 1, 2] 2 32 dX6_readPlain_31 mlX6_47 hw rfl rfl rfl rfl (mX6_advance (hw.pick2 [0, 1, 2] rfl (by decide)) hc9) rfl rfl rfl rfl ⟨by show _ ≤ D + 2; omega, by show _ ≤ 64 * (D + 2); omega⟩ rfl rfl (Nat.le_of_ble_eq_true rfl) ⟨Nat.le_refl _, Nat.le_refl _⟩ rfl ?_
  refine E.iinc (q := 3) (v := (x3 + 1)) (lv' := [(3, .int (x3 + 1)), (2, .int s0), (0, .ref (b + 32)), (1, .int x1)]) dX6_readPlain_34 rfl rfl (by decide) rfl ?_
  refine E.goto dX6_readPlain_37 ?_
  refine E.locals [2, 3, 1, 0] rfl ?_
  exact hk4 hf
def fX6_readPlain_L4 (Fu : Nat) (kT : Int32 → (Nat → Int32) → Int32 → Int32 → Int32 → Int32 → Int32 → Int32 → (Nat → Int32) → Int32 → Option (Int32 × Int32 × Int32 × Int32 × Int32 × Int32 × Int32 × (Nat → Int32))) : Nat → Int32 → (Nat → Int32) → Int32 → Int32 → Int32 → Int32 → Int32 → Int32 → (Nat → Int32) → Int32 → Int32 → Int32 → Option (Int32 × Int32 × Int32 × Int32 × Int32 × Int32 × Int32 × (Nat → Int32))
  | 0, _, _, _, _, _, _, _, _, _, _, _, _ => none
  | k + 1, v30_length, a31, v32_length, v32_parts, v32_start, v32_behind, v32_token, v32_number, a36, x1, x2, x3 => if (400 : Int32) ≤ (x3 : Int32) then (fX6_readPlain_L40 Fu kT v30_length a31 v32_length v32_parts v32_start v32_behind v32_token v32_number a36 x1 x2) else ((fX6_isWord Fu 14 a31 v32_start v32_behind v32_token).bind fun r1 => (if (r1 : Int32) = (0 : Int32) then (fX6_readPlain_L40 Fu kT v30_length a31 v32_length v32_parts v32_start v32_behind v32_token v32_number a36 x1 x2) else (if (x2 : Int32) = (0 : Int32) then (fX6_readPlain_L29 Fu kT (fX6_readPlain_L4 Fu kT k) v30_length a31 v32_length v32_parts v32_start v32_behind v32_token v32_number a36 x1 x3 1) else (fX6_readPlain_L29 Fu kT (fX6_readPlain_L4 Fu kT k) v30_length a31 v32_length v32_parts v32_start v32_behind v32_token v32_number a36 x1 x3 0))))
set_option maxHeartbeats 4000000 in
set_option maxRecDepth 100000 in
theorem tX6_readPlain_L4 {G : GT} {b : Nat} {c0 : Hp} {n : Nat} {D : Nat} (hD : 50 ≤ D) (hw : e_wf (kW81) n) {v32_clauses : Int32} {v32_good : Int32} {kT : Int32 → (Nat → Int32) → Int32 → Int32 → Int32 → Int32 → Int32 → Int32 → (Nat → Int32) → Int32 → Option (Int32 × Int32 × Int32 × Int32 × Int32 × Int32 × Int32 × (Nat → Int32))} (hT : ∀ {v30_length : Int32} {a31 : Nat → Int32} {v32_length : Int32} {v32_parts : Int32} {v32_start : Int32} {v32_behind : Int32} {v32_token : Int32} {v32_number : Int32} {a36 : Nat → Int32} {x1 : Int32} {R : Int32 × Int32 × Int32 × Int32 × Int32 × Int32 × Int32 × (Nat → Int32)}, kT v30_length a31 v32_length v32_parts v32_start v32_behind v32_token v32_number a36 x1 = some R → e_C G b yX6_readTest cX6_readTest 5 (some .boolean) D 0 0 [.ref (b + 32), .int x1] (e_ov (kW81) (wW81 G b v30_length a31 v32_clauses v32_length v32_parts v32_start v32_behind v32_token v32_number v32_good a36) c0) n (pD (some (.int R.1)) (e_ov (kW81) (wW81 G b v30_length a31 v32_clauses R.2.1 R.2.2.1 R.2.2.2.1 R.2.2.2.2.1 R.2.2.2.2.2.1 R.2.2.2.2.2.2.1 v32_good R.2.2.2.2.2.2.2) c0) n)) {Fu : Nat} : ∀ (k : Nat) {v30_length : Int32} {a31 : Nat → Int32} {v32_length : Int32} {v32_parts : Int32} {v32_start : Int32} {v32_behind : Int32} {v32_token : Int32} {v32_number : Int32} {a36 : Nat → Int32} {x1 : Int32} {x2 : Int32} {x3 : Int32} {R : Int32 × Int32 × Int32 × Int32 × Int32 × Int32 × Int32 × (Nat → Int32)}, fX6_readPlain_L4 Fu kT k v30_length a31 v32_length v32_parts v32_start v32_behind v32_token v32_number a36 x1 x2 x3 = some R → E G b yX6_readPlain cX6_readPlain 4 (some .boolean) (e_rm (D + 2) 0 0) e_X0 (e_Z G b (pD (some (.int R.1)) (e_ov (kW81) (wW81 G b v30_length a31 v32_clauses R.2.1 R.2.2.1 R.2.2.2.1 R.2.2.2.2.1 R.2.2.2.2.2.1 R.2.2.2.2.2.2.1 v32_good R.2.2.2.2.2.2.2) c0) n) 0 0) 4 [(0, .ref (b + 32)), (1, .int x1), (2, .int x2), (3, .int x3)] [] (e_ov (kW81) (wW81 G b v30_length a31 v32_clauses v32_length v32_parts v32_start v32_behind v32_token v32_number v32_good a36) c0) n 0 0 := by
  intro k
  induction k with
  | zero =>
    intro _ _ _ _ _ _ _ _ _ _ _ _ _ hf
    have hf : (none : Option (Int32 × Int32 × Int32 × Int32 × Int32 × Int32 × Int32 × (Nat → Int32))) = some _ := hf
    cases hf
  | succ k ih =>
    intro v30_length a31 v32_length v32_parts v32_start v32_behind v32_token v32_number a36 x1 x2 x3 R hf
    rw [fX6_readPlain_L4] at hf
    refine E.iload_n 3 dX6_readPlain_4 rfl ?_
    refine E.sipush (v := 400) dX6_readPlain_5 (by decide) ?_
    refine E.icmp_ge dX6_readPlain_8 (fun h => ?_) (fun h => ?_)
    · have hf := e_ift hf h
      refine E.locals [0, 1, 2] rfl ?_
      exact tX6_readPlain_L40 hD hw hT hf
    · have hf := e_iff hf h
      refine E.aload_n 0 dX6_readPlain_11 rfl ?_
      refine E.ldcS 14 (by decide) dX6_readPlain_12 rfl rfl ?_
      obtain ⟨r1, hc1, hf⟩ := e_bind hf
      refine E.callVDs (es' := (wW81 G b v30_length a31 v32_clauses v32_length v32_parts v32_start v32_behind v32_token v32_number v32_good a36)) [] [0, 1, 2] 2 32 dX6_readPlain_14 mlX6_116 hw rfl rfl rfl rfl (mX6_isWord (hw.pick2 [0, 1, 2] rfl (by decide)) (by decide) hc1) rfl rfl rfl rfl ⟨by show _ ≤ D + 2; omega, by show _ ≤ 64 * (D + 2); omega⟩ rfl rfl (Nat.le_of_ble_eq_true rfl) ⟨Nat.le_refl _, Nat.le_refl _⟩ rfl ?_
      refine E.if_eq dX6_readPlain_17 (fun h => ?_) (fun h => ?_)
      · have hf := e_ift hf h
        refine E.locals [0, 1, 2] rfl ?_
        exact tX6_readPlain_L40 hD hw hT hf
      · have hf := e_iff hf h
        refine E.iload_n 2 dX6_readPlain_20 rfl ?_
        refine E.if_ne dX6_readPlain_21 (fun h => ?_) (fun h => ?_)
        · have hf := e_iff hf h
          refine E.iconst (v := 0) dX6_readPlain_28 (by decide) ?_
          refine E.locals [0, 1, 3] rfl ?_
          exact tX6_readPlain_L29 hD hw hT ih hf
        · have hf := e_ift hf h
          refine E.iconst (v := 1) dX6_readPlain_24 (by decide) ?_
          refine E.goto dX6_readPlain_25 ?_
          refine E.locals [0, 1, 3] rfl ?_
          exact tX6_readPlain_L29 hD hw hT ih hf
def fX6_readPlain (Fu : Nat) (kT : Int32 → (Nat → Int32) → Int32 → Int32 → Int32 → Int32 → Int32 → Int32 → (Nat → Int32) → Int32 → Option (Int32 × Int32 × Int32 × Int32 × Int32 × Int32 × Int32 × (Nat → Int32))) (v30_length : Int32) (a31 : Nat → Int32) (v32_length : Int32) (v32_parts : Int32) (v32_start : Int32) (v32_behind : Int32) (v32_token : Int32) (v32_number : Int32) (a36 : Nat → Int32) (x1 : Int32) : Option (Int32 × Int32 × Int32 × Int32 × Int32 × Int32 × Int32 × (Nat → Int32)) := fX6_readPlain_L4 Fu kT Fu v30_length a31 v32_length v32_parts v32_start v32_behind v32_token v32_number a36 x1 0 0
set_option maxHeartbeats 4000000 in
set_option maxRecDepth 100000 in
theorem tX6_readPlain {G : GT} {b : Nat} {c0 : Hp} {n : Nat} {D : Nat} (hD : 50 ≤ D) (hw : e_wf (kW81) n) {v32_clauses : Int32} {v32_good : Int32} {kT : Int32 → (Nat → Int32) → Int32 → Int32 → Int32 → Int32 → Int32 → Int32 → (Nat → Int32) → Int32 → Option (Int32 × Int32 × Int32 × Int32 × Int32 × Int32 × Int32 × (Nat → Int32))} (hT : ∀ {v30_length : Int32} {a31 : Nat → Int32} {v32_length : Int32} {v32_parts : Int32} {v32_start : Int32} {v32_behind : Int32} {v32_token : Int32} {v32_number : Int32} {a36 : Nat → Int32} {x1 : Int32} {R : Int32 × Int32 × Int32 × Int32 × Int32 × Int32 × Int32 × (Nat → Int32)}, kT v30_length a31 v32_length v32_parts v32_start v32_behind v32_token v32_number a36 x1 = some R → e_C G b yX6_readTest cX6_readTest 5 (some .boolean) D 0 0 [.ref (b + 32), .int x1] (e_ov (kW81) (wW81 G b v30_length a31 v32_clauses v32_length v32_parts v32_start v32_behind v32_token v32_number v32_good a36) c0) n (pD (some (.int R.1)) (e_ov (kW81) (wW81 G b v30_length a31 v32_clauses R.2.1 R.2.2.1 R.2.2.2.1 R.2.2.2.2.1 R.2.2.2.2.2.1 R.2.2.2.2.2.2.1 v32_good R.2.2.2.2.2.2.2) c0) n)) {Fu : Nat} {v30_length : Int32} {a31 : Nat → Int32} {v32_length : Int32} {v32_parts : Int32} {v32_start : Int32} {v32_behind : Int32} {v32_token : Int32} {v32_number : Int32} {a36 : Nat → Int32} {x1 : Int32} {R : Int32 × Int32 × Int32 × Int32 × Int32 × Int32 × Int32 × (Nat → Int32)} (hf : fX6_readPlain Fu kT v30_length a31 v32_length v32_parts v32_start v32_behind v32_token v32_number a36 x1 = some R) : E G b yX6_readPlain cX6_readPlain 4 (some .boolean) (e_rm (D + 2) 0 0) e_X0 (e_Z G b (pD (some (.int R.1)) (e_ov (kW81) (wW81 G b v30_length a31 v32_clauses R.2.1 R.2.2.1 R.2.2.2.1 R.2.2.2.2.1 R.2.2.2.2.2.1 R.2.2.2.2.2.2.1 v32_good R.2.2.2.2.2.2.2) c0) n) 0 0) 0 [(0, .ref (b + 32)), (1, .int x1)] [] (e_ov (kW81) (wW81 G b v30_length a31 v32_clauses v32_length v32_parts v32_start v32_behind v32_token v32_number v32_good a36) c0) n 0 0 := by
  unfold fX6_readPlain at hf
  refine E.iconst (v := 0) dX6_readPlain_0 (by decide) ?_
  refine E.istore_n (lv' := [(2, .int 0), (0, .ref (b + 32)), (1, .int x1)]) dX6_readPlain_1 (by decide) rfl ?_
  refine E.iconst (v := 0) dX6_readPlain_2 (by decide) ?_
  refine E.istore_n (lv' := [(3, .int 0), (2, .int 0), (0, .ref (b + 32)), (1, .int x1)]) dX6_readPlain_3 (by decide) rfl ?_
  refine E.locals [2, 3, 1, 0] rfl ?_
  exact tX6_readPlain_L4 hD hw hT _ hf
set_option maxRecDepth 100000 in
theorem mX6_readPlain {G : GT} {b : Nat} {c0 : Hp} {n : Nat} {D : Nat} (hD : 50 ≤ D) (hw : e_wf (kW81) n) {v32_clauses : Int32} {v32_good : Int32} {kT : Int32 → (Nat → Int32) → Int32 → Int32 → Int32 → Int32 → Int32 → Int32 → (Nat → Int32) → Int32 → Option (Int32 × Int32 × Int32 × Int32 × Int32 × Int32 × Int32 × (Nat → Int32))} (hT : ∀ {v30_length : Int32} {a31 : Nat → Int32} {v32_length : Int32} {v32_parts : Int32} {v32_start : Int32} {v32_behind : Int32} {v32_token : Int32} {v32_number : Int32} {a36 : Nat → Int32} {x1 : Int32} {R : Int32 × Int32 × Int32 × Int32 × Int32 × Int32 × Int32 × (Nat → Int32)}, kT v30_length a31 v32_length v32_parts v32_start v32_behind v32_token v32_number a36 x1 = some R → e_C G b yX6_readTest cX6_readTest 5 (some .boolean) D 0 0 [.ref (b + 32), .int x1] (e_ov (kW81) (wW81 G b v30_length a31 v32_clauses v32_length v32_parts v32_start v32_behind v32_token v32_number v32_good a36) c0) n (pD (some (.int R.1)) (e_ov (kW81) (wW81 G b v30_length a31 v32_clauses R.2.1 R.2.2.1 R.2.2.2.1 R.2.2.2.2.1 R.2.2.2.2.2.1 R.2.2.2.2.2.2.1 v32_good R.2.2.2.2.2.2.2) c0) n)) {Fu : Nat} {v30_length : Int32} {a31 : Nat → Int32} {v32_length : Int32} {v32_parts : Int32} {v32_start : Int32} {v32_behind : Int32} {v32_token : Int32} {v32_number : Int32} {a36 : Nat → Int32} {x1 : Int32} {R : Int32 × Int32 × Int32 × Int32 × Int32 × Int32 × Int32 × (Nat → Int32)} (hf : fX6_readPlain Fu kT v30_length a31 v32_length v32_parts v32_start v32_behind v32_token v32_number a36 x1 = some R) : e_C G b yX6_readPlain cX6_readPlain 4 (some .boolean) (D + 2) 0 0 [.ref (b + 32), .int x1] (e_ov (kW81) (wW81 G b v30_length a31 v32_clauses v32_length v32_parts v32_start v32_behind v32_token v32_number v32_good a36) c0) n (pD (some (.int R.1)) (e_ov (kW81) (wW81 G b v30_length a31 v32_clauses R.2.1 R.2.2.1 R.2.2.2.1 R.2.2.2.2.1 R.2.2.2.2.2.1 R.2.2.2.2.2.2.1 v32_good R.2.2.2.2.2.2.2) c0) n) := e_C.of (by decide) (Nat.le_of_ble_eq_true rfl) (tX6_readPlain hD hw hT hf)
def fX6_aimHere (v32_length : Int32) (a36 : Nat → Int32) (x1 : Int32) : Option ((Nat → Int32)) := if (x1 : Int32) < (0 : Int32) then (some (a36)) else (if (400 : Int32) ≤ (x1 : Int32) then (some (a36)) else (gd x1 400 (gd x1 400 (some ((va_up a36 (x1 : Int32).toNatClampNeg ((a36 (x1 : Int32).toNatClampNeg) + v32_length)))))))
set_option maxHeartbeats 4000000 in
set_option maxRecDepth 100000 in
theorem tX6_aimHere {G : GT} {b : Nat} {c0 : Hp} {n : Nat} (hw : e_wf (kW84) n) {v32_clauses : Int32} {v32_parts : Int32} {v32_start : Int32} {v32_behind : Int32} {v32_token : Int32} {v32_number : Int32} {v32_good : Int32} {v32_length : Int32} {a36 : Nat → Int32} {x1 : Int32} {R : (Nat → Int32)} (hf : fX6_aimHere v32_length a36 x1 = some R) : E G b yX6_aimHere cX6_aimHere 2 none (e_rm 0 0 0) e_X0 (e_Z G b (pD none (e_ov (kW84) (wW84 G b v32_clauses v32_length v32_parts v32_start v32_behind v32_token v32_number v32_good R) c0) n) 0 0) 0 [(0, .ref (b + 32)), (1, .int x1)] [] (e_ov (kW84) (wW84 G b v32_clauses v32_length v32_parts v32_start v32_behind v32_token v32_number v32_good a36) c0) n 0 0 := by
  unfold fX6_aimHere at hf
  refine E.iload_n 1 dX6_aimHere_0 rfl ?_
  refine E.if_lt dX6_aimHere_1 (fun h => ?_) (fun h => ?_)
  · have hf := e_ift hf h
    cases hf
    exact E.vret dX6_aimHere_24 (Nat.le_refl _) (Nat.le_refl _) (pD_rf _ _ _)
  · have hf := e_iff hf h
    refine E.iload_n 1 dX6_aimHere_4 rfl ?_
    refine E.sipush (v := 400) dX6_aimHere_5 (by decide) ?_
    refine E.icmp_ge dX6_aimHere_8 (fun h => ?_) (fun h => ?_)
    · have hf := e_ift hf h
      cases hf
      exact E.vret dX6_aimHere_24 (Nat.le_refl _) (Nat.le_refl _) (pD_rf _ _ _)
    · have hf := e_iff hf h
      refine E.aload_n 0 dX6_aimHere_11 rfl ?_
      refine E.get hw 0 32 dX6_aimHere_12 flX6_27 rfl rfl rfl rfl ?_
      refine E.iload_n 1 dX6_aimHere_15 rfl ?_
      refine E.dup2_11 dX6_aimHere_16 rfl rfl ?_
      obtain ⟨g1, hf⟩ := gd_some hf
      refine E.iald hw 1 36 dX6_aimHere_17 rfl rfl g1 ?_
      refine E.aload_n 0 dX6_aimHere_18 rfl ?_
      refine E.get hw 0 32 dX6_aimHere_19 flX6_38 rfl rfl rfl rfl ?_
      refine E.iadd dX6_aimHere_22 ?_
      obtain ⟨g2, hf⟩ := gd_some hf
      refine E.iast (es' := (wW84 G b v32_clauses v32_length v32_parts v32_start v32_behind v32_token v32_number v32_good (va_up a36 (x1 : Int32).toNatClampNeg ((a36 (x1 : Int32).toNatClampNeg) + v32_length)))) hw 1 36 dX6_aimHere_23 rfl rfl g2 rfl ?_
      cases hf
      exact E.vret dX6_aimHere_24 (Nat.le_refl _) (Nat.le_refl _) (pD_rf _ _ _)
set_option maxRecDepth 100000 in
theorem mX6_aimHere {G : GT} {b : Nat} {c0 : Hp} {n : Nat} (hw : e_wf (kW84) n) {v32_clauses : Int32} {v32_parts : Int32} {v32_start : Int32} {v32_behind : Int32} {v32_token : Int32} {v32_number : Int32} {v32_good : Int32} {v32_length : Int32} {a36 : Nat → Int32} {x1 : Int32} {R : (Nat → Int32)} (hf : fX6_aimHere v32_length a36 x1 = some R) : e_C G b yX6_aimHere cX6_aimHere 2 none 0 0 0 [.ref (b + 32), .int x1] (e_ov (kW84) (wW84 G b v32_clauses v32_length v32_parts v32_start v32_behind v32_token v32_number v32_good a36) c0) n (pD none (e_ov (kW84) (wW84 G b v32_clauses v32_length v32_parts v32_start v32_behind v32_token v32_number v32_good R) c0) n) := e_C.of (by decide) (Nat.le_of_ble_eq_true rfl) (tX6_aimHere hw hf)
def fX6_readBoth_L8 (Fu : Nat) (kT : Int32 → (Nat → Int32) → Int32 → Int32 → Int32 → Int32 → Int32 → Int32 → (Nat → Int32) → Int32 → Option (Int32 × Int32 × Int32 × Int32 × Int32 × Int32 × Int32 × (Nat → Int32))) : Nat → Int32 → (Nat → Int32) → Int32 → Int32 → Int32 → Int32 → Int32 → Int32 → (Nat → Int32) → Int32 → Int32 → Int32 → Option (Int32 × Int32 × Int32 × Int32 × Int32 × Int32 × Int32 × (Nat → Int32))
  | 0, _, _, _, _, _, _, _, _, _, _, _, _ => none
  | k + 1, v30_length, a31, v32_length, v32_parts, v32_start, v32_behind, v32_token, v32_number, a36, x1, x2, x3 => if (400 : Int32) ≤ (x3 : Int32) then (gb x2 (some (x2, v32_length, v32_parts, v32_start, v32_behind, v32_token, v32_number, a36))) else (if (x2 : Int32) = (0 : Int32) then (gb x2 (some (x2, v32_length, v32_parts, v32_start, v32_behind, v32_token, v32_number, a36))) else ((fX6_isWord Fu 15 a31 v32_start v32_behind v32_token).bind fun r4 => (if (r4 : Int32) = (0 : Int32) then (gb x2 (some (x2, v32_length, v32_parts, v32_start, v32_behind, v32_token, v32_number, a36))) else ((fX6_emit v32_length a36 11 0).bind fun r6 => ((fX6_advance Fu v30_length a31 v32_start v32_behind v32_token v32_number).bind fun r7 => ((fX6_readPlain Fu kT v30_length a31 r6.1 v32_parts r7.1 r7.2.1 r7.2.2.1 r7.2.2.2 r6.2 x1).bind fun r8 => ((fX6_aimHere r8.2.1 r8.2.2.2.2.2.2.2 v32_length).bind fun r9 => ((fX6_readBoth_L8 Fu kT k) v30_length a31 r8.2.1 r8.2.2.1 r8.2.2.2.1 r8.2.2.2.2.1 r8.2.2.2.2.2.1 r8.2.2.2.2.2.2.1 r9 x1 r8.1 (x3 + 1)))))))))
set_option maxHeartbeats 4000000 in
set_option maxRecDepth 100000 in
theorem tX6_readBoth_L8 {G : GT} {b : Nat} {c0 : Hp} {n : Nat} {D : Nat} (hD : 50 ≤ D) (hw : e_wf (kW81) n) {v32_clauses : Int32} {v32_good : Int32} {kT : Int32 → (Nat → Int32) → Int32 → Int32 → Int32 → Int32 → Int32 → Int32 → (Nat → Int32) → Int32 → Option (Int32 × Int32 × Int32 × Int32 × Int32 × Int32 × Int32 × (Nat → Int32))} (hT : ∀ {v30_length : Int32} {a31 : Nat → Int32} {v32_length : Int32} {v32_parts : Int32} {v32_start : Int32} {v32_behind : Int32} {v32_token : Int32} {v32_number : Int32} {a36 : Nat → Int32} {x1 : Int32} {R : Int32 × Int32 × Int32 × Int32 × Int32 × Int32 × Int32 × (Nat → Int32)}, kT v30_length a31 v32_length v32_parts v32_start v32_behind v32_token v32_number a36 x1 = some R → e_C G b yX6_readTest cX6_readTest 5 (some .boolean) D 0 0 [.ref (b + 32), .int x1] (e_ov (kW81) (wW81 G b v30_length a31 v32_clauses v32_length v32_parts v32_start v32_behind v32_token v32_number v32_good a36) c0) n (pD (some (.int R.1)) (e_ov (kW81) (wW81 G b v30_length a31 v32_clauses R.2.1 R.2.2.1 R.2.2.2.1 R.2.2.2.2.1 R.2.2.2.2.2.1 R.2.2.2.2.2.2.1 v32_good R.2.2.2.2.2.2.2) c0) n)) {Fu : Nat} : ∀ (k : Nat) {v30_length : Int32} {a31 : Nat → Int32} {v32_length : Int32} {v32_parts : Int32} {v32_start : Int32} {v32_behind : Int32} {v32_token : Int32} {v32_number : Int32} {a36 : Nat → Int32} {x1 : Int32} {x2 : Int32} {x3 : Int32} {R : Int32 × Int32 × Int32 × Int32 × Int32 × Int32 × Int32 × (Nat → Int32)}, fX6_readBoth_L8 Fu kT k v30_length a31 v32_length v32_parts v32_start v32_behind v32_token v32_number a36 x1 x2 x3 = some R → E G b yX6_readBoth cX6_readBoth 5 (some .boolean) (e_rm (D + 3) 0 0) e_X0 (e_Z G b (pD (some (.int R.1)) (e_ov (kW81) (wW81 G b v30_length a31 v32_clauses R.2.1 R.2.2.1 R.2.2.2.1 R.2.2.2.2.1 R.2.2.2.2.2.1 R.2.2.2.2.2.2.1 v32_good R.2.2.2.2.2.2.2) c0) n) 0 0) 8 [(0, .ref (b + 32)), (1, .int x1), (2, .int x2), (3, .int x3)] [] (e_ov (kW81) (wW81 G b v30_length a31 v32_clauses v32_length v32_parts v32_start v32_behind v32_token v32_number v32_good a36) c0) n 0 0 := by
  intro k
  induction k with
  | zero =>
    intro _ _ _ _ _ _ _ _ _ _ _ _ _ hf
    have hf : (none : Option (Int32 × Int32 × Int32 × Int32 × Int32 × Int32 × Int32 × (Nat → Int32))) = some _ := hf
    cases hf
  | succ k ih =>
    intro v30_length a31 v32_length v32_parts v32_start v32_behind v32_token v32_number a36 x1 x2 x3 R hf
    rw [fX6_readBoth_L8] at hf
    refine E.iload_n 3 dX6_readBoth_8 rfl ?_
    refine E.sipush (v := 400) dX6_readBoth_9 (by decide) ?_
    refine E.icmp_ge dX6_readBoth_12 (fun h => ?_) (fun h => ?_)
    · have hf := e_ift hf h
      refine E.iload_n 2 dX6_readBoth_63 rfl ?_
      obtain ⟨g2, hf⟩ := gb_some hf
      cases hf
      exact E.zret dX6_readBoth_64 (nb01 g2) (Nat.le_refl _) (Nat.le_refl _) (pD_rf _ _ _)
    · have hf := e_iff hf h
      refine E.iload_n 2 dX6_readBoth_15 rfl ?_
      refine E.if_eq dX6_readBoth_16 (fun h => ?_) (fun h => ?_)
      · have hf := e_ift hf h
        refine E.iload_n 2 dX6_readBoth_63 rfl ?_
        obtain ⟨g3, hf⟩ := gb_some hf
        cases hf
        exact E.zret dX6_readBoth_64 (nb01 g3) (Nat.le_refl _) (Nat.le_refl _) (pD_rf _ _ _)
      · have hf := e_iff hf h
        refine E.aload_n 0 dX6_readBoth_19 rfl ?_
        refine E.ldcS 15 (by decide) dX6_readBoth_20 rfl rfl ?_
        obtain ⟨r4, hc4, hf⟩ := e_bind hf
        refine E.callVDs (es' := (wW81 G b v30_length a31 v32_clauses v32_length v32_parts v32_start v32_behind v32_token v32_number v32_good a36)) [] [0, 1, 2] 2 32 dX6_readBoth_22 mlX6_116 hw rfl rfl rfl rfl (mX6_isWord (hw.pick2 [0, 1, 2] rfl (by decide)) (by decide) hc4) rfl rfl rfl rfl ⟨by show _ ≤ D + 3; omega, by show _ ≤ 64 * (D + 3); omega⟩ rfl rfl (Nat.le_of_ble_eq_true rfl) ⟨Nat.le_refl _, Nat.le_refl _⟩ rfl ?_
        refine E.if_eq dX6_readBoth_25 (fun h => ?_) (fun h => ?_)
        · have hf := e_ift hf h
          refine E.iload_n 2 dX6_readBoth_63 rfl ?_
          obtain ⟨g5, hf⟩ := gb_some hf
          cases hf
          exact E.zret dX6_readBoth_64 (nb01 g5) (Nat.le_refl _) (Nat.le_refl _) (pD_rf _ _ _)
        · have hf := e_iff hf h
          refine E.aload_n 0 dX6_readBoth_28 rfl ?_
          refine E.get hw 2 32 dX6_readBoth_29 flX6_38 rfl rfl rfl rfl ?_
          refine E.istore (lv' := [(4, .int v32_length), (0, .ref (b + 32)), (1, .int x1), (2, .int x2), (3, .int x3)]) dX6_readBoth_32 (by decide) rfl ?_
          refine E.aload_n 1 dX6_readBoth_34 rfl ?_
          refine E.bipush (v := 11) dX6_readBoth_35 (by decide) ?_
          refine E.iconst (v := 0) dX6_readBoth_37 (by decide) ?_
          obtain ⟨r6, hc6, hf⟩ := e_bind hf
          refine E.callVDs (es' := (wW81 G b v30_length a31 v32_clauses r6.1 v32_parts v32_start v32_behind v32_token v32_number v32_good r6.2)) [] [2, 3] 2 32 dX6_readBoth_38 mlX6_134 hw rfl rfl rfl rfl (mX6_emit (hw.pick2 [2, 3] rfl (by decide)) hc6) rfl rfl rfl rfl ⟨by show _ ≤ D + 3; omega, by show _ ≤ 64 * (D + 3); omega⟩ rfl rfl (Nat.le_of_ble_eq_true rfl) ⟨Nat.le_refl _, Nat.le_refl _⟩ rfl ?_
          refine E.aload_n 1 dX6_readBoth_41 rfl ?_
          obtain ⟨r7, hc7, hf⟩ := e_bind hf
          refine E.callVDs (es' := (wW81 G b v30_length a31 v32_clauses r6.1 v32_parts r7.1 r7.2.1 r7.2.2.1 r7.2.2.2 v32_good r6.2)) [] [0, 1, 2] 2 32 dX6_readBoth_42 mlX6_47 hw rfl rfl rfl rfl (mX6_advance (hw.pick2 [0, 1, 2] rfl (by decide)) hc7) rfl rfl rfl rfl ⟨by show _ ≤ D + 3; omega, by show _ ≤ 64 * (D + 3); omega⟩ rfl rfl (Nat.le_of_ble_eq_true rfl) ⟨Nat.le_refl _, Nat.le_refl _⟩ rfl ?_
          refine E.aload_n 1 dX6_readBoth_45 rfl ?_
          refine E.iload_n 2 dX6_readBoth_46 rfl ?_
          obtain ⟨r8, hc8, hf⟩ := e_bind hf
          refine E.callVD [] dX6_readBoth_47 mlX6_142 ⟨hw.sub (p := 2) rfl, e_ov_get hw.1 (p := 2) rfl rfl⟩ rfl rfl (mX6_readPlain (by omega) hw hT hc8) ⟨by show _ ≤ D + 3; omega, by show _ ≤ 64 * (D + 3); omega⟩ rfl rfl (Nat.le_of_ble_eq_true rfl) ⟨Nat.le_refl _, Nat.le_refl _⟩ rfl ?_
          refine E.istore_n (lv' := [(2, .int r8.1), (4, .int v32_length), (0, .ref (b + 32)), (1, .int x1), (3, .int x3)]) dX6_readBoth_50 (by decide) rfl ?_
          refine E.aload_n 2 dX6_readBoth_51 rfl ?_
          refine E.iload 1 dX6_readBoth_52 rfl ?_
          obtain ⟨r9, hc9, hf⟩ := e_bind hf
          refine E.callVDs (es' := (wW81 G b v30_length a31 v32_clauses r8.2.1 r8.2.2.1 r8.2.2.2.1 r8.2.2.2.2.1 r8.2.2.2.2.2.1 r8.2.2.2.2.2.2.1 v32_good r9)) [] [2, 3] 2 32 dX6_readBoth_54 mlX6_138 hw rfl rfl rfl rfl (mX6_aimHere (hw.pick2 [2, 3] rfl (by decide)) hc9) rfl rfl rfl rfl ⟨by show _ ≤ D + 3; omega, by show _ ≤ 64 * (D + 3); omega⟩ rfl rfl (Nat.le_of_ble_eq_true rfl) ⟨Nat.le_refl _, Nat.le_refl _⟩ rfl ?_
          refine E.iinc (q := 4) (v := (x3 + 1)) (lv' := [(3, .int (x3 + 1)), (2, .int r8.1), (4, .int v32_length), (0, .ref (b + 32)), (1, .int x1)]) dX6_readBoth_57 rfl rfl (by decide) rfl ?_
          refine E.goto dX6_readBoth_60 ?_
          refine E.locals [3, 4, 1, 0] rfl ?_
          exact ih hf
def fX6_readBoth (Fu : Nat) (kT : Int32 → (Nat → Int32) → Int32 → Int32 → Int32 → Int32 → Int32 → Int32 → (Nat → Int32) → Int32 → Option (Int32 × Int32 × Int32 × Int32 × Int32 × Int32 × Int32 × (Nat → Int32))) (v30_length : Int32) (a31 : Nat → Int32) (v32_length : Int32) (v32_parts : Int32) (v32_start : Int32) (v32_behind : Int32) (v32_token : Int32) (v32_number : Int32) (a36 : Nat → Int32) (x1 : Int32) : Option (Int32 × Int32 × Int32 × Int32 × Int32 × Int32 × Int32 × (Nat → Int32)) := (fX6_readPlain Fu kT v30_length a31 v32_length v32_parts v32_start v32_behind v32_token v32_number a36 x1).bind fun r1 => (fX6_readBoth_L8 Fu kT Fu v30_length a31 r1.2.1 r1.2.2.1 r1.2.2.2.1 r1.2.2.2.2.1 r1.2.2.2.2.2.1 r1.2.2.2.2.2.2.1 r1.2.2.2.2.2.2.2 x1 r1.1 0)
set_option maxHeartbeats 4000000 in
set_option maxRecDepth 100000 in
theorem tX6_readBoth {G : GT} {b : Nat} {c0 : Hp} {n : Nat} {D : Nat} (hD : 50 ≤ D) (hw : e_wf (kW81) n) {v32_clauses : Int32} {v32_good : Int32} {kT : Int32 → (Nat → Int32) → Int32 → Int32 → Int32 → Int32 → Int32 → Int32 → (Nat → Int32) → Int32 → Option (Int32 × Int32 × Int32 × Int32 × Int32 × Int32 × Int32 × (Nat → Int32))} (hT : ∀ {v30_length : Int32} {a31 : Nat → Int32} {v32_length : Int32} {v32_parts : Int32} {v32_start : Int32} {v32_behind : Int32} {v32_token : Int32} {v32_number : Int32} {a36 : Nat → Int32} {x1 : Int32} {R : Int32 × Int32 × Int32 × Int32 × Int32 × Int32 × Int32 × (Nat → Int32)}, kT v30_length a31 v32_length v32_parts v32_start v32_behind v32_token v32_number a36 x1 = some R → e_C G b yX6_readTest cX6_readTest 5 (some .boolean) D 0 0 [.ref (b + 32), .int x1] (e_ov (kW81) (wW81 G b v30_length a31 v32_clauses v32_length v32_parts v32_start v32_behind v32_token v32_number v32_good a36) c0) n (pD (some (.int R.1)) (e_ov (kW81) (wW81 G b v30_length a31 v32_clauses R.2.1 R.2.2.1 R.2.2.2.1 R.2.2.2.2.1 R.2.2.2.2.2.1 R.2.2.2.2.2.2.1 v32_good R.2.2.2.2.2.2.2) c0) n)) {Fu : Nat} {v30_length : Int32} {a31 : Nat → Int32} {v32_length : Int32} {v32_parts : Int32} {v32_start : Int32} {v32_behind : Int32} {v32_token : Int32} {v32_number : Int32} {a36 : Nat → Int32} {x1 : Int32} {R : Int32 × Int32 × Int32 × Int32 × Int32 × Int32 × Int32 × (Nat → Int32)} (hf : fX6_readBoth Fu kT v30_length a31 v32_length v32_parts v32_start v32_behind v32_token v32_number a36 x1 = some R) : E G b yX6_readBoth cX6_readBoth 5 (some .boolean) (e_rm (D + 3) 0 0) e_X0 (e_Z G b (pD (some (.int R.1)) (e_ov (kW81) (wW81 G b v30_length a31 v32_clauses R.2.1 R.2.2.1 R.2.2.2.1 R.2.2.2.2.1 R.2.2.2.2.2.1 R.2.2.2.2.2.2.1 v32_good R.2.2.2.2.2.2.2) c0) n) 0 0) 0 [(0, .ref (b + 32)), (1, .int x1)] [] (e_ov (kW81) (wW81 G b v30_length a31 v32_clauses v32_length v32_parts v32_start v32_behind v32_token v32_number v32_good a36) c0) n 0 0 := by
  unfold fX6_readBoth at hf
  refine E.aload_n 0 dX6_readBoth_0 rfl ?_
  refine E.iload_n 1 dX6_readBoth_1 rfl ?_
  obtain ⟨r1, hc1, hf⟩ := e_bind hf
  refine E.callVD [] dX6_readBoth_2 mlX6_142 ⟨hw.sub (p := 2) rfl, e_ov_get hw.1 (p := 2) rfl rfl⟩ rfl rfl (mX6_readPlain (by omega) hw hT hc1) ⟨by show _ ≤ D + 3; omega, by show _ ≤ 64 * (D + 3); omega⟩ rfl rfl (Nat.le_of_ble_eq_true rfl) ⟨Nat.le_refl _, Nat.le_refl _⟩ rfl ?_
  refine E.istore_n (lv' := [(2, .int r1.1), (0, .ref (b + 32)), (1, .int x1)]) dX6_readBoth_5 (by decide) rfl ?_
  refine E.iconst (v := 0) dX6_readBoth_6 (by decide) ?_
  refine E.istore_n (lv' := [(3, .int 0), (2, .int r1.1), (0, .ref (b + 32)), (1, .int x1)]) dX6_readBoth_7 (by decide) rfl ?_
  refine E.locals [2, 3, 1, 0] rfl ?_
  exact tX6_readBoth_L8 hD hw hT _ hf
set_option maxRecDepth 100000 in
theorem mX6_readBoth {G : GT} {b : Nat} {c0 : Hp} {n : Nat} {D : Nat} (hD : 50 ≤ D) (hw : e_wf (kW81) n) {v32_clauses : Int32} {v32_good : Int32} {kT : Int32 → (Nat → Int32) → Int32 → Int32 → Int32 → Int32 → Int32 → Int32 → (Nat → Int32) → Int32 → Option (Int32 × Int32 × Int32 × Int32 × Int32 × Int32 × Int32 × (Nat → Int32))} (hT : ∀ {v30_length : Int32} {a31 : Nat → Int32} {v32_length : Int32} {v32_parts : Int32} {v32_start : Int32} {v32_behind : Int32} {v32_token : Int32} {v32_number : Int32} {a36 : Nat → Int32} {x1 : Int32} {R : Int32 × Int32 × Int32 × Int32 × Int32 × Int32 × Int32 × (Nat → Int32)}, kT v30_length a31 v32_length v32_parts v32_start v32_behind v32_token v32_number a36 x1 = some R → e_C G b yX6_readTest cX6_readTest 5 (some .boolean) D 0 0 [.ref (b + 32), .int x1] (e_ov (kW81) (wW81 G b v30_length a31 v32_clauses v32_length v32_parts v32_start v32_behind v32_token v32_number v32_good a36) c0) n (pD (some (.int R.1)) (e_ov (kW81) (wW81 G b v30_length a31 v32_clauses R.2.1 R.2.2.1 R.2.2.2.1 R.2.2.2.2.1 R.2.2.2.2.2.1 R.2.2.2.2.2.2.1 v32_good R.2.2.2.2.2.2.2) c0) n)) {Fu : Nat} {v30_length : Int32} {a31 : Nat → Int32} {v32_length : Int32} {v32_parts : Int32} {v32_start : Int32} {v32_behind : Int32} {v32_token : Int32} {v32_number : Int32} {a36 : Nat → Int32} {x1 : Int32} {R : Int32 × Int32 × Int32 × Int32 × Int32 × Int32 × Int32 × (Nat → Int32)} (hf : fX6_readBoth Fu kT v30_length a31 v32_length v32_parts v32_start v32_behind v32_token v32_number a36 x1 = some R) : e_C G b yX6_readBoth cX6_readBoth 5 (some .boolean) (D + 3) 0 0 [.ref (b + 32), .int x1] (e_ov (kW81) (wW81 G b v30_length a31 v32_clauses v32_length v32_parts v32_start v32_behind v32_token v32_number v32_good a36) c0) n (pD (some (.int R.1)) (e_ov (kW81) (wW81 G b v30_length a31 v32_clauses R.2.1 R.2.2.1 R.2.2.2.1 R.2.2.2.2.1 R.2.2.2.2.2.1 R.2.2.2.2.2.2.1 v32_good R.2.2.2.2.2.2.2) c0) n) := e_C.of (by decide) (Nat.le_of_ble_eq_true rfl) (tX6_readBoth hD hw hT hf)
def fX6_readTest_L8 (Fu : Nat) (kT : Int32 → (Nat → Int32) → Int32 → Int32 → Int32 → Int32 → Int32 → Int32 → (Nat → Int32) → Int32 → Option (Int32 × Int32 × Int32 × Int32 × Int32 × Int32 × Int32 × (Nat → Int32))) : Nat → Int32 → (Nat → Int32) → Int32 → Int32 → Int32 → Int32 → Int32 → Int32 → (Nat → Int32) → Int32 → Int32 → Int32 → Option (Int32 × Int32 × Int32 × Int32 × Int32 × Int32 × Int32 × (Nat → Int32))
  | 0, _, _, _, _, _, _, _, _, _, _, _, _ => none
  | k + 1, v30_length, a31, v32_length, v32_parts, v32_start, v32_behind, v32_token, v32_number, a36, x1, x2, x3 => if (400 : Int32) ≤ (x3 : Int32) then (gb x2 (some (x2, v32_length, v32_parts, v32_start, v32_behind, v32_token, v32_number, a36))) else (if (x2 : Int32) = (0 : Int32) then (gb x2 (some (x2, v32_length, v32_parts, v32_start, v32_behind, v32_token, v32_number, a36))) else ((fX6_isWord Fu 16 a31 v32_start v32_behind v32_token).bind fun r4 => (if (r4 : Int32) = (0 : Int32) then (gb x2 (some (x2, v32_length, v32_parts, v32_start, v32_behind, v32_token, v32_number, a36))) else ((fX6_emit v32_length a36 10 0).bind fun r6 => ((fX6_advance Fu v30_length a31 v32_start v32_behind v32_token v32_number).bind fun r7 => ((fX6_readBoth Fu kT v30_length a31 r6.1 v32_parts r7.1 r7.2.1 r7.2.2.1 r7.2.2.2 r6.2 x1).bind fun r8 => ((fX6_aimHere r8.2.1 r8.2.2.2.2.2.2.2 v32_length).bind fun r9 => ((fX6_readTest_L8 Fu kT k) v30_length a31 r8.2.1 r8.2.2.1 r8.2.2.2.1 r8.2.2.2.2.1 r8.2.2.2.2.2.1 r8.2.2.2.2.2.2.1 r9 x1 r8.1 (x3 + 1)))))))))
set_option maxHeartbeats 4000000 in
set_option maxRecDepth 100000 in
theorem tX6_readTest_L8 {G : GT} {b : Nat} {c0 : Hp} {n : Nat} {D : Nat} (hD : 50 ≤ D) (hw : e_wf (kW81) n) {v32_clauses : Int32} {v32_good : Int32} {kT : Int32 → (Nat → Int32) → Int32 → Int32 → Int32 → Int32 → Int32 → Int32 → (Nat → Int32) → Int32 → Option (Int32 × Int32 × Int32 × Int32 × Int32 × Int32 × Int32 × (Nat → Int32))} (hT : ∀ {v30_length : Int32} {a31 : Nat → Int32} {v32_length : Int32} {v32_parts : Int32} {v32_start : Int32} {v32_behind : Int32} {v32_token : Int32} {v32_number : Int32} {a36 : Nat → Int32} {x1 : Int32} {R : Int32 × Int32 × Int32 × Int32 × Int32 × Int32 × Int32 × (Nat → Int32)}, kT v30_length a31 v32_length v32_parts v32_start v32_behind v32_token v32_number a36 x1 = some R → e_C G b yX6_readTest cX6_readTest 5 (some .boolean) D 0 0 [.ref (b + 32), .int x1] (e_ov (kW81) (wW81 G b v30_length a31 v32_clauses v32_length v32_parts v32_start v32_behind v32_token v32_number v32_good a36) c0) n (pD (some (.int R.1)) (e_ov (kW81) (wW81 G b v30_length a31 v32_clauses R.2.1 R.2.2.1 R.2.2.2.1 R.2.2.2.2.1 R.2.2.2.2.2.1 R.2.2.2.2.2.2.1 v32_good R.2.2.2.2.2.2.2) c0) n)) {Fu : Nat} : ∀ (k : Nat) {v30_length : Int32} {a31 : Nat → Int32} {v32_length : Int32} {v32_parts : Int32} {v32_start : Int32} {v32_behind : Int32} {v32_token : Int32} {v32_number : Int32} {a36 : Nat → Int32} {x1 : Int32} {x2 : Int32} {x3 : Int32} {R : Int32 × Int32 × Int32 × Int32 × Int32 × Int32 × Int32 × (Nat → Int32)}, fX6_readTest_L8 Fu kT k v30_length a31 v32_length v32_parts v32_start v32_behind v32_token v32_number a36 x1 x2 x3 = some R → E G b yX6_readTest cX6_readTest 5 (some .boolean) (e_rm (D + 4) 0 0) e_X0 (e_Z G b (pD (some (.int R.1)) (e_ov (kW81) (wW81 G b v30_length a31 v32_clauses R.2.1 R.2.2.1 R.2.2.2.1 R.2.2.2.2.1 R.2.2.2.2.2.1 R.2.2.2.2.2.2.1 v32_good R.2.2.2.2.2.2.2) c0) n) 0 0) 8 [(0, .ref (b + 32)), (1, .int x1), (2, .int x2), (3, .int x3)] [] (e_ov (kW81) (wW81 G b v30_length a31 v32_clauses v32_length v32_parts v32_start v32_behind v32_token v32_number v32_good a36) c0) n 0 0 := by
  intro k
  induction k with
  | zero =>
    intro _ _ _ _ _ _ _ _ _ _ _ _ _ hf
    have hf : (none : Option (Int32 × Int32 × Int32 × Int32 × Int32 × Int32 × Int32 × (Nat → Int32))) = some _ := hf
    cases hf
  | succ k ih =>
    intro v30_length a31 v32_length v32_parts v32_start v32_behind v32_token v32_number a36 x1 x2 x3 R hf
    rw [fX6_readTest_L8] at hf
    refine E.iload_n 3 dX6_readTest_8 rfl ?_
    refine E.sipush (v := 400) dX6_readTest_9 (by decide) ?_
    refine E.icmp_ge dX6_readTest_12 (fun h => ?_) (fun h => ?_)
    · have hf := e_ift hf h
      refine E.iload_n 2 dX6_readTest_63 rfl ?_
      obtain ⟨g2, hf⟩ := gb_some hf
      cases hf
      exact E.zret dX6_readTest_64 (nb01 g2) (Nat.le_refl _) (Nat.le_refl _) (pD_rf _ _ _)
    · have hf := e_iff hf h
      refine E.iload_n 2 dX6_readTest_15 rfl ?_
      refine E.if_eq dX6_readTest_16 (fun h => ?_) (fun h => ?_)
      · have hf := e_ift hf h
        refine E.iload_n 2 dX6_readTest_63 rfl ?_
        obtain ⟨g3, hf⟩ := gb_some hf
        cases hf
        exact E.zret dX6_readTest_64 (nb01 g3) (Nat.le_refl _) (Nat.le_refl _) (pD_rf _ _ _)
      · have hf := e_iff hf h
        refine E.aload_n 0 dX6_readTest_19 rfl ?_
        refine E.ldcS 16 (by decide) dX6_readTest_20 rfl rfl ?_
        obtain ⟨r4, hc4, hf⟩ := e_bind hf
        refine E.callVDs (es' := (wW81 G b v30_length a31 v32_clauses v32_length v32_parts v32_start v32_behind v32_token v32_number v32_good a36)) [] [0, 1, 2] 2 32 dX6_readTest_22 mlX6_116 hw rfl rfl rfl rfl (mX6_isWord (hw.pick2 [0, 1, 2] rfl (by decide)) (by decide) hc4) rfl rfl rfl rfl ⟨by show _ ≤ D + 4; omega, by show _ ≤ 64 * (D + 4); omega⟩ rfl rfl (Nat.le_of_ble_eq_true rfl) ⟨Nat.le_refl _, Nat.le_refl _⟩ rfl ?_
        refine E.if_eq dX6_readTest_25 (fun h => ?_) (fun h => ?_)
        · have hf := e_ift hf h
          refine E.iload_n 2 dX6_readTest_63 rfl ?_
          obtain ⟨g5, hf⟩ := gb_some hf
          cases hf
          exact E.zret dX6_readTest_64 (nb01 g5) (Nat.le_refl _) (Nat.le_refl _) (pD_rf _ _ _)
        · have hf := e_iff hf h
          refine E.aload_n 0 dX6_readTest_28 rfl ?_
          refine E.get hw 2 32 dX6_readTest_29 flX6_38 rfl rfl rfl rfl ?_
          refine E.istore (lv' := [(4, .int v32_length), (0, .ref (b + 32)), (1, .int x1), (2, .int x2), (3, .int x3)]) dX6_readTest_32 (by decide) rfl ?_
          refine E.aload_n 1 dX6_readTest_34 rfl ?_
          refine E.bipush (v := 10) dX6_readTest_35 (by decide) ?_
          refine E.iconst (v := 0) dX6_readTest_37 (by decide) ?_
          obtain ⟨r6, hc6, hf⟩ := e_bind hf
          refine E.callVDs (es' := (wW81 G b v30_length a31 v32_clauses r6.1 v32_parts v32_start v32_behind v32_token v32_number v32_good r6.2)) [] [2, 3] 2 32 dX6_readTest_38 mlX6_134 hw rfl rfl rfl rfl (mX6_emit (hw.pick2 [2, 3] rfl (by decide)) hc6) rfl rfl rfl rfl ⟨by show _ ≤ D + 4; omega, by show _ ≤ 64 * (D + 4); omega⟩ rfl rfl (Nat.le_of_ble_eq_true rfl) ⟨Nat.le_refl _, Nat.le_refl _⟩ rfl ?_
          refine E.aload_n 1 dX6_readTest_41 rfl ?_
          obtain ⟨r7, hc7, hf⟩ := e_bind hf
          refine E.callVDs (es' := (wW81 G b v30_length a31 v32_clauses r6.1 v32_parts r7.1 r7.2.1 r7.2.2.1 r7.2.2.2 v32_good r6.2)) [] [0, 1, 2] 2 32 dX6_readTest_42 mlX6_47 hw rfl rfl rfl rfl (mX6_advance (hw.pick2 [0, 1, 2] rfl (by decide)) hc7) rfl rfl rfl rfl ⟨by show _ ≤ D + 4; omega, by show _ ≤ 64 * (D + 4); omega⟩ rfl rfl (Nat.le_of_ble_eq_true rfl) ⟨Nat.le_refl _, Nat.le_refl _⟩ rfl ?_
          refine E.aload_n 1 dX6_readTest_45 rfl ?_
          refine E.iload_n 2 dX6_readTest_46 rfl ?_
          obtain ⟨r8, hc8, hf⟩ := e_bind hf
          refine E.callVD [] dX6_readTest_47 mlX6_129 ⟨hw.sub (p := 2) rfl, e_ov_get hw.1 (p := 2) rfl rfl⟩ rfl rfl (mX6_readBoth (by omega) hw hT hc8) ⟨by show _ ≤ D + 4; omega, by show _ ≤ 64 * (D + 4); omega⟩ rfl rfl (Nat.le_of_ble_eq_true rfl) ⟨Nat.le_refl _, Nat.le_refl _⟩ rfl ?_
          refine E.istore_n (lv' := [(2, .int r8.1), (4, .int v32_length), (0, .ref (b + 32)), (1, .int x1), (3, .int x3)]) dX6_readTest_50 (by decide) rfl ?_
          refine E.aload_n 2 dX6_readTest_51 rfl ?_
          refine E.iload 1 dX6_readTest_52 rfl ?_
          obtain ⟨r9, hc9, hf⟩ := e_bind hf
          refine E.callVDs (es' := (wW81 G b v30_length a31 v32_clauses r8.2.1 r8.2.2.1 r8.2.2.2.1 r8.2.2.2.2.1 r8.2.2.2.2.2.1 r8.2.2.2.2.2.2.1 v32_good r9)) [] [2, 3] 2 32 dX6_readTest_54 mlX6_138 hw rfl rfl rfl rfl (mX6_aimHere (hw.pick2 [2, 3] rfl (by decide)) hc9) rfl rfl rfl rfl ⟨by show _ ≤ D + 4; omega, by show _ ≤ 64 * (D + 4); omega⟩ rfl rfl (Nat.le_of_ble_eq_true rfl) ⟨Nat.le_refl _, Nat.le_refl _⟩ rfl ?_
          refine E.iinc (q := 4) (v := (x3 + 1)) (lv' := [(3, .int (x3 + 1)), (2, .int r8.1), (4, .int v32_length), (0, .ref (b + 32)), (1, .int x1)]) dX6_readTest_57 rfl rfl (by decide) rfl ?_
          refine E.goto dX6_readTest_60 ?_
          refine E.locals [3, 4, 1, 0] rfl ?_
          exact ih hf
def fX6_readTest (Fu : Nat) (kT : Int32 → (Nat → Int32) → Int32 → Int32 → Int32 → Int32 → Int32 → Int32 → (Nat → Int32) → Int32 → Option (Int32 × Int32 × Int32 × Int32 × Int32 × Int32 × Int32 × (Nat → Int32))) (v30_length : Int32) (a31 : Nat → Int32) (v32_length : Int32) (v32_parts : Int32) (v32_start : Int32) (v32_behind : Int32) (v32_token : Int32) (v32_number : Int32) (a36 : Nat → Int32) (x1 : Int32) : Option (Int32 × Int32 × Int32 × Int32 × Int32 × Int32 × Int32 × (Nat → Int32)) := (fX6_readBoth Fu kT v30_length a31 v32_length v32_parts v32_start v32_behind v32_token v32_number a36 x1).bind fun r1 => (fX6_readTest_L8 Fu kT Fu v30_length a31 r1.2.1 r1.2.2.1 r1.2.2.2.1 r1.2.2.2.2.1 r1.2.2.2.2.2.1 r1.2.2.2.2.2.2.1 r1.2.2.2.2.2.2.2 x1 r1.1 0)
set_option maxHeartbeats 4000000 in
set_option maxRecDepth 100000 in
theorem tX6_readTest {G : GT} {b : Nat} {c0 : Hp} {n : Nat} {D : Nat} (hD : 50 ≤ D) (hw : e_wf (kW81) n) {v32_clauses : Int32} {v32_good : Int32} {kT : Int32 → (Nat → Int32) → Int32 → Int32 → Int32 → Int32 → Int32 → Int32 → (Nat → Int32) → Int32 → Option (Int32 × Int32 × Int32 × Int32 × Int32 × Int32 × Int32 × (Nat → Int32))} (hT : ∀ {v30_length : Int32} {a31 : Nat → Int32} {v32_length : Int32} {v32_parts : Int32} {v32_start : Int32} {v32_behind : Int32} {v32_token : Int32} {v32_number : Int32} {a36 : Nat → Int32} {x1 : Int32} {R : Int32 × Int32 × Int32 × Int32 × Int32 × Int32 × Int32 × (Nat → Int32)}, kT v30_length a31 v32_length v32_parts v32_start v32_behind v32_token v32_number a36 x1 = some R → e_C G b yX6_readTest cX6_readTest 5 (some .boolean) D 0 0 [.ref (b + 32), .int x1] (e_ov (kW81) (wW81 G b v30_length a31 v32_clauses v32_length v32_parts v32_start v32_behind v32_token v32_number v32_good a36) c0) n (pD (some (.int R.1)) (e_ov (kW81) (wW81 G b v30_length a31 v32_clauses R.2.1 R.2.2.1 R.2.2.2.1 R.2.2.2.2.1 R.2.2.2.2.2.1 R.2.2.2.2.2.2.1 v32_good R.2.2.2.2.2.2.2) c0) n)) {Fu : Nat} {v30_length : Int32} {a31 : Nat → Int32} {v32_length : Int32} {v32_parts : Int32} {v32_start : Int32} {v32_behind : Int32} {v32_token : Int32} {v32_number : Int32} {a36 : Nat → Int32} {x1 : Int32} {R : Int32 × Int32 × Int32 × Int32 × Int32 × Int32 × Int32 × (Nat → Int32)} (hf : fX6_readTest Fu kT v30_length a31 v32_length v32_parts v32_start v32_behind v32_token v32_number a36 x1 = some R) : E G b yX6_readTest cX6_readTest 5 (some .boolean) (e_rm (D + 4) 0 0) e_X0 (e_Z G b (pD (some (.int R.1)) (e_ov (kW81) (wW81 G b v30_length a31 v32_clauses R.2.1 R.2.2.1 R.2.2.2.1 R.2.2.2.2.1 R.2.2.2.2.2.1 R.2.2.2.2.2.2.1 v32_good R.2.2.2.2.2.2.2) c0) n) 0 0) 0 [(0, .ref (b + 32)), (1, .int x1)] [] (e_ov (kW81) (wW81 G b v30_length a31 v32_clauses v32_length v32_parts v32_start v32_behind v32_token v32_number v32_good a36) c0) n 0 0 := by
  unfold fX6_readTest at hf
  refine E.aload_n 0 dX6_readTest_0 rfl ?_
  refine E.iload_n 1 dX6_readTest_1 rfl ?_
  obtain ⟨r1, hc1, hf⟩ := e_bind hf
  refine E.callVD [] dX6_readTest_2 mlX6_129 ⟨hw.sub (p := 2) rfl, e_ov_get hw.1 (p := 2) rfl rfl⟩ rfl rfl (mX6_readBoth (by omega) hw hT hc1) ⟨by show _ ≤ D + 4; omega, by show _ ≤ 64 * (D + 4); omega⟩ rfl rfl (Nat.le_of_ble_eq_true rfl) ⟨Nat.le_refl _, Nat.le_refl _⟩ rfl ?_
  refine E.istore_n (lv' := [(2, .int r1.1), (0, .ref (b + 32)), (1, .int x1)]) dX6_readTest_5 (by decide) rfl ?_
  refine E.iconst (v := 0) dX6_readTest_6 (by decide) ?_
  refine E.istore_n (lv' := [(3, .int 0), (2, .int r1.1), (0, .ref (b + 32)), (1, .int x1)]) dX6_readTest_7 (by decide) rfl ?_
  refine E.locals [2, 3, 1, 0] rfl ?_
  exact tX6_readTest_L8 hD hw hT _ hf
set_option maxRecDepth 100000 in
theorem mX6_readTest {G : GT} {b : Nat} {c0 : Hp} {n : Nat} {D : Nat} (hD : 50 ≤ D) (hw : e_wf (kW81) n) {v32_clauses : Int32} {v32_good : Int32} {kT : Int32 → (Nat → Int32) → Int32 → Int32 → Int32 → Int32 → Int32 → Int32 → (Nat → Int32) → Int32 → Option (Int32 × Int32 × Int32 × Int32 × Int32 × Int32 × Int32 × (Nat → Int32))} (hT : ∀ {v30_length : Int32} {a31 : Nat → Int32} {v32_length : Int32} {v32_parts : Int32} {v32_start : Int32} {v32_behind : Int32} {v32_token : Int32} {v32_number : Int32} {a36 : Nat → Int32} {x1 : Int32} {R : Int32 × Int32 × Int32 × Int32 × Int32 × Int32 × Int32 × (Nat → Int32)}, kT v30_length a31 v32_length v32_parts v32_start v32_behind v32_token v32_number a36 x1 = some R → e_C G b yX6_readTest cX6_readTest 5 (some .boolean) D 0 0 [.ref (b + 32), .int x1] (e_ov (kW81) (wW81 G b v30_length a31 v32_clauses v32_length v32_parts v32_start v32_behind v32_token v32_number v32_good a36) c0) n (pD (some (.int R.1)) (e_ov (kW81) (wW81 G b v30_length a31 v32_clauses R.2.1 R.2.2.1 R.2.2.2.1 R.2.2.2.2.1 R.2.2.2.2.2.1 R.2.2.2.2.2.2.1 v32_good R.2.2.2.2.2.2.2) c0) n)) {Fu : Nat} {v30_length : Int32} {a31 : Nat → Int32} {v32_length : Int32} {v32_parts : Int32} {v32_start : Int32} {v32_behind : Int32} {v32_token : Int32} {v32_number : Int32} {a36 : Nat → Int32} {x1 : Int32} {R : Int32 × Int32 × Int32 × Int32 × Int32 × Int32 × Int32 × (Nat → Int32)} (hf : fX6_readTest Fu kT v30_length a31 v32_length v32_parts v32_start v32_behind v32_token v32_number a36 x1 = some R) : e_C G b yX6_readTest cX6_readTest 5 (some .boolean) (D + 4) 0 0 [.ref (b + 32), .int x1] (e_ov (kW81) (wW81 G b v30_length a31 v32_clauses v32_length v32_parts v32_start v32_behind v32_token v32_number v32_good a36) c0) n (pD (some (.int R.1)) (e_ov (kW81) (wW81 G b v30_length a31 v32_clauses R.2.1 R.2.2.1 R.2.2.2.1 R.2.2.2.2.1 R.2.2.2.2.2.1 R.2.2.2.2.2.2.1 v32_good R.2.2.2.2.2.2.2) c0) n) := e_C.of (by decide) (Nat.le_of_ble_eq_true rfl) (tX6_readTest hD hw hT hf)
def fX6_rt (Fu : Nat) : Nat → Int32 → (Nat → Int32) → Int32 → Int32 → Int32 → Int32 → Int32 → Int32 → (Nat → Int32) → Int32 → Option (Int32 × Int32 × Int32 × Int32 × Int32 × Int32 × Int32 × (Nat → Int32))
  | 0, _, _, _, _, _, _, _, _, _, _ => none
  | k + 1, v30_length, a31, v32_length, v32_parts, v32_start, v32_behind, v32_token, v32_number, a36, x1 => fX6_readTest Fu (fX6_rt Fu k) v30_length a31 v32_length v32_parts v32_start v32_behind v32_token v32_number a36 x1
set_option maxRecDepth 100000 in
theorem mX6_rt {G : GT} {b : Nat} {c0 : Hp} {n : Nat} (hw : e_wf (kW81) n) {v32_clauses : Int32} {v32_good : Int32} {Fu : Nat} : ∀ (k : Nat), ∀ {v30_length : Int32} {a31 : Nat → Int32} {v32_length : Int32} {v32_parts : Int32} {v32_start : Int32} {v32_behind : Int32} {v32_token : Int32} {v32_number : Int32} {a36 : Nat → Int32} {x1 : Int32} {R : Int32 × Int32 × Int32 × Int32 × Int32 × Int32 × Int32 × (Nat → Int32)}, fX6_rt Fu k v30_length a31 v32_length v32_parts v32_start v32_behind v32_token v32_number a36 x1 = some R → e_C G b yX6_readTest cX6_readTest 5 (some .boolean) (50 + 4 * k) 0 0 [.ref (b + 32), .int x1] (e_ov (kW81) (wW81 G b v30_length a31 v32_clauses v32_length v32_parts v32_start v32_behind v32_token v32_number v32_good a36) c0) n (pD (some (.int R.1)) (e_ov (kW81) (wW81 G b v30_length a31 v32_clauses R.2.1 R.2.2.1 R.2.2.2.1 R.2.2.2.2.1 R.2.2.2.2.2.1 R.2.2.2.2.2.2.1 v32_good R.2.2.2.2.2.2.2) c0) n) := by
  intro k
  induction k with
  | zero =>
    intro _ _ _ _ _ _ _ _ _ _ _ hf
    have hf : (none : Option (Int32 × Int32 × Int32 × Int32 × Int32 × Int32 × Int32 × (Nat → Int32))) = some _ := hf
    cases hf
  | succ k ih =>
    intro v30_length a31 v32_length v32_parts v32_start v32_behind v32_token v32_number a36 x1 R hf
    rw [fX6_rt] at hf
    rw [show 50 + 4 * (k + 1) = (50 + 4 * k) + 4 by omega]
    exact mX6_readTest (by omega) hw ih hf
def fX6_readTestK (Fu : Nat) (v30_length : Int32) (a31 : Nat → Int32) (v32_length : Int32) (v32_parts : Int32) (v32_start : Int32) (v32_behind : Int32) (v32_token : Int32) (v32_number : Int32) (a36 : Nat → Int32) (x1 : Int32) : Option (Int32 × Int32 × Int32 × Int32 × Int32 × Int32 × Int32 × (Nat → Int32)) := fX6_rt Fu 10 v30_length a31 v32_length v32_parts v32_start v32_behind v32_token v32_number a36 x1
theorem mX6_readTestK {G : GT} {b : Nat} {c0 : Hp} {n : Nat} (hw : e_wf (kW81) n) {v32_clauses : Int32} {v32_good : Int32} {Fu : Nat} : ∀ {v30_length : Int32} {a31 : Nat → Int32} {v32_length : Int32} {v32_parts : Int32} {v32_start : Int32} {v32_behind : Int32} {v32_token : Int32} {v32_number : Int32} {a36 : Nat → Int32} {x1 : Int32} {R : Int32 × Int32 × Int32 × Int32 × Int32 × Int32 × Int32 × (Nat → Int32)}, fX6_readTestK Fu v30_length a31 v32_length v32_parts v32_start v32_behind v32_token v32_number a36 x1 = some R → e_C G b yX6_readTest cX6_readTest 5 (some .boolean) 90 0 0 [.ref (b + 32), .int x1] (e_ov (kW81) (wW81 G b v30_length a31 v32_clauses v32_length v32_parts v32_start v32_behind v32_token v32_number v32_good a36) c0) n (pD (some (.int R.1)) (e_ov (kW81) (wW81 G b v30_length a31 v32_clauses R.2.1 R.2.2.1 R.2.2.2.1 R.2.2.2.2.1 R.2.2.2.2.2.1 R.2.2.2.2.2.2.1 v32_good R.2.2.2.2.2.2.2) c0) n) := fun hf => mX6_rt hw 10 hf
def fX6_headRead (Fu : Nat) (a31 : Nat → Int32) (v32_start : Int32) (v32_behind : Int32) (v32_token : Int32) : Option (Int32) := (fX6_isWord Fu 0 a31 v32_start v32_behind v32_token).bind fun r1 => (if (r1 : Int32) = (0 : Int32) then ((fX6_isWord Fu 1 a31 v32_start v32_behind v32_token).bind fun r2 => (if (r2 : Int32) = (0 : Int32) then ((fX6_isWord Fu 2 a31 v32_start v32_behind v32_token).bind fun r3 => (if (r3 : Int32) = (0 : Int32) then (some ((-1 : Int32))) else (some (2)))) else (some (1)))) else (some (0)))
set_option maxHeartbeats 4000000 in
set_option maxRecDepth 100000 in
theorem tX6_headRead {G : GT} {b : Nat} {c0 : Hp} {n : Nat} (hw : e_wf (kW82) n) {v30_length : Int32} {v32_clauses : Int32} {v32_length : Int32} {v32_parts : Int32} {v32_number : Int32} {v32_good : Int32} {Fu : Nat} {a31 : Nat → Int32} {v32_start : Int32} {v32_behind : Int32} {v32_token : Int32} {R : Int32} (hf : fX6_headRead Fu a31 v32_start v32_behind v32_token = some R) : E G b yX6_headRead cX6_headRead 1 (some .int) (e_rm 5 0 0) e_X0 (e_Z G b (pD (some (.int R)) (e_ov (kW82) (wW82 G b v30_length a31 v32_clauses v32_length v32_parts v32_start v32_behind v32_token v32_number v32_good) c0) n) 0 0) 0 [(0, .ref (b + 32))] [] (e_ov (kW82) (wW82 G b v30_length a31 v32_clauses v32_length v32_parts v32_start v32_behind v32_token v32_number v32_good) c0) n 0 0 := by
  unfold fX6_headRead at hf
  refine E.aload_n 0 dX6_headRead_0 rfl ?_
  refine E.ldcS 0 (by decide) dX6_headRead_1 rfl rfl ?_
  obtain ⟨r1, hc1, hf⟩ := e_bind hf
  refine E.callVDs (es' := (wW82 G b v30_length a31 v32_clauses v32_length v32_parts v32_start v32_behind v32_token v32_number v32_good)) [] [0, 1, 2] 2 32 dX6_headRead_3 mlX6_116 hw rfl rfl rfl rfl (mX6_isWord (hw.pick2 [0, 1, 2] rfl (by decide)) (by decide) hc1) rfl rfl rfl rfl ⟨Nat.le_of_ble_eq_true rfl, Nat.le_of_ble_eq_true rfl⟩ rfl rfl (Nat.le_of_ble_eq_true rfl) ⟨Nat.le_refl _, Nat.le_refl _⟩ rfl ?_
  refine E.if_eq dX6_headRead_6 (fun h => ?_) (fun h => ?_)
  · have hf := e_ift hf h
    refine E.aload_n 0 dX6_headRead_11 rfl ?_
    refine E.ldcS 1 (by decide) dX6_headRead_12 rfl rfl ?_
    obtain ⟨r2, hc2, hf⟩ := e_bind hf
    refine E.callVDs (es' := (wW82 G b v30_length a31 v32_clauses v32_length v32_parts v32_start v32_behind v32_token v32_number v32_good)) [] [0, 1, 2] 2 32 dX6_headRead_14 mlX6_116 hw rfl rfl rfl rfl (mX6_isWord (hw.pick2 [0, 1, 2] rfl (by decide)) (by decide) hc2) rfl rfl rfl rfl ⟨Nat.le_of_ble_eq_true rfl, Nat.le_of_ble_eq_true rfl⟩ rfl rfl (Nat.le_of_ble_eq_true rfl) ⟨Nat.le_refl _, Nat.le_refl _⟩ rfl ?_
    refine E.if_eq dX6_headRead_17 (fun h => ?_) (fun h => ?_)
    · have hf := e_ift hf h
      refine E.aload_n 0 dX6_headRead_22 rfl ?_
      refine E.ldcS 2 (by decide) dX6_headRead_23 rfl rfl ?_
      obtain ⟨r3, hc3, hf⟩ := e_bind hf
      refine E.callVDs (es' := (wW82 G b v30_length a31 v32_clauses v32_length v32_parts v32_start v32_behind v32_token v32_number v32_good)) [] [0, 1, 2] 2 32 dX6_headRead_25 mlX6_116 hw rfl rfl rfl rfl (mX6_isWord (hw.pick2 [0, 1, 2] rfl (by decide)) (by decide) hc3) rfl rfl rfl rfl ⟨Nat.le_of_ble_eq_true rfl, Nat.le_of_ble_eq_true rfl⟩ rfl rfl (Nat.le_of_ble_eq_true rfl) ⟨Nat.le_refl _, Nat.le_refl _⟩ rfl ?_
      refine E.if_eq dX6_headRead_28 (fun h => ?_) (fun h => ?_)
      · have hf := e_ift hf h
        refine E.iconst (v := -1) dX6_headRead_35 (by decide) ?_
        cases hf
        exact E.iret dX6_headRead_36 (Nat.le_refl _) (Nat.le_refl _) (pD_rf _ _ _)
      · have hf := e_iff hf h
        refine E.iconst (v := 2) dX6_headRead_31 (by decide) ?_
        refine E.goto dX6_headRead_32 ?_
        cases hf
        exact E.iret dX6_headRead_36 (Nat.le_refl _) (Nat.le_refl _) (pD_rf _ _ _)
    · have hf := e_iff hf h
      refine E.iconst (v := 1) dX6_headRead_20 (by decide) ?_
      cases hf
      exact E.iret dX6_headRead_21 (Nat.le_refl _) (Nat.le_refl _) (pD_rf _ _ _)
  · have hf := e_iff hf h
    refine E.iconst (v := 0) dX6_headRead_9 (by decide) ?_
    cases hf
    exact E.iret dX6_headRead_10 (Nat.le_refl _) (Nat.le_refl _) (pD_rf _ _ _)
set_option maxRecDepth 100000 in
theorem mX6_headRead {G : GT} {b : Nat} {c0 : Hp} {n : Nat} (hw : e_wf (kW82) n) {v30_length : Int32} {v32_clauses : Int32} {v32_length : Int32} {v32_parts : Int32} {v32_number : Int32} {v32_good : Int32} {Fu : Nat} {a31 : Nat → Int32} {v32_start : Int32} {v32_behind : Int32} {v32_token : Int32} {R : Int32} (hf : fX6_headRead Fu a31 v32_start v32_behind v32_token = some R) : e_C G b yX6_headRead cX6_headRead 1 (some .int) 5 0 0 [.ref (b + 32)] (e_ov (kW82) (wW82 G b v30_length a31 v32_clauses v32_length v32_parts v32_start v32_behind v32_token v32_number v32_good) c0) n (pD (some (.int R)) (e_ov (kW82) (wW82 G b v30_length a31 v32_clauses v32_length v32_parts v32_start v32_behind v32_token v32_number v32_good) c0) n) := e_C.of (by decide) (Nat.le_of_ble_eq_true rfl) (tX6_headRead hw hf)
abbrev kW85 : List Nat := [30, 31, 32, 33, 34, 35, 36]
abbrev wW85 (G : GT) (b  : Nat) (v30_length : Int32) (a31 : Nat → Int32) (v32_clauses : Int32) (v32_length : Int32) (v32_parts : Int32) (v32_start : Int32) (v32_behind : Int32) (v32_token : Int32) (v32_number : Int32) (v32_good : Int32) (a33 : Nat → Int32) (a34 : Nat → Int32) (a35 : Nat → Int32) (a36 : Nat → Int32) : List va_E := [.inr (9, [.ref (b + 31), .int v30_length]), aI G 400 a31, .inr (6, [.ref (b + 30), .ref (b + 33), .ref (b + 34), .ref (b + 35), .ref (b + 36), .int v32_clauses, .int v32_length, .int v32_parts, .int v32_start, .int v32_behind, .int v32_token, .int v32_number, .int v32_good]), aI G 12 a33, aI G 12 a34, aI G 12 a35, aI G 400 a36]
def fX6_readClause_L63 (Fu : Nat) (v30_length : Int32) (a31 : Nat → Int32) (v32_clauses : Int32) (v32_length : Int32) (v32_parts : Int32) (v32_start : Int32) (v32_behind : Int32) (v32_token : Int32) (v32_number : Int32) (a33 : Nat → Int32) (a34 : Nat → Int32) (a35 : Nat → Int32) (a36 : Nat → Int32) (x1 : Int32) (x2 : Int32) : Option (Int32 × Int32 × Int32 × Int32 × Int32 × Int32 × Int32 × Int32 × (Nat → Int32) × (Nat → Int32) × (Nat → Int32) × (Nat → Int32)) := gd v32_clauses 12 (gd v32_clauses 12 (gd v32_clauses 12 (some (1, (v32_clauses + 1), v32_length, v32_parts, v32_start, v32_behind, v32_token, v32_number, (va_up a33 (v32_clauses : Int32).toNatClampNeg x1), (va_up a34 (v32_clauses : Int32).toNatClampNeg x2), (va_up a35 (v32_clauses : Int32).toNatClampNeg v32_length), a36))))
set_option maxHeartbeats 4000000 in
set_option maxRecDepth 100000 in
theorem tX6_readClause_L63 {G : GT} {b : Nat} {c0 : Hp} {n : Nat} (hw : e_wf (kW85) n) {v32_good : Int32} {Fu : Nat} {v30_length : Int32} {a31 : Nat → Int32} {v32_clauses : Int32} {v32_length : Int32} {v32_parts : Int32} {v32_start : Int32} {v32_behind : Int32} {v32_token : Int32} {v32_number : Int32} {a33 : Nat → Int32} {a34 : Nat → Int32} {a35 : Nat → Int32} {a36 : Nat → Int32} {x1 : Int32} {x2 : Int32} {R : Int32 × Int32 × Int32 × Int32 × Int32 × Int32 × Int32 × Int32 × (Nat → Int32) × (Nat → Int32) × (Nat → Int32) × (Nat → Int32)} (hf : fX6_readClause_L63 Fu v30_length a31 v32_clauses v32_length v32_parts v32_start v32_behind v32_token v32_number a33 a34 a35 a36 x1 x2 = some R) : E G b yX6_readClause cX6_readClause 3 (some .boolean) (e_rm 91 0 0) e_X0 (e_Z G b (pD (some (.int R.1)) (e_ov (kW85) (wW85 G b v30_length a31 R.2.1 R.2.2.1 R.2.2.2.1 R.2.2.2.2.1 R.2.2.2.2.2.1 R.2.2.2.2.2.2.1 R.2.2.2.2.2.2.2.1 v32_good R.2.2.2.2.2.2.2.2.1 R.2.2.2.2.2.2.2.2.2.1 R.2.2.2.2.2.2.2.2.2.2.1 R.2.2.2.2.2.2.2.2.2.2.2) c0) n) 0 0) 63 [(0, .ref (b + 32)), (1, .int x1), (2, .int x2)] [] (e_ov (kW85) (wW85 G b v30_length a31 v32_clauses v32_length v32_parts v32_start v32_behind v32_token v32_number v32_good a33 a34 a35 a36) c0) n 0 0 := by
  unfold fX6_readClause_L63 at hf
  refine E.aload_n 0 dX6_readClause_63 rfl ?_
  refine E.get hw 2 32 dX6_readClause_64 flX6_17 rfl rfl rfl rfl ?_
  refine E.aload_n 0 dX6_readClause_67 rfl ?_
  refine E.get hw 2 32 dX6_readClause_68 flX6_34 rfl rfl rfl rfl ?_
  refine E.iload_n 1 dX6_readClause_71 rfl ?_
  obtain ⟨g7, hf⟩ := gd_some hf
  refine E.iast (es' := (wW85 G b v30_length a31 v32_clauses v32_length v32_parts v32_start v32_behind v32_token v32_number v32_good (va_up a33 (v32_clauses : Int32).toNatClampNeg x1) a34 a35 a36)) hw 3 33 dX6_readClause_72 rfl rfl g7 rfl ?_
  refine E.aload_n 0 dX6_readClause_73 rfl ?_
  refine E.get hw 2 32 dX6_readClause_74 flX6_21 rfl rfl rfl rfl ?_
  refine E.aload_n 0 dX6_readClause_77 rfl ?_
  refine E.get hw 2 32 dX6_readClause_78 flX6_34 rfl rfl rfl rfl ?_
  refine E.iload_n 2 dX6_readClause_81 rfl ?_
  obtain ⟨g8, hf⟩ := gd_some hf
  refine E.iast (es' := (wW85 G b v30_length a31 v32_clauses v32_length v32_parts v32_start v32_behind v32_token v32_number v32_good (va_up a33 (v32_clauses : Int32).toNatClampNeg x1) (va_up a34 (v32_clauses : Int32).toNatClampNeg x2) a35 a36)) hw 4 34 dX6_readClause_82 rfl rfl g8 rfl ?_
  refine E.aload_n 0 dX6_readClause_83 rfl ?_
  refine E.get hw 2 32 dX6_readClause_84 flX6_24 rfl rfl rfl rfl ?_
  refine E.aload_n 0 dX6_readClause_87 rfl ?_
  refine E.get hw 2 32 dX6_readClause_88 flX6_34 rfl rfl rfl rfl ?_
  refine E.aload_n 0 dX6_readClause_91 rfl ?_
  refine E.get hw 2 32 dX6_readClause_92 flX6_38 rfl rfl rfl rfl ?_
  obtain ⟨g9, hf⟩ := gd_some hf
  refine E.iast (es' := (wW85 G b v30_length a31 v32_clauses v32_length v32_parts v32_start v32_behind v32_token v32_number v32_good (va_up a33 (v32_clauses : Int32).toNatClampNeg x1) (va_up a34 (v32_clauses : Int32).toNatClampNeg x2) (va_up a35 (v32_clauses : Int32).toNatClampNeg v32_length) a36)) hw 5 35 dX6_readClause_95 rfl rfl g9 rfl ?_
  refine E.aload_n 0 dX6_readClause_96 rfl ?_
  refine E.dup dX6_readClause_97 rfl ?_
  refine E.get hw 2 32 dX6_readClause_98 flX6_34 rfl rfl rfl rfl ?_
  refine E.iconst (v := 1) dX6_readClause_101 (by decide) ?_
  refine E.iadd dX6_readClause_102 ?_
  refine E.put (es' := (wW85 G b v30_length a31 (v32_clauses + 1) v32_length v32_parts v32_start v32_behind v32_token v32_number v32_good (va_up a33 (v32_clauses : Int32).toNatClampNeg x1) (va_up a34 (v32_clauses : Int32).toNatClampNeg x2) (va_up a35 (v32_clauses : Int32).toNatClampNeg v32_length) a36)) hw 2 32 dX6_readClause_103 flX6_34 ftX6 rfl rfl rfl rfl rfl rfl (Nat.le_of_ble_eq_true rfl) rfl ?_
  refine E.iconst (v := 1) dX6_readClause_106 (by decide) ?_
  cases hf
  exact E.zret dX6_readClause_107 rfl (Nat.le_refl _) (Nat.le_refl _) (pD_rf _ _ _)
def fX6_readClause (Fu : Nat) (v30_length : Int32) (a31 : Nat → Int32) (v32_clauses : Int32) (v32_length : Int32) (v32_parts : Int32) (v32_start : Int32) (v32_behind : Int32) (v32_token : Int32) (v32_number : Int32) (a33 : Nat → Int32) (a34 : Nat → Int32) (a35 : Nat → Int32) (a36 : Nat → Int32) : Option (Int32 × Int32 × Int32 × Int32 × Int32 × Int32 × Int32 × Int32 × (Nat → Int32) × (Nat → Int32) × (Nat → Int32) × (Nat → Int32)) := (fX6_headRead Fu a31 v32_start v32_behind v32_token).bind fun r1 => (if (r1 : Int32) = ((-1 : Int32) : Int32) then (some (0, v32_clauses, v32_length, v32_parts, v32_start, v32_behind, v32_token, v32_number, a33, a34, a35, a36)) else (if (v32_clauses : Int32) < (12 : Int32) then ((fX6_advance Fu v30_length a31 v32_start v32_behind v32_token v32_number).bind fun r2 => ((fX6_readSumK Fu v30_length a31 v32_length v32_parts r2.1 r2.2.1 r2.2.2.1 r2.2.2.2 a36 0).bind fun r3 => (if (r3.1 : Int32) = (0 : Int32) then (some (0, v32_clauses, r3.2.1, r3.2.2.1, r3.2.2.2.1, r3.2.2.2.2.1, r3.2.2.2.2.2.1, r3.2.2.2.2.2.2.1, a33, a34, a35, r3.2.2.2.2.2.2.2)) else ((fX6_isWord Fu 13 a31 r3.2.2.2.1 r3.2.2.2.2.1 r3.2.2.2.2.2.1).bind fun r4 => (if (r4 : Int32) = (0 : Int32) then (fX6_readClause_L63 Fu v30_length a31 v32_clauses r3.2.1 r3.2.2.1 r3.2.2.2.1 r3.2.2.2.2.1 r3.2.2.2.2.2.1 r3.2.2.2.2.2.2.1 a33 a34 a35 r3.2.2.2.2.2.2.2 r1 r3.2.1) else ((fX6_advance Fu v30_length a31 r3.2.2.2.1 r3.2.2.2.2.1 r3.2.2.2.2.2.1 r3.2.2.2.2.2.2.1).bind fun r5 => ((fX6_readTestK Fu v30_length a31 r3.2.1 r3.2.2.1 r5.1 r5.2.1 r5.2.2.1 r5.2.2.2 r3.2.2.2.2.2.2.2 0).bind fun r6 => (if (r6.1 : Int32) = (0 : Int32) then (some (0, v32_clauses, r6.2.1, r6.2.2.1, r6.2.2.2.1, r6.2.2.2.2.1, r6.2.2.2.2.2.1, r6.2.2.2.2.2.2.1, a33, a34, a35, r6.2.2.2.2.2.2.2)) else (fX6_readClause_L63 Fu v30_length a31 v32_clauses r6.2.1 r6.2.2.1 r6.2.2.2.1 r6.2.2.2.2.1 r6.2.2.2.2.2.1 r6.2.2.2.2.2.2.1 a33 a34 a35 r6.2.2.2.2.2.2.2 r1 r3.2.1))))))))) else (some (0, v32_clauses, v32_length, v32_parts, v32_start, v32_behind, v32_token, v32_number, a33, a34, a35, a36))))
set_option maxHeartbeats 4000000 in
set_option maxRecDepth 100000 in
theorem tX6_readClause {G : GT} {b : Nat} {c0 : Hp} {n : Nat} (hw : e_wf (kW85) n) {v32_good : Int32} {Fu : Nat} {v30_length : Int32} {a31 : Nat → Int32} {v32_clauses : Int32} {v32_length : Int32} {v32_parts : Int32} {v32_start : Int32} {v32_behind : Int32} {v32_token : Int32} {v32_number : Int32} {a33 : Nat → Int32} {a34 : Nat → Int32} {a35 : Nat → Int32} {a36 : Nat → Int32} {R : Int32 × Int32 × Int32 × Int32 × Int32 × Int32 × Int32 × Int32 × (Nat → Int32) × (Nat → Int32) × (Nat → Int32) × (Nat → Int32)} (hf : fX6_readClause Fu v30_length a31 v32_clauses v32_length v32_parts v32_start v32_behind v32_token v32_number a33 a34 a35 a36 = some R) : E G b yX6_readClause cX6_readClause 3 (some .boolean) (e_rm 91 0 0) e_X0 (e_Z G b (pD (some (.int R.1)) (e_ov (kW85) (wW85 G b v30_length a31 R.2.1 R.2.2.1 R.2.2.2.1 R.2.2.2.2.1 R.2.2.2.2.2.1 R.2.2.2.2.2.2.1 R.2.2.2.2.2.2.2.1 v32_good R.2.2.2.2.2.2.2.2.1 R.2.2.2.2.2.2.2.2.2.1 R.2.2.2.2.2.2.2.2.2.2.1 R.2.2.2.2.2.2.2.2.2.2.2) c0) n) 0 0) 0 [(0, .ref (b + 32))] [] (e_ov (kW85) (wW85 G b v30_length a31 v32_clauses v32_length v32_parts v32_start v32_behind v32_token v32_number v32_good a33 a34 a35 a36) c0) n 0 0 := by
  unfold fX6_readClause at hf
  refine E.aload_n 0 dX6_readClause_0 rfl ?_
  obtain ⟨r1, hc1, hf⟩ := e_bind hf
  refine E.callVDs (es' := (wW85 G b v30_length a31 v32_clauses v32_length v32_parts v32_start v32_behind v32_token v32_number v32_good a33 a34 a35 a36)) [] [0, 1, 2] 2 32 dX6_readClause_1 mlX6_108 hw rfl rfl rfl rfl (mX6_headRead (hw.pick2 [0, 1, 2] rfl (by decide)) hc1) rfl rfl rfl rfl ⟨Nat.le_of_ble_eq_true rfl, Nat.le_of_ble_eq_true rfl⟩ rfl rfl (Nat.le_of_ble_eq_true rfl) ⟨Nat.le_refl _, Nat.le_refl _⟩ rfl ?_
  refine E.istore_n (lv' := [(1, .int r1), (0, .ref (b + 32))]) dX6_readClause_4 (by decide) rfl ?_
  refine E.iload_n 0 dX6_readClause_5 rfl ?_
  refine E.iconst (v := -1) dX6_readClause_6 (by decide) ?_
  refine E.icmp_eq dX6_readClause_7 (fun h => ?_) (fun h => ?_)
  · have hf := e_ift hf h
    refine E.iconst (v := 0) dX6_readClause_19 (by decide) ?_
    cases hf
    exact E.zret dX6_readClause_20 rfl (Nat.le_refl _) (Nat.le_refl _) (pD_rf _ _ _)
  · have hf := e_iff hf h
    refine E.aload_n 1 dX6_readClause_10 rfl ?_
    refine E.get hw 2 32 dX6_readClause_11 flX6_34 rfl rfl rfl rfl ?_
    refine E.bipush (v := 12) dX6_readClause_14 (by decide) ?_
    refine E.icmp_lt dX6_readClause_16 (fun h => ?_) (fun h => ?_)
    · have hf := e_ift hf h
      refine E.aload_n 1 dX6_readClause_21 rfl ?_
      obtain ⟨r2, hc2, hf⟩ := e_bind hf
      refine E.callVDs (es' := (wW85 G b v30_length a31 v32_clauses v32_length v32_parts r2.1 r2.2.1 r2.2.2.1 r2.2.2.2 v32_good a33 a34 a35 a36)) [] [0, 1, 2] 2 32 dX6_readClause_22 mlX6_47 hw rfl rfl rfl rfl (mX6_advance (hw.pick2 [0, 1, 2] rfl (by decide)) hc2) rfl rfl rfl rfl ⟨Nat.le_of_ble_eq_true rfl, Nat.le_of_ble_eq_true rfl⟩ rfl rfl (Nat.le_of_ble_eq_true rfl) ⟨Nat.le_refl _, Nat.le_refl _⟩ rfl ?_
      refine E.aload_n 1 dX6_readClause_25 rfl ?_
      refine E.iconst (v := 0) dX6_readClause_26 (by decide) ?_
      obtain ⟨r3, hc3, hf⟩ := e_bind hf
      refine E.callVDs (es' := (wW85 G b v30_length a31 v32_clauses r3.2.1 r3.2.2.1 r3.2.2.2.1 r3.2.2.2.2.1 r3.2.2.2.2.2.1 r3.2.2.2.2.2.2.1 v32_good a33 a34 a35 r3.2.2.2.2.2.2.2)) [] [0, 1, 2, 6] 2 32 dX6_readClause_27 mlX6_111 hw rfl rfl rfl rfl (mX6_readSumK (hw.pick2 [0, 1, 2, 6] rfl (by decide)) hc3) rfl rfl rfl rfl ⟨Nat.le_of_ble_eq_true rfl, Nat.le_of_ble_eq_true rfl⟩ rfl rfl (Nat.le_of_ble_eq_true rfl) ⟨Nat.le_refl _, Nat.le_refl _⟩ rfl ?_
      refine E.if_ne dX6_readClause_30 (fun h => ?_) (fun h => ?_)
      · have hf := e_iff hf h
        refine E.aload_n 1 dX6_readClause_35 rfl ?_
        refine E.get hw 2 32 dX6_readClause_36 flX6_38 rfl rfl rfl rfl ?_
        refine E.istore_n (lv' := [(2, .int r3.2.1), (1, .int r1), (0, .ref (b + 32))]) dX6_readClause_39 (by decide) rfl ?_
        refine E.aload_n 2 dX6_readClause_40 rfl ?_
        refine E.ldcS 13 (by decide) dX6_readClause_41 rfl rfl ?_
        obtain ⟨r4, hc4, hf⟩ := e_bind hf
        refine E.callVDs (es' := (wW85 G b v30_length a31 v32_clauses r3.2.1 r3.2.2.1 r3.2.2.2.1 r3.2.2.2.2.1 r3.2.2.2.2.2.1 r3.2.2.2.2.2.2.1 v32_good a33 a34 a35 r3.2.2.2.2.2.2.2)) [] [0, 1, 2] 2 32 dX6_readClause_43 mlX6_116 hw rfl rfl rfl rfl (mX6_isWord (hw.pick2 [0, 1, 2] rfl (by decide)) (by decide) hc4) rfl rfl rfl rfl ⟨Nat.le_of_ble_eq_true rfl, Nat.le_of_ble_eq_true rfl⟩ rfl rfl (Nat.le_of_ble_eq_true rfl) ⟨Nat.le_refl _, Nat.le_refl _⟩ rfl ?_
        refine E.if_eq dX6_readClause_46 (fun h => ?_) (fun h => ?_)
        · have hf := e_ift hf h
          refine E.locals [2, 1, 0] rfl ?_
          exact tX6_readClause_L63 hw hf
        · have hf := e_iff hf h
          refine E.aload_n 2 dX6_readClause_49 rfl ?_
          obtain ⟨r5, hc5, hf⟩ := e_bind hf
          refine E.callVDs (es' := (wW85 G b v30_length a31 v32_clauses r3.2.1 r3.2.2.1 r5.1 r5.2.1 r5.2.2.1 r5.2.2.2 v32_good a33 a34 a35 r3.2.2.2.2.2.2.2)) [] [0, 1, 2] 2 32 dX6_readClause_50 mlX6_47 hw rfl rfl rfl rfl (mX6_advance (hw.pick2 [0, 1, 2] rfl (by decide)) hc5) rfl rfl rfl rfl ⟨Nat.le_of_ble_eq_true rfl, Nat.le_of_ble_eq_true rfl⟩ rfl rfl (Nat.le_of_ble_eq_true rfl) ⟨Nat.le_refl _, Nat.le_refl _⟩ rfl ?_
          refine E.aload_n 2 dX6_readClause_53 rfl ?_
          refine E.iconst (v := 0) dX6_readClause_54 (by decide) ?_
          obtain ⟨r6, hc6, hf⟩ := e_bind hf
          refine E.callVDs (es' := (wW85 G b v30_length a31 v32_clauses r6.2.1 r6.2.2.1 r6.2.2.2.1 r6.2.2.2.2.1 r6.2.2.2.2.2.1 r6.2.2.2.2.2.2.1 v32_good a33 a34 a35 r6.2.2.2.2.2.2.2)) [] [0, 1, 2, 6] 2 32 dX6_readClause_55 mlX6_120 hw rfl rfl rfl rfl (mX6_readTestK (hw.pick2 [0, 1, 2, 6] rfl (by decide)) hc6) rfl rfl rfl rfl ⟨Nat.le_of_ble_eq_true rfl, Nat.le_of_ble_eq_true rfl⟩ rfl rfl (Nat.le_of_ble_eq_true rfl) ⟨Nat.le_refl _, Nat.le_refl _⟩ rfl ?_
          refine E.if_ne dX6_readClause_58 (fun h => ?_) (fun h => ?_)
          · have hf := e_iff hf h
            refine E.locals [2, 1, 0] rfl ?_
            exact tX6_readClause_L63 hw hf
          · have hf := e_ift hf h
            refine E.iconst (v := 0) dX6_readClause_61 (by decide) ?_
            cases hf
            exact E.zret dX6_readClause_62 rfl (Nat.le_refl _) (Nat.le_refl _) (pD_rf _ _ _)
      · have hf := e_ift hf h
        refine E.iconst (v := 0) dX6_readClause_33 (by decide) ?_
        cases hf
        exact E.zret dX6_readClause_34 rfl (Nat.le_refl _) (Nat.le_refl _) (pD_rf _ _ _)
    · have hf := e_iff hf h
      refine E.iconst (v := 0) dX6_readClause_19 (by decide) ?_
      cases hf
      exact E.zret dX6_readClause_20 rfl (Nat.le_refl _) (Nat.le_refl _) (pD_rf _ _ _)
set_option maxRecDepth 100000 in
theorem mX6_readClause {G : GT} {b : Nat} {c0 : Hp} {n : Nat} (hw : e_wf (kW85) n) {v32_good : Int32} {Fu : Nat} {v30_length : Int32} {a31 : Nat → Int32} {v32_clauses : Int32} {v32_length : Int32} {v32_parts : Int32} {v32_start : Int32} {v32_behind : Int32} {v32_token : Int32} {v32_number : Int32} {a33 : Nat → Int32} {a34 : Nat → Int32} {a35 : Nat → Int32} {a36 : Nat → Int32} {R : Int32 × Int32 × Int32 × Int32 × Int32 × Int32 × Int32 × Int32 × (Nat → Int32) × (Nat → Int32) × (Nat → Int32) × (Nat → Int32)} (hf : fX6_readClause Fu v30_length a31 v32_clauses v32_length v32_parts v32_start v32_behind v32_token v32_number a33 a34 a35 a36 = some R) : e_C G b yX6_readClause cX6_readClause 3 (some .boolean) 91 0 0 [.ref (b + 32)] (e_ov (kW85) (wW85 G b v30_length a31 v32_clauses v32_length v32_parts v32_start v32_behind v32_token v32_number v32_good a33 a34 a35 a36) c0) n (pD (some (.int R.1)) (e_ov (kW85) (wW85 G b v30_length a31 R.2.1 R.2.2.1 R.2.2.2.1 R.2.2.2.2.1 R.2.2.2.2.2.1 R.2.2.2.2.2.2.1 R.2.2.2.2.2.2.2.1 v32_good R.2.2.2.2.2.2.2.2.1 R.2.2.2.2.2.2.2.2.2.1 R.2.2.2.2.2.2.2.2.2.2.1 R.2.2.2.2.2.2.2.2.2.2.2) c0) n) := e_C.of (by decide) (Nat.le_of_ble_eq_true rfl) (tX6_readClause hw hf)
