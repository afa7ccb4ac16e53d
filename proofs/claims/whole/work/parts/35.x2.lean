def fX0_push (v37_height : Int32) (a39 : Nat → Int64) (x1 : Int32) : Option (Int32 × (Nat → Int64)) := if (51 : Int32) ≤ (v37_height : Int32) then (some (v37_height, a39)) else (gd v37_height 51 (some ((v37_height + 1), (va_up a39 (v37_height : Int32).toNatClampNeg ((x1 : Int32).toInt64)))))
set_option maxHeartbeats 4000000 in
set_option maxRecDepth 100000 in
theorem tX0_push {G : GT} {b : Nat} {c0 : Hp} {n : Nat} (hw : e_wf (kW28) n) {v37_answer : Int64} {v37_height : Int32} {a39 : Nat → Int64} {x1 : Int32} {R : Int32 × (Nat → Int64)} (hf : fX0_push v37_height a39 x1 = some R) : E G b yX0_push cX0_push 2 none (e_rm 0 0 0) e_X0 (e_Z G b (pD none (e_ov (kW28) (wW28 G b R.1 v37_answer R.2) c0) n) 0 0) 0 [(0, .ref (b + 37)), (1, .int x1)] [] (e_ov (kW28) (wW28 G b v37_height v37_answer a39) c0) n 0 0 := by
  unfold fX0_push at hf
  refine E.aload_n 0 dX0_push_0 rfl ?_
  refine E.get hw 0 37 dX0_push_1 flX0_77 rfl rfl rfl rfl ?_
  refine E.aload_n 0 dX0_push_4 rfl ?_
  refine E.get hw 0 37 dX0_push_5 flX0_17 rfl rfl rfl rfl ?_
  refine E.alen (z := 51) hw 1 39 1 dX0_push_8 rfl rfl rfl rfl ?_
  refine E.icmp_ge dX0_push_9 (fun h => ?_) (fun h => ?_)
  · have hf := e_ift hf h
    cases hf
    exact E.vret dX0_push_33 (Nat.le_refl _) (Nat.le_refl _) (pD_rf _ _ _)
  · have hf := e_iff hf h
    refine E.aload_n 0 dX0_push_12 rfl ?_
    refine E.get hw 0 37 dX0_push_13 flX0_17 rfl rfl rfl rfl ?_
    refine E.aload_n 0 dX0_push_16 rfl ?_
    refine E.get hw 0 37 dX0_push_17 flX0_77 rfl rfl rfl rfl ?_
    refine E.iload_n 1 dX0_push_20 rfl ?_
    refine E.i2l dX0_push_21 ?_
    obtain ⟨g1, hf⟩ := gd_some hf
    refine E.last (es' := (wW28 G b v37_height v37_answer (va_up a39 (v37_height : Int32).toNatClampNeg ((x1 : Int32).toInt64)))) hw 1 39 dX0_push_22 rfl rfl g1 rfl ?_
    refine E.aload_n 0 dX0_push_23 rfl ?_
    refine E.dup dX0_push_24 rfl ?_
    refine E.get hw 0 37 dX0_push_25 flX0_77 rfl rfl rfl rfl ?_
    refine E.iconst (v := 1) dX0_push_28 (by decide) ?_
    refine E.iadd dX0_push_29 ?_
    refine E.put (es' := (wW28 G b (v37_height + 1) v37_answer (va_up a39 (v37_height : Int32).toNatClampNeg ((x1 : Int32).toInt64)))) hw 0 37 dX0_push_30 flX0_77 ftX0 rfl rfl rfl rfl rfl rfl (Nat.le_of_ble_eq_true rfl) rfl ?_
    cases hf
    exact E.vret dX0_push_33 (Nat.le_refl _) (Nat.le_refl _) (pD_rf _ _ _)
set_option maxRecDepth 100000 in
theorem mX0_push {G : GT} {b : Nat} {c0 : Hp} {n : Nat} (hw : e_wf (kW28) n) {v37_answer : Int64} {v37_height : Int32} {a39 : Nat → Int64} {x1 : Int32} {R : Int32 × (Nat → Int64)} (hf : fX0_push v37_height a39 x1 = some R) : e_C G b yX0_push cX0_push 2 none 0 0 0 [.ref (b + 37), .int x1] (e_ov (kW28) (wW28 G b v37_height v37_answer a39) c0) n (pD none (e_ov (kW28) (wW28 G b R.1 v37_answer R.2) c0) n) := e_C.of (by decide) (Nat.le_of_ble_eq_true rfl) (tX0_push hw hf)
abbrev kW29 (q : Nat) : List Nat := [37, 38, 39, q, (q + 4)]
abbrev wW29 (G : GT) (b q ns : Nat) (v37_height : Int32) (v37_answer : Int64) (a38 : Nat → Int32) (a39 : Nat → Int64) (aL4 : Nat → Int32) : List va_E := [.inr (0, [.ref (b + 38), .ref (b + 39), .int v37_height, .long v37_answer]), aI G 10 a38, aJ G 51 a39, .inr (5, [.ref (b + (q + 1)), .ref (b + (q + 2)), .ref (b + (q + 3)), .ref (b + (q + 4))]), aI G ns aL4]
def fX0_follow_L_L244 (Fu : Nat) (ns : Nat) (v37_height : Int32) (a38 : Nat → Int32) (a39 : Nat → Int64) (aL4 : Nat → Int32) : Option (Int32 × Int32 × (Nat → Int64)) := if (v37_height : Int32) = (1 : Int32) then (some (1, v37_height, a39)) else (some (0, v37_height, a39))
set_option maxHeartbeats 4000000 in
set_option maxRecDepth 100000 in
theorem tX0_follow_L_L244 {G : GT} {b : Nat} {q ns : Nat} {c0 : Hp} {n : Nat} (hw : e_wf (kW29 q) n) {v37_answer : Int64} {Fu : Nat} {v37_height : Int32} {a38 : Nat → Int32} {a39 : Nat → Int64} {aL4 : Nat → Int32} {R : Int32 × Int32 × (Nat → Int64)} (hf : fX0_follow_L_L244 Fu ns v37_height a38 a39 aL4 = some R) : E G b yX0_follow cX0_follow 8 (some .boolean) (e_rm 1 0 0) e_X0 (e_Z G b (pD (some (.int R.1)) (e_ov (kW29 q) (wW29 G b q ns R.2.1 v37_answer a38 R.2.2 aL4) c0) n) 0 0) 244 [(0, .ref (b + 37))] [] (e_ov (kW29 q) (wW29 G b q ns v37_height v37_answer a38 a39 aL4) c0) n 0 0 := by
  unfold fX0_follow_L_L244 at hf
  refine E.aload_n 0 dX0_follow_244 rfl ?_
  refine E.get hw 0 37 dX0_follow_245 flX0_77 rfl rfl rfl rfl ?_
  refine E.iconst (v := 1) dX0_follow_248 (by decide) ?_
  refine E.icmp_ne dX0_follow_249 (fun h => ?_) (fun h => ?_)
  · have hf := e_iff hf h
    refine E.iconst (v := 0) dX0_follow_256 (by decide) ?_
    cases hf
    exact E.zret dX0_follow_257 rfl (Nat.le_refl _) (Nat.le_refl _) (pD_rf _ _ _)
  · have hf := e_ift hf h
    refine E.iconst (v := 1) dX0_follow_252 (by decide) ?_
    refine E.goto dX0_follow_253 ?_
    cases hf
    exact E.zret dX0_follow_257 rfl (Nat.le_refl _) (Nat.le_refl _) (pD_rf _ _ _)
def fX0_follow_L_L193 (Fu : Nat) (ns : Nat) (k8 : Int32 → (Nat → Int32) → (Nat → Int64) → (Nat → Int32) → Int32 → Int32 → Option (Int32 × Int32 × (Nat → Int64))) (v37_height : Int32) (a38 : Nat → Int32) (a39 : Nat → Int64) (aL4 : Nat → Int32) (x3 : Int32) (x4 : Int32) (x6 : Int32) (s0 : Int32) : Option (Int32 × Int32 × (Nat → Int64)) := if (s0 : Int32) = (0 : Int32) then (k8 (v37_height - 1) a38 a39 aL4 x3 (x4 + 1)) else (k8 v37_height a38 a39 aL4 x3 ((if (x4 : Int32) < (x6 - 1) then (x6 - 1) else x4) + 1))
set_option maxHeartbeats 4000000 in
set_option maxRecDepth 100000 in
theorem tX0_follow_L_L193 {G : GT} {b : Nat} {q ns : Nat} {c0 : Hp} {n : Nat} (hw : e_wf (kW29 q) n) {v37_answer : Int64} {Fu : Nat} {k8 : Int32 → (Nat → Int32) → (Nat → Int64) → (Nat → Int32) → Int32 → Int32 → Option (Int32 × Int32 × (Nat → Int64))} (hk8 : ∀ {v37_height : Int32} {a38 : Nat → Int32} {a39 : Nat → Int64} {aL4 : Nat → Int32} {x3 : Int32} {x4 : Int32} {R : Int32 × Int32 × (Nat → Int64)}, k8 v37_height a38 a39 aL4 x3 x4 = some R → E G b yX0_follow cX0_follow 8 (some .boolean) (e_rm 1 0 0) e_X0 (e_Z G b (pD (some (.int R.1)) (e_ov (kW29 q) (wW29 G b q ns R.2.1 v37_answer a38 R.2.2 aL4) c0) n) 0 0) 8 [(0, .ref (b + 37)), (1, .ref (b + q)), (3, .int x3), (4, .int x4)] [] (e_ov (kW29 q) (wW29 G b q ns v37_height v37_answer a38 a39 aL4) c0) n 0 0) {v37_height : Int32} {a38 : Nat → Int32} {a39 : Nat → Int64} {aL4 : Nat → Int32} {x3 : Int32} {x4 : Int32} {x6 : Int32} {s0 : Int32} {R : Int32 × Int32 × (Nat → Int64)} (hf : fX0_follow_L_L193 Fu ns k8 v37_height a38 a39 aL4 x3 x4 x6 s0 = some R) : E G b yX0_follow cX0_follow 8 (some .boolean) (e_rm 1 0 0) e_X0 (e_Z G b (pD (some (.int R.1)) (e_ov (kW29 q) (wW29 G b q ns R.2.1 v37_answer a38 R.2.2 aL4) c0) n) 0 0) 193 [(0, .ref (b + 37)), (1, .ref (b + q)), (3, .int x3), (4, .int x4), (6, .int x6)] [.int s0] (e_ov (kW29 q) (wW29 G b q ns v37_height v37_answer a38 a39 aL4) c0) n 0 0 := by
  unfold fX0_follow_L_L193 at hf
  refine E.istore (lv' := [(7, .int s0), (0, .ref (b + 37)), (1, .ref (b + q)), (3, .int x3), (4, .int x4), (6, .int x6)]) dX0_follow_193 (by decide) rfl ?_
  refine E.iload 0 dX0_follow_195 rfl ?_
  refine E.if_eq dX0_follow_197 (fun h => ?_) (fun h => ?_)
  · have hf := e_ift hf h
    refine E.aload_n 1 dX0_follow_214 rfl ?_
    refine E.dup dX0_follow_215 rfl ?_
    refine E.get hw 0 37 dX0_follow_216 flX0_77 rfl rfl rfl rfl ?_
    refine E.iconst (v := 1) dX0_follow_219 (by decide) ?_
    refine E.isub dX0_follow_220 ?_
    refine E.put (es' := (wW29 G b q ns (v37_height - 1) v37_answer a38 a39 aL4)) hw 0 37 dX0_follow_221 flX0_77 ftX0 rfl rfl rfl rfl rfl rfl (Nat.le_of_ble_eq_true rfl) rfl ?_
    refine E.goto dX0_follow_224 ?_
    refine E.iinc (q := 4) (v := (x4 + 1)) (lv' := [(4, .int (x4 + 1)), (7, .int s0), (0, .ref (b + 37)), (1, .ref (b + q)), (3, .int x3), (6, .int x6)]) dX0_follow_238 rfl rfl (by decide) rfl ?_
    refine E.goto dX0_follow_241 ?_
    refine E.locals [2, 3, 4, 0] rfl ?_
    exact hk8 hf
  · have hf := e_iff hf h
    refine E.iload 4 dX0_follow_200 rfl ?_
    refine E.iload 5 dX0_follow_202 rfl ?_
    refine E.iconst (v := 1) dX0_follow_204 (by decide) ?_
    refine E.isub dX0_follow_205 ?_
    refine E.mmax dX0_follow_206 mmX0_88 ⟨Nat.le_of_ble_eq_true rfl, Nat.le_of_ble_eq_true rfl⟩ ⟨Nat.le_refl _, Nat.le_refl _⟩ ?_
    refine E.istore (lv' := [(4, .int (if (x4 : Int32) < (x6 - 1) then (x6 - 1) else x4)), (7, .int s0), (0, .ref (b + 37)), (1, .ref (b + q)), (3, .int x3), (6, .int x6)]) dX0_follow_209 (by decide) rfl ?_
    refine E.goto dX0_follow_211 ?_
    refine E.goto dX0_follow_224 ?_
    refine E.iinc (q := 0) (v := ((if (x4 : Int32) < (x6 - 1) then (x6 - 1) else x4) + 1)) (lv' := [(4, .int ((if (x4 : Int32) < (x6 - 1) then (x6 - 1) else x4) + 1)), (7, .int s0), (0, .ref (b + 37)), (1, .ref (b + q)), (3, .int x3), (6, .int x6)]) dX0_follow_238 rfl rfl (by decide) rfl ?_
    refine E.goto dX0_follow_241 ?_
    refine E.locals [2, 3, 4, 0] rfl ?_
    exact hk8 hf
def fX0_follow_L_L185 (Fu : Nat) (ns : Nat) (k8 : Int32 → (Nat → Int32) → (Nat → Int64) → (Nat → Int32) → Int32 → Int32 → Option (Int32 × Int32 × (Nat → Int64))) (v37_height : Int32) (a38 : Nat → Int32) (a39 : Nat → Int64) (aL4 : Nat → Int32) (x3 : Int32) (x4 : Int32) (x6 : Int32) (s0 : Int32) (s1 : Int32) : Option (Int32 × Int32 × (Nat → Int64)) := if (s1 : Int32) = (s0 : Int32) then (fX0_follow_L_L193 Fu ns k8 v37_height a38 a39 aL4 x3 x4 x6 1) else (fX0_follow_L_L193 Fu ns k8 v37_height a38 a39 aL4 x3 x4 x6 0)
set_option maxHeartbeats 4000000 in
set_option maxRecDepth 100000 in
theorem tX0_follow_L_L185 {G : GT} {b : Nat} {q ns : Nat} {c0 : Hp} {n : Nat} (hw : e_wf (kW29 q) n) {v37_answer : Int64} {Fu : Nat} {k8 : Int32 → (Nat → Int32) → (Nat → Int64) → (Nat → Int32) → Int32 → Int32 → Option (Int32 × Int32 × (Nat → Int64))} (hk8 : ∀ {v37_height : Int32} {a38 : Nat → Int32} {a39 : Nat → Int64} {aL4 : Nat → Int32} {x3 : Int32} {x4 : Int32} {R : Int32 × Int32 × (Nat → Int64)}, k8 v37_height a38 a39 aL4 x3 x4 = some R → E G b yX0_follow cX0_follow 8 (some .boolean) (e_rm 1 0 0) e_X0 (e_Z G b (pD (some (.int R.1)) (e_ov (kW29 q) (wW29 G b q ns R.2.1 v37_answer a38 R.2.2 aL4) c0) n) 0 0) 8 [(0, .ref (b + 37)), (1, .ref (b + q)), (3, .int x3), (4, .int x4)] [] (e_ov (kW29 q) (wW29 G b q ns v37_height v37_answer a38 a39 aL4) c0) n 0 0) {v37_height : Int32} {a38 : Nat → Int32} {a39 : Nat → Int64} {aL4 : Nat → Int32} {x3 : Int32} {x4 : Int32} {x6 : Int32} {s0 : Int32} {s1 : Int32} {R : Int32 × Int32 × (Nat → Int64)} (hf : fX0_follow_L_L185 Fu ns k8 v37_height a38 a39 aL4 x3 x4 x6 s0 s1 = some R) : E G b yX0_follow cX0_follow 8 (some .boolean) (e_rm 1 0 0) e_X0 (e_Z G b (pD (some (.int R.1)) (e_ov (kW29 q) (wW29 G b q ns R.2.1 v37_answer a38 R.2.2 aL4) c0) n) 0 0) 185 [(0, .ref (b + 37)), (1, .ref (b + q)), (3, .int x3), (4, .int x4), (6, .int x6)] [.int s0, .int s1] (e_ov (kW29 q) (wW29 G b q ns v37_height v37_answer a38 a39 aL4) c0) n 0 0 := by
  unfold fX0_follow_L_L185 at hf
  refine E.icmp_ne dX0_follow_185 (fun h => ?_) (fun h => ?_)
  · have hf := e_iff hf h
    refine E.iconst (v := 0) dX0_follow_192 (by decide) ?_
    exact tX0_follow_L_L193 hw hk8 hf
  · have hf := e_ift hf h
    refine E.iconst (v := 1) dX0_follow_188 (by decide) ?_
    refine E.goto dX0_follow_189 ?_
    exact tX0_follow_L_L193 hw hk8 hf
def fX0_follow_L_L173 (Fu : Nat) (ns : Nat) (k8 : Int32 → (Nat → Int32) → (Nat → Int64) → (Nat → Int32) → Int32 → Int32 → Option (Int32 × Int32 × (Nat → Int64))) (v37_height : Int32) (a38 : Nat → Int32) (a39 : Nat → Int64) (aL4 : Nat → Int32) (x3 : Int32) (x4 : Int32) (x5 : Int32) (x6 : Int32) (s0 : Int32) : Option (Int32 × Int32 × (Nat → Int64)) := if (x5 : Int32) = (10 : Int32) then (fX0_follow_L_L185 Fu ns k8 v37_height a38 a39 aL4 x3 x4 x6 1 s0) else (fX0_follow_L_L185 Fu ns k8 v37_height a38 a39 aL4 x3 x4 x6 0 s0)
set_option maxHeartbeats 4000000 in
set_option maxRecDepth 100000 in
theorem tX0_follow_L_L173 {G : GT} {b : Nat} {q ns : Nat} {c0 : Hp} {n : Nat} (hw : e_wf (kW29 q) n) {v37_answer : Int64} {Fu : Nat} {k8 : Int32 → (Nat → Int32) → (Nat → Int64) → (Nat → Int32) → Int32 → Int32 → Option (Int32 × Int32 × (Nat → Int64))} (hk8 : ∀ {v37_height : Int32} {a38 : Nat → Int32} {a39 : Nat → Int64} {aL4 : Nat → Int32} {x3 : Int32} {x4 : Int32} {R : Int32 × Int32 × (Nat → Int64)}, k8 v37_height a38 a39 aL4 x3 x4 = some R → E G b yX0_follow cX0_follow 8 (some .boolean) (e_rm 1 0 0) e_X0 (e_Z G b (pD (some (.int R.1)) (e_ov (kW29 q) (wW29 G b q ns R.2.1 v37_answer a38 R.2.2 aL4) c0) n) 0 0) 8 [(0, .ref (b + 37)), (1, .ref (b + q)), (3, .int x3), (4, .int x4)] [] (e_ov (kW29 q) (wW29 G b q ns v37_height v37_answer a38 a39 aL4) c0) n 0 0) {v37_height : Int32} {a38 : Nat → Int32} {a39 : Nat → Int64} {aL4 : Nat → Int32} {x3 : Int32} {x4 : Int32} {x5 : Int32} {x6 : Int32} {s0 : Int32} {R : Int32 × Int32 × (Nat → Int64)} (hf : fX0_follow_L_L173 Fu ns k8 v37_height a38 a39 aL4 x3 x4 x5 x6 s0 = some R) : E G b yX0_follow cX0_follow 8 (some .boolean) (e_rm 1 0 0) e_X0 (e_Z G b (pD (some (.int R.1)) (e_ov (kW29 q) (wW29 G b q ns R.2.1 v37_answer a38 R.2.2 aL4) c0) n) 0 0) 173 [(0, .ref (b + 37)), (1, .ref (b + q)), (3, .int x3), (4, .int x4), (5, .int x5), (6, .int x6)] [.int s0] (e_ov (kW29 q) (wW29 G b q ns v37_height v37_answer a38 a39 aL4) c0) n 0 0 := by
  unfold fX0_follow_L_L173 at hf
  refine E.iload 4 dX0_follow_173 rfl ?_
  refine E.bipush (v := 10) dX0_follow_175 (by decide) ?_
  refine E.icmp_ne dX0_follow_177 (fun h => ?_) (fun h => ?_)
  · have hf := e_iff hf h
    refine E.iconst (v := 0) dX0_follow_184 (by decide) ?_
    refine E.locals [0, 1, 2, 3, 5] rfl ?_
    exact tX0_follow_L_L185 hw hk8 hf
  · have hf := e_ift hf h
    refine E.iconst (v := 1) dX0_follow_180 (by decide) ?_
    refine E.goto dX0_follow_181 ?_
    refine E.locals [0, 1, 2, 3, 5] rfl ?_
    exact tX0_follow_L_L185 hw hk8 hf
def fX0_follow_L_L152 (Fu : Nat) (ns : Nat) (k8 : Int32 → (Nat → Int32) → (Nat → Int64) → (Nat → Int32) → Int32 → Int32 → Option (Int32 × Int32 × (Nat → Int64))) (v37_height : Int32) (a38 : Nat → Int32) (a39 : Nat → Int64) (aL4 : Nat → Int32) (x3 : Int32) (x4 : Int32) (x5 : Int32) (x6 : Int32) : Option (Int32 × Int32 × (Nat → Int64)) := gd (v37_height - 1) 51 (if ((a39 ((v37_height - 1) : Int32).toNatClampNeg) : Int64) = (1 : Int64) then (fX0_follow_L_L173 Fu ns k8 v37_height a38 a39 aL4 x3 x4 x5 x6 1) else (fX0_follow_L_L173 Fu ns k8 v37_height a38 a39 aL4 x3 x4 x5 x6 0))
set_option maxHeartbeats 4000000 in
set_option maxRecDepth 100000 in
theorem tX0_follow_L_L152 {G : GT} {b : Nat} {q ns : Nat} {c0 : Hp} {n : Nat} (hw : e_wf (kW29 q) n) {v37_answer : Int64} {Fu : Nat} {k8 : Int32 → (Nat → Int32) → (Nat → Int64) → (Nat → Int32) → Int32 → Int32 → Option (Int32 × Int32 × (Nat → Int64))} (hk8 : ∀ {v37_height : Int32} {a38 : Nat → Int32} {a39 : Nat → Int64} {aL4 : Nat → Int32} {x3 : Int32} {x4 : Int32} {R : Int32 × Int32 × (Nat → Int64)}, k8 v37_height a38 a39 aL4 x3 x4 = some R → E G b yX0_follow cX0_follow 8 (some .boolean) (e_rm 1 0 0) e_X0 (e_Z G b (pD (some (.int R.1)) (e_ov (kW29 q) (wW29 G b q ns R.2.1 v37_answer a38 R.2.2 aL4) c0) n) 0 0) 8 [(0, .ref (b + 37)), (1, .ref (b + q)), (3, .int x3), (4, .int x4)] [] (e_ov (kW29 q) (wW29 G b q ns v37_height v37_answer a38 a39 aL4) c0) n 0 0) {v37_height : Int32} {a38 : Nat → Int32} {a39 : Nat → Int64} {aL4 : Nat → Int32} {x3 : Int32} {x4 : Int32} {x5 : Int32} {x6 : Int32} {R : Int32 × Int32 × (Nat → Int64)} (hf : fX0_follow_L_L152 Fu ns k8 v37_height a38 a39 aL4 x3 x4 x5 x6 = some R) : E G b yX0_follow cX0_follow 8 (some .boolean) (e_rm 1 0 0) e_X0 (e_Z G b (pD (some (.int R.1)) (e_ov (kW29 q) (wW29 G b q ns R.2.1 v37_answer a38 R.2.2 aL4) c0) n) 0 0) 152 [(0, .ref (b + 37)), (1, .ref (b + q)), (3, .int x3), (4, .int x4), (5, .int x5), (6, .int x6)] [] (e_ov (kW29 q) (wW29 G b q ns v37_height v37_answer a38 a39 aL4) c0) n 0 0 := by
  unfold fX0_follow_L_L152 at hf
  refine E.aload_n 0 dX0_follow_152 rfl ?_
  refine E.get hw 0 37 dX0_follow_153 flX0_17 rfl rfl rfl rfl ?_
  refine E.aload_n 0 dX0_follow_156 rfl ?_
  refine E.get hw 0 37 dX0_follow_157 flX0_77 rfl rfl rfl rfl ?_
  refine E.iconst (v := 1) dX0_follow_160 (by decide) ?_
  refine E.isub dX0_follow_161 ?_
  obtain ⟨g10, hf⟩ := gd_some hf
  refine E.lald hw 2 39 dX0_follow_162 rfl rfl g10 ?_
  refine E.lconst (v := 1) dX0_follow_163 (by decide) ?_
  refine E.lc_ne dX0_follow_164 dX0_follow_165 (fun h => ?_) (fun h => ?_)
  · have hf := e_iff hf h
    refine E.iconst (v := 0) dX0_follow_172 (by decide) ?_
    exact tX0_follow_L_L173 hw hk8 hf
  · have hf := e_ift hf h
    refine E.iconst (v := 1) dX0_follow_168 (by decide) ?_
    refine E.goto dX0_follow_169 ?_
    exact tX0_follow_L_L173 hw hk8 hf
def fX0_follow_L_L89 (Fu : Nat) (ns : Nat) (k8 : Int32 → (Nat → Int32) → (Nat → Int64) → (Nat → Int32) → Int32 → Int32 → Option (Int32 × Int32 × (Nat → Int64))) (v37_height : Int32) (a38 : Nat → Int32) (a39 : Nat → Int64) (aL4 : Nat → Int32) (x3 : Int32) (x4 : Int32) (s0 : Int32) : Option (Int32 × Int32 × (Nat → Int64)) := (fX0_push v37_height a39 s0).bind fun r11 => (k8 r11.1 a38 r11.2 aL4 x3 (x4 + 1))
set_option maxHeartbeats 4000000 in
set_option maxRecDepth 100000 in
theorem tX0_follow_L_L89 {G : GT} {b : Nat} {q ns : Nat} {c0 : Hp} {n : Nat} (hw : e_wf (kW29 q) n) {v37_answer : Int64} {Fu : Nat} {k8 : Int32 → (Nat → Int32) → (Nat → Int64) → (Nat → Int32) → Int32 → Int32 → Option (Int32 × Int32 × (Nat → Int64))} (hk8 : ∀ {v37_height : Int32} {a38 : Nat → Int32} {a39 : Nat → Int64} {aL4 : Nat → Int32} {x3 : Int32} {x4 : Int32} {R : Int32 × Int32 × (Nat → Int64)}, k8 v37_height a38 a39 aL4 x3 x4 = some R → E G b yX0_follow cX0_follow 8 (some .boolean) (e_rm 1 0 0) e_X0 (e_Z G b (pD (some (.int R.1)) (e_ov (kW29 q) (wW29 G b q ns R.2.1 v37_answer a38 R.2.2 aL4) c0) n) 0 0) 8 [(0, .ref (b + 37)), (1, .ref (b + q)), (3, .int x3), (4, .int x4)] [] (e_ov (kW29 q) (wW29 G b q ns v37_height v37_answer a38 a39 aL4) c0) n 0 0) {v37_height : Int32} {a38 : Nat → Int32} {a39 : Nat → Int64} {aL4 : Nat → Int32} {x3 : Int32} {x4 : Int32} {s0 : Int32} {R : Int32 × Int32 × (Nat → Int64)} (hf : fX0_follow_L_L89 Fu ns k8 v37_height a38 a39 aL4 x3 x4 s0 = some R) : E G b yX0_follow cX0_follow 8 (some .boolean) (e_rm 1 0 0) e_X0 (e_Z G b (pD (some (.int R.1)) (e_ov (kW29 q) (wW29 G b q ns R.2.1 v37_answer a38 R.2.2 aL4) c0) n) 0 0) 89 [(0, .ref (b + 37)), (1, .ref (b + q)), (3, .int x3), (4, .int x4)] [.int s0, .ref (b + 37)] (e_ov (kW29 q) (wW29 G b q ns v37_height v37_answer a38 a39 aL4) c0) n 0 0 := by
  unfold fX0_follow_L_L89 at hf
  obtain ⟨r11, hc11, hf⟩ := e_bind hf
  refine E.callVDs (es' := (wW29 G b q ns r11.1 v37_answer a38 r11.2 aL4)) [] [0, 2] 0 37 dX0_follow_89 mlX0_84 hw rfl rfl rfl rfl (mX0_push (hw.pick2 [0, 2] rfl (by decide)) hc11) rfl rfl rfl rfl ⟨Nat.le_of_ble_eq_true rfl, Nat.le_of_ble_eq_true rfl⟩ rfl rfl (Nat.le_of_ble_eq_true rfl) ⟨Nat.le_refl _, Nat.le_refl _⟩ rfl ?_
  refine E.goto dX0_follow_92 ?_
  refine E.iinc (q := 3) (v := (x4 + 1)) (lv' := [(4, .int (x4 + 1)), (0, .ref (b + 37)), (1, .ref (b + q)), (3, .int x3)]) dX0_follow_238 rfl rfl (by decide) rfl ?_
  refine E.goto dX0_follow_241 ?_
  refine E.locals [1, 2, 3, 0] rfl ?_
  exact hk8 hf
def fX0_follow_L_L8 (Fu : Nat) (ns : Nat) : Nat → Int32 → (Nat → Int32) → (Nat → Int64) → (Nat → Int32) → Int32 → Int32 → Option (Int32 × Int32 × (Nat → Int64))
  | 0, _, _, _, _, _, _ => none
  | k + 1, v37_height, a38, a39, aL4, x3, x4 => if (x3 : Int32) ≤ (x4 : Int32) then (fX0_follow_L_L244 Fu ns v37_height a38 a39 aL4) else (if ((Int32.ofNat ns) : Int32) ≤ (x4 : Int32) then (fX0_follow_L_L244 Fu ns v37_height a38 a39 aL4) else (gd x4 ns (gz 1024 (gd x4 ns (gz 1024 (if (((aL4 (x4 : Int32).toNatClampNeg) / 1024) : Int32) = (0 : Int32) then ((fX0_push v37_height a39 ((aL4 (x4 : Int32).toNatClampNeg) - (aL4 (x4 : Int32).toNatClampNeg) / 1024 * 1024)).bind fun r9 => ((fX0_follow_L_L8 Fu ns k) r9.1 a38 r9.2 aL4 x3 (x4 + 1))) else (if (((aL4 (x4 : Int32).toNatClampNeg) / 1024) : Int32) = (1 : Int32) then (if (10 : Int32) ≤ (((aL4 (x4 : Int32).toNatClampNeg) - (aL4 (x4 : Int32).toNatClampNeg) / 1024 * 1024) : Int32) then (fX0_follow_L_L89 Fu ns (fX0_follow_L_L8 Fu ns k) v37_height a38 a39 aL4 x3 x4 0) else (gd ((aL4 (x4 : Int32).toNatClampNeg) - (aL4 (x4 : Int32).toNatClampNeg) / 1024 * 1024) 10 (fX0_follow_L_L89 Fu ns (fX0_follow_L_L8 Fu ns k) v37_height a38 a39 aL4 x3 x4 (a38 (((aL4 (x4 : Int32).toNatClampNeg) - (aL4 (x4 : Int32).toNatClampNeg) / 1024 * 1024) : Int32).toNatClampNeg)))) else (if (v37_height : Int32) = (0 : Int32) then (some (0, v37_height, a39)) else (if (((aL4 (x4 : Int32).toNatClampNeg) / 1024) : Int32) = (9 : Int32) then (gd (v37_height - 1) 51 (gd (v37_height - 1) 51 ((fX0_follow_L_L8 Fu ns k) v37_height a38 (va_up a39 ((v37_height - 1) : Int32).toNatClampNeg (1 - (a39 ((v37_height - 1) : Int32).toNatClampNeg))) aL4 x3 (x4 + 1)))) else (if (((aL4 (x4 : Int32).toNatClampNeg) / 1024) : Int32) = (10 : Int32) then (fX0_follow_L_L152 Fu ns (fX0_follow_L_L8 Fu ns k) v37_height a38 a39 aL4 x3 x4 ((aL4 (x4 : Int32).toNatClampNeg) / 1024) ((aL4 (x4 : Int32).toNatClampNeg) - (aL4 (x4 : Int32).toNatClampNeg) / 1024 * 1024)) else (if (((aL4 (x4 : Int32).toNatClampNeg) / 1024) : Int32) = (11 : Int32) then (fX0_follow_L_L152 Fu ns (fX0_follow_L_L8 Fu ns k) v37_height a38 a39 aL4 x3 x4 ((aL4 (x4 : Int32).toNatClampNeg) / 1024) ((aL4 (x4 : Int32).toNatClampNeg) - (aL4 (x4 : Int32).toNatClampNeg) / 1024 * 1024)) else ((fX0_combine v37_height a39 ((aL4 (x4 : Int32).toNatClampNeg) / 1024)).bind fun r5 => (if (r5.1 : Int32) = (0 : Int32) then (some (0, r5.2.1, r5.2.2)) else ((fX0_follow_L_L8 Fu ns k) r5.2.1 a38 r5.2.2 aL4 x3 (x4 + 1)))))))))))))))
set_option maxHeartbeats 4000000 in
set_option maxRecDepth 100000 in
theorem tX0_follow_L_L8 {G : GT} {b : Nat} {q ns : Nat} {c0 : Hp} {n : Nat} (hw : e_wf (kW29 q) n) {v37_answer : Int64} {Fu : Nat} : ∀ (k : Nat) {v37_height : Int32} {a38 : Nat → Int32} {a39 : Nat → Int64} {aL4 : Nat → Int32} {x3 : Int32} {x4 : Int32} {R : Int32 × Int32 × (Nat → Int64)}, fX0_follow_L_L8 Fu ns k v37_height a38 a39 aL4 x3 x4 = some R → E G b yX0_follow cX0_follow 8 (some .boolean) (e_rm 1 0 0) e_X0 (e_Z G b (pD (some (.int R.1)) (e_ov (kW29 q) (wW29 G b q ns R.2.1 v37_answer a38 R.2.2 aL4) c0) n) 0 0) 8 [(0, .ref (b + 37)), (1, .ref (b + q)), (3, .int x3), (4, .int x4)] [] (e_ov (kW29 q) (wW29 G b q ns v37_height v37_answer a38 a39 aL4) c0) n 0 0 := by
  intro k
  induction k with
  | zero =>
    intro _ _ _ _ _ _ _ hf
    have hf : (none : Option (Int32 × Int32 × (Nat → Int64))) = some _ := hf
    cases hf
  | succ k ih =>
    intro v37_height a38 a39 aL4 x3 x4 R hf
    rw [fX0_follow_L_L8] at hf
    refine E.iload 3 dX0_follow_8 rfl ?_
    refine E.iload_n 2 dX0_follow_10 rfl ?_
    refine E.icmp_ge dX0_follow_11 (fun h => ?_) (fun h => ?_)
    · have hf := e_ift hf h
      refine E.locals [0] rfl ?_
      exact tX0_follow_L_L244 hw hf
    · have hf := e_iff hf h
      refine E.iload 3 dX0_follow_14 rfl ?_
      refine E.aload_n 1 dX0_follow_16 rfl ?_
      refine E.getN hw 3 q dX0_follow_17 fnX0_81 rfl rfl rfl rfl ?_
      refine E.alen (z := (Int32.ofNat ns)) hw 4 (q + 4) 0 dX0_follow_20 rfl rfl rfl rfl ?_
      refine E.icmp_ge dX0_follow_21 (fun h => ?_) (fun h => ?_)
      · have hf := e_ift hf h
        refine E.locals [0] rfl ?_
        exact tX0_follow_L_L244 hw hf
      · have hf := e_iff hf h
        refine E.aload_n 1 dX0_follow_24 rfl ?_
        refine E.getN hw 3 q dX0_follow_25 fnX0_81 rfl rfl rfl rfl ?_
        refine E.iload 3 dX0_follow_28 rfl ?_
        obtain ⟨g1, hf⟩ := gd_some hf
        refine E.iald hw 4 (q + 4) dX0_follow_30 rfl rfl g1 ?_
        refine E.sipush (v := 1024) dX0_follow_31 (by decide) ?_
        obtain ⟨g2, hf⟩ := gz_some hf
        refine E.idiv dX0_follow_34 g2 ?_
        refine E.istore (lv' := [(5, .int ((aL4 (x4 : Int32).toNatClampNeg) / 1024)), (0, .ref (b + 37)), (1, .ref (b + q)), (3, .int x3), (4, .int x4)]) dX0_follow_35 (by decide) rfl ?_
        refine E.aload_n 2 dX0_follow_37 rfl ?_
        refine E.getN hw 3 q dX0_follow_38 fnX0_81 rfl rfl rfl rfl ?_
        refine E.iload 4 dX0_follow_41 rfl ?_
        obtain ⟨g3, hf⟩ := gd_some hf
        refine E.iald hw 4 (q + 4) dX0_follow_43 rfl rfl g3 ?_
        refine E.sipush (v := 1024) dX0_follow_44 (by decide) ?_
        obtain ⟨g4, hf⟩ := gz_some hf
        refine E.irem dX0_follow_47 g4 ?_
        refine E.istore (lv' := [(6, .int ((aL4 (x4 : Int32).toNatClampNeg) - (aL4 (x4 : Int32).toNatClampNeg) / 1024 * 1024)), (5, .int ((aL4 (x4 : Int32).toNatClampNeg) / 1024)), (0, .ref (b + 37)), (1, .ref (b + q)), (3, .int x3), (4, .int x4)]) dX0_follow_48 (by decide) rfl ?_
        refine E.iload 1 dX0_follow_50 rfl ?_
        refine E.if_ne dX0_follow_52 (fun h => ?_) (fun h => ?_)
        · have hf := e_iff hf h
          refine E.iload 1 dX0_follow_64 rfl ?_
          refine E.iconst (v := 1) dX0_follow_66 (by decide) ?_
          refine E.icmp_ne dX0_follow_67 (fun h => ?_) (fun h => ?_)
          · have hf := e_iff hf h
            refine E.aload_n 2 dX0_follow_95 rfl ?_
            refine E.get hw 0 37 dX0_follow_96 flX0_77 rfl rfl rfl rfl ?_
            refine E.if_ne dX0_follow_99 (fun h => ?_) (fun h => ?_)
            · have hf := e_iff hf h
              refine E.iload 1 dX0_follow_104 rfl ?_
              refine E.bipush (v := 9) dX0_follow_106 (by decide) ?_
              refine E.icmp_ne dX0_follow_108 (fun h => ?_) (fun h => ?_)
              · have hf := e_iff hf h
                refine E.iload 1 dX0_follow_138 rfl ?_
                refine E.bipush (v := 10) dX0_follow_140 (by decide) ?_
                refine E.icmp_eq dX0_follow_142 (fun h => ?_) (fun h => ?_)
                · have hf := e_ift hf h
                  refine E.locals [2, 3, 4, 5, 1, 0] rfl ?_
                  exact tX0_follow_L_L152 hw ih hf
                · have hf := e_iff hf h
                  refine E.iload 1 dX0_follow_145 rfl ?_
                  refine E.bipush (v := 11) dX0_follow_147 (by decide) ?_
                  refine E.icmp_ne dX0_follow_149 (fun h => ?_) (fun h => ?_)
                  · have hf := e_iff hf h
                    refine E.aload_n 2 dX0_follow_227 rfl ?_
                    refine E.iload 1 dX0_follow_228 rfl ?_
                    obtain ⟨r5, hc5, hf⟩ := e_bind hf
                    refine E.callVDs (es' := (wW29 G b q ns r5.2.1 v37_answer a38 r5.2.2 aL4)) [] [0, 2] 0 37 dX0_follow_230 mlX0_90 hw rfl rfl rfl rfl (mX0_combine (hw.pick2 [0, 2] rfl (by decide)) hc5) rfl rfl rfl rfl ⟨Nat.le_of_ble_eq_true rfl, Nat.le_of_ble_eq_true rfl⟩ rfl rfl (Nat.le_of_ble_eq_true rfl) ⟨Nat.le_refl _, Nat.le_refl _⟩ rfl ?_
                    refine E.if_ne dX0_follow_233 (fun h => ?_) (fun h => ?_)
                    · have hf := e_iff hf h
                      refine E.iinc (q := 5) (v := (x4 + 1)) (lv' := [(4, .int (x4 + 1)), (6, .int ((aL4 (x4 : Int32).toNatClampNeg) - (aL4 (x4 : Int32).toNatClampNeg) / 1024 * 1024)), (5, .int ((aL4 (x4 : Int32).toNatClampNeg) / 1024)), (0, .ref (b + 37)), (1, .ref (b + q)), (3, .int x3)]) dX0_follow_238 rfl rfl (by decide) rfl ?_
                      refine E.goto dX0_follow_241 ?_
                      refine E.locals [3, 4, 5, 0] rfl ?_
                      exact ih hf
                    · have hf := e_ift hf h
                      refine E.iconst (v := 0) dX0_follow_236 (by decide) ?_
                      cases hf
                      exact E.zret dX0_follow_237 rfl (Nat.le_refl _) (Nat.le_refl _) (pD_rf _ _ _)
                  · have hf := e_ift hf h
                    refine E.locals [2, 3, 4, 5, 1, 0] rfl ?_
                    exact tX0_follow_L_L152 hw ih hf
              · have hf := e_ift hf h
                refine E.aload_n 2 dX0_follow_111 rfl ?_
                refine E.get hw 0 37 dX0_follow_112 flX0_17 rfl rfl rfl rfl ?_
                refine E.aload_n 2 dX0_follow_115 rfl ?_
                refine E.get hw 0 37 dX0_follow_116 flX0_77 rfl rfl rfl rfl ?_
                refine E.iconst (v := 1) dX0_follow_119 (by decide) ?_
                refine E.isub dX0_follow_120 ?_
                refine E.lconst (v := 1) dX0_follow_121 (by decide) ?_
                refine E.aload_n 2 dX0_follow_122 rfl ?_
                refine E.get hw 0 37 dX0_follow_123 flX0_17 rfl rfl rfl rfl ?_
                refine E.aload_n 2 dX0_follow_126 rfl ?_
                refine E.get hw 0 37 dX0_follow_127 flX0_77 rfl rfl rfl rfl ?_
                refine E.iconst (v := 1) dX0_follow_130 (by decide) ?_
                refine E.isub dX0_follow_131 ?_
                obtain ⟨g6, hf⟩ := gd_some hf
                refine E.lald hw 2 39 dX0_follow_132 rfl rfl g6 ?_
                refine E.lsub dX0_follow_133 ?_
                obtain ⟨g7, hf⟩ := gd_some hf
                refine E.last (es' := (wW29 G b q ns v37_height v37_answer a38 (va_up a39 ((v37_height - 1) : Int32).toNatClampNeg (1 - (a39 ((v37_height - 1) : Int32).toNatClampNeg))) aL4)) hw 2 39 dX0_follow_134 rfl rfl g7 rfl ?_
                refine E.goto dX0_follow_135 ?_
                refine E.iinc (q := 5) (v := (x4 + 1)) (lv' := [(4, .int (x4 + 1)), (6, .int ((aL4 (x4 : Int32).toNatClampNeg) - (aL4 (x4 : Int32).toNatClampNeg) / 1024 * 1024)), (5, .int ((aL4 (x4 : Int32).toNatClampNeg) / 1024)), (0, .ref (b + 37)), (1, .ref (b + q)), (3, .int x3)]) dX0_follow_238 rfl rfl (by decide) rfl ?_
                refine E.goto dX0_follow_241 ?_
                refine E.locals [3, 4, 5, 0] rfl ?_
                exact ih hf
            · have hf := e_ift hf h
              refine E.iconst (v := 0) dX0_follow_102 (by decide) ?_
              cases hf
              exact E.zret dX0_follow_103 rfl (Nat.le_refl _) (Nat.le_refl _) (pD_rf _ _ _)
          · have hf := e_ift hf h
            refine E.aload_n 2 dX0_follow_70 rfl ?_
            refine E.iload 0 dX0_follow_71 rfl ?_
            refine E.bipush (v := 10) dX0_follow_73 (by decide) ?_
            refine E.icmp_ge dX0_follow_75 (fun h => ?_) (fun h => ?_)
            · have hf := e_ift hf h
              refine E.iconst (v := 0) dX0_follow_88 (by decide) ?_
              refine E.locals [2, 3, 4, 5] rfl ?_
              exact tX0_follow_L_L89 hw ih hf
            · have hf := e_iff hf h
              refine E.aload_n 2 dX0_follow_78 rfl ?_
              refine E.get hw 0 37 dX0_follow_79 flX0_11 rfl rfl rfl rfl ?_
              refine E.iload 0 dX0_follow_82 rfl ?_
              obtain ⟨g8, hf⟩ := gd_some hf
              refine E.iald hw 1 38 dX0_follow_84 rfl rfl g8 ?_
              refine E.goto dX0_follow_85 ?_
              refine E.locals [2, 3, 4, 5] rfl ?_
              exact tX0_follow_L_L89 hw ih hf
        · have hf := e_ift hf h
          refine E.aload_n 2 dX0_follow_55 rfl ?_
          refine E.iload 0 dX0_follow_56 rfl ?_
          obtain ⟨r9, hc9, hf⟩ := e_bind hf
          refine E.callVDs (es' := (wW29 G b q ns r9.1 v37_answer a38 r9.2 aL4)) [] [0, 2] 0 37 dX0_follow_58 mlX0_84 hw rfl rfl rfl rfl (mX0_push (hw.pick2 [0, 2] rfl (by decide)) hc9) rfl rfl rfl rfl ⟨Nat.le_of_ble_eq_true rfl, Nat.le_of_ble_eq_true rfl⟩ rfl rfl (Nat.le_of_ble_eq_true rfl) ⟨Nat.le_refl _, Nat.le_refl _⟩ rfl ?_
          refine E.goto dX0_follow_61 ?_
          refine E.iinc (q := 5) (v := (x4 + 1)) (lv' := [(4, .int (x4 + 1)), (6, .int ((aL4 (x4 : Int32).toNatClampNeg) - (aL4 (x4 : Int32).toNatClampNeg) / 1024 * 1024)), (5, .int ((aL4 (x4 : Int32).toNatClampNeg) / 1024)), (0, .ref (b + 37)), (1, .ref (b + q)), (3, .int x3)]) dX0_follow_238 rfl rfl (by decide) rfl ?_
          refine E.goto dX0_follow_241 ?_
          refine E.locals [3, 4, 5, 0] rfl ?_
          exact ih hf
def fX0_follow_L (Fu : Nat) (ns : Nat) (v37_height : Int32) (a38 : Nat → Int32) (a39 : Nat → Int64) (aL4 : Nat → Int32) (x2 : Int32) (x3 : Int32) : Option (Int32 × Int32 × (Nat → Int64)) := fX0_follow_L_L8 Fu ns Fu 0 a38 a39 aL4 x3 x2
set_option maxHeartbeats 4000000 in
set_option maxRecDepth 100000 in
theorem tX0_follow_L {G : GT} {b : Nat} {q ns : Nat} {c0 : Hp} {n : Nat} (hw : e_wf (kW29 q) n) {v37_answer : Int64} {Fu : Nat} {v37_height : Int32} {a38 : Nat → Int32} {a39 : Nat → Int64} {aL4 : Nat → Int32} {x2 : Int32} {x3 : Int32} {R : Int32 × Int32 × (Nat → Int64)} (hf : fX0_follow_L Fu ns v37_height a38 a39 aL4 x2 x3 = some R) : E G b yX0_follow cX0_follow 8 (some .boolean) (e_rm 1 0 0) e_X0 (e_Z G b (pD (some (.int R.1)) (e_ov (kW29 q) (wW29 G b q ns R.2.1 v37_answer a38 R.2.2 aL4) c0) n) 0 0) 0 [(0, .ref (b + 37)), (1, .ref (b + q)), (2, .int x2), (3, .int x3)] [] (e_ov (kW29 q) (wW29 G b q ns v37_height v37_answer a38 a39 aL4) c0) n 0 0 := by
  unfold fX0_follow_L at hf
  refine E.aload_n 0 dX0_follow_0 rfl ?_
  refine E.iconst (v := 0) dX0_follow_1 (by decide) ?_
  refine E.put (es' := (wW29 G b q ns 0 v37_answer a38 a39 aL4)) hw 0 37 dX0_follow_2 flX0_77 ftX0 rfl rfl rfl rfl rfl rfl (Nat.le_of_ble_eq_true rfl) rfl ?_
  refine E.iload_n 2 dX0_follow_5 rfl ?_
  refine E.istore (lv' := [(4, .int x2), (0, .ref (b + 37)), (1, .ref (b + q)), (2, .int x2), (3, .int x3)]) dX0_follow_6 (by decide) rfl ?_
  refine E.locals [1, 2, 4, 0] rfl ?_
  exact tX0_follow_L_L8 hw _ hf
set_option maxRecDepth 100000 in
theorem mX0_follow_L {G : GT} {b : Nat} {q ns : Nat} {c0 : Hp} {n : Nat} (hw : e_wf (kW29 q) n) {v37_answer : Int64} {Fu : Nat} {v37_height : Int32} {a38 : Nat → Int32} {a39 : Nat → Int64} {aL4 : Nat → Int32} {x2 : Int32} {x3 : Int32} {R : Int32 × Int32 × (Nat → Int64)} (hf : fX0_follow_L Fu ns v37_height a38 a39 aL4 x2 x3 = some R) : e_C G b yX0_follow cX0_follow 8 (some .boolean) 1 0 0 [.ref (b + 37), .ref (b + q), .int x2, .int x3] (e_ov (kW29 q) (wW29 G b q ns v37_height v37_answer a38 a39 aL4) c0) n (pD (some (.int R.1)) (e_ov (kW29 q) (wW29 G b q ns R.2.1 v37_answer a38 R.2.2 aL4) c0) n) := e_C.of (by decide) (Nat.le_of_ble_eq_true rfl) (tX0_follow_L hw hf)
abbrev kW30 (q : Nat) : List Nat := [37, 38, 39, q, (q + 2), (q + 3), (q + 4)]
abbrev wW30 (G : GT) (b q nt ne ns : Nat) (v37_height : Int32) (v37_answer : Int64) (a38 : Nat → Int32) (a39 : Nat → Int64) (aL2 : Nat → Int32) (aL3 : Nat → Int32) (aL4 : Nat → Int32) : List va_E := [.inr (0, [.ref (b + 38), .ref (b + 39), .int v37_height, .long v37_answer]), aI G 10 a38, aJ G 51 a39, .inr (5, [.ref (b + (q + 1)), .ref (b + (q + 2)), .ref (b + (q + 3)), .ref (b + (q + 4))]), aI G nt aL2, aI G ne aL3, aI G ns aL4]
def fX0_holds_L_L69 (Fu : Nat) (nt : Nat) (ne : Nat) (ns : Nat) (v37_height : Int32) (v37_answer : Int64) (a38 : Nat → Int32) (a39 : Nat → Int64) (aL2 : Nat → Int32) (aL3 : Nat → Int32) (aL4 : Nat → Int32) (x3 : Int32) (x4 : Int32) : Option (Int32 × Int32 × Int64 × (Nat → Int64)) := (fX0_follow_L Fu ns v37_height a38 a39 aL4 x3 x4).bind fun r7 => (gd 0 51 (gb r7.1 (some (r7.1, r7.2.1, (r7.2.2 (0 : Int32).toNatClampNeg), r7.2.2))))
set_option maxHeartbeats 4000000 in
set_option maxRecDepth 100000 in
theorem tX0_holds_L_L69 {G : GT} {b : Nat} {q nt ne ns : Nat} {c0 : Hp} {n : Nat} (hw : e_wf (kW30 q) n)  {Fu : Nat} {v37_height : Int32} {v37_answer : Int64} {a38 : Nat → Int32} {a39 : Nat → Int64} {aL2 : Nat → Int32} {aL3 : Nat → Int32} {aL4 : Nat → Int32} {x3 : Int32} {x4 : Int32} {R : Int32 × Int32 × Int64 × (Nat → Int64)} (hf : fX0_holds_L_L69 Fu nt ne ns v37_height v37_answer a38 a39 aL2 aL3 aL4 x3 x4 = some R) : E G b yX0_holds cX0_holds 6 (some .boolean) (e_rm 2 0 0) e_X0 (e_Z G b (pD (some (.int R.1)) (e_ov (kW30 q) (wW30 G b q nt ne ns R.2.1 R.2.2.1 a38 R.2.2.2 aL2 aL3 aL4) c0) n) 0 0) 69 [(0, .ref (b + 37)), (1, .ref (b + q)), (3, .int x3), (4, .int x4)] [] (e_ov (kW30 q) (wW30 G b q nt ne ns v37_height v37_answer a38 a39 aL2 aL3 aL4) c0) n 0 0 := by
  unfold fX0_holds_L_L69 at hf
  refine E.aload_n 0 dX0_holds_69 rfl ?_
  refine E.aload_n 1 dX0_holds_70 rfl ?_
  refine E.iload_n 2 dX0_holds_71 rfl ?_
  refine E.iload 3 dX0_holds_72 rfl ?_
  obtain ⟨r7, hc7, hf⟩ := e_bind hf
  refine E.callVDs (es' := (wW30 G b q nt ne ns r7.2.1 v37_answer a38 r7.2.2 aL2 aL3 aL4)) [] [0, 1, 2, 3, 6] 0 37 dX0_holds_74 mlX0_73 hw rfl rfl rfl rfl (mX0_follow_L (hw.pick2 [0, 1, 2, 3, 6] rfl (by decide)) hc7) rfl rfl rfl rfl ⟨Nat.le_of_ble_eq_true rfl, Nat.le_of_ble_eq_true rfl⟩ rfl rfl (Nat.le_of_ble_eq_true rfl) ⟨Nat.le_refl _, Nat.le_refl _⟩ rfl ?_
  refine E.istore (lv' := [(5, .int r7.1), (0, .ref (b + 37)), (1, .ref (b + q)), (3, .int x3), (4, .int x4)]) dX0_holds_77 (by decide) rfl ?_
  refine E.aload_n 1 dX0_holds_79 rfl ?_
  refine E.aload_n 1 dX0_holds_80 rfl ?_
  refine E.get hw 0 37 dX0_holds_81 flX0_17 rfl rfl rfl rfl ?_
  refine E.iconst (v := 0) dX0_holds_84 (by decide) ?_
  obtain ⟨g8, hf⟩ := gd_some hf
  refine E.lald hw 2 39 dX0_holds_85 rfl rfl g8 ?_
  refine E.put (es' := (wW30 G b q nt ne ns r7.2.1 (r7.2.2 (0 : Int32).toNatClampNeg) a38 r7.2.2 aL2 aL3 aL4)) hw 0 37 dX0_holds_86 flX0_54 ftX0 rfl rfl rfl rfl rfl rfl (Nat.le_of_ble_eq_true rfl) rfl ?_
  refine E.iload 0 dX0_holds_89 rfl ?_
  obtain ⟨g9, hf⟩ := gb_some hf
  cases hf
  exact E.zret dX0_holds_91 (nb01 g9) (Nat.le_refl _) (Nat.le_refl _) (pD_rf _ _ _)
def fX0_holds_L_L16 (Fu : Nat) (nt : Nat) (ne : Nat) (ns : Nat) (v37_height : Int32) (v37_answer : Int64) (a38 : Nat → Int32) (a39 : Nat → Int64) (aL2 : Nat → Int32) (aL3 : Nat → Int32) (aL4 : Nat → Int32) (x2 : Int32) (s0 : Int32) : Option (Int32 × Int32 × Int64 × (Nat → Int64)) := gd x2 nt (gd x2 ne (if ((aL3 (x2 : Int32).toNatClampNeg) : Int32) ≤ ((aL2 (x2 : Int32).toNatClampNeg) : Int32) then (fX0_holds_L_L69 Fu nt ne ns v37_height v37_answer a38 a39 aL2 aL3 aL4 s0 (aL2 (x2 : Int32).toNatClampNeg)) else (gd x2 ne ((fX0_follow_L Fu ns v37_height a38 a39 aL4 (aL2 (x2 : Int32).toNatClampNeg) (aL3 (x2 : Int32).toNatClampNeg)).bind fun r5 => (if (r5.1 : Int32) = (0 : Int32) then (some (0, r5.2.1, v37_answer, r5.2.2)) else (gd 0 51 (if ((r5.2.2 (0 : Int32).toNatClampNeg) : Int64) = (0 : Int64) then (some (0, r5.2.1, v37_answer, r5.2.2)) else (fX0_holds_L_L69 Fu nt ne ns r5.2.1 v37_answer a38 r5.2.2 aL2 aL3 aL4 s0 (aL2 (x2 : Int32).toNatClampNeg)))))))))
set_option maxHeartbeats 4000000 in
set_option maxRecDepth 100000 in
theorem tX0_holds_L_L16 {G : GT} {b : Nat} {q nt ne ns : Nat} {c0 : Hp} {n : Nat} (hw : e_wf (kW30 q) n)  {Fu : Nat} {v37_height : Int32} {v37_answer : Int64} {a38 : Nat → Int32} {a39 : Nat → Int64} {aL2 : Nat → Int32} {aL3 : Nat → Int32} {aL4 : Nat → Int32} {x2 : Int32} {s0 : Int32} {R : Int32 × Int32 × Int64 × (Nat → Int64)} (hf : fX0_holds_L_L16 Fu nt ne ns v37_height v37_answer a38 a39 aL2 aL3 aL4 x2 s0 = some R) : E G b yX0_holds cX0_holds 6 (some .boolean) (e_rm 2 0 0) e_X0 (e_Z G b (pD (some (.int R.1)) (e_ov (kW30 q) (wW30 G b q nt ne ns R.2.1 R.2.2.1 a38 R.2.2.2 aL2 aL3 aL4) c0) n) 0 0) 16 [(0, .ref (b + 37)), (1, .ref (b + q)), (2, .int x2)] [.int s0] (e_ov (kW30 q) (wW30 G b q nt ne ns v37_height v37_answer a38 a39 aL2 aL3 aL4) c0) n 0 0 := by
  unfold fX0_holds_L_L16 at hf
  refine E.istore_n (lv' := [(3, .int s0), (0, .ref (b + 37)), (1, .ref (b + q)), (2, .int x2)]) dX0_holds_16 (by decide) rfl ?_
  refine E.aload_n 2 dX0_holds_17 rfl ?_
  refine E.getN hw 3 q dX0_holds_18 fnX0_70 rfl rfl rfl rfl ?_
  refine E.iload_n 3 dX0_holds_21 rfl ?_
  obtain ⟨g2, hf⟩ := gd_some hf
  refine E.iald hw 4 (q + 2) dX0_holds_22 rfl rfl g2 ?_
  refine E.istore (lv' := [(4, .int (aL2 (x2 : Int32).toNatClampNeg)), (3, .int s0), (0, .ref (b + 37)), (1, .ref (b + q)), (2, .int x2)]) dX0_holds_23 (by decide) rfl ?_
  refine E.iload 0 dX0_holds_25 rfl ?_
  refine E.aload_n 3 dX0_holds_27 rfl ?_
  refine E.getN hw 3 q dX0_holds_28 fnX0_67 rfl rfl rfl rfl ?_
  refine E.iload_n 4 dX0_holds_31 rfl ?_
  obtain ⟨g3, hf⟩ := gd_some hf
  refine E.iald hw 5 (q + 3) dX0_holds_32 rfl rfl g3 ?_
  refine E.icmp_ge dX0_holds_33 (fun h => ?_) (fun h => ?_)
  · have hf := e_ift hf h
    refine E.locals [2, 3, 1, 0] rfl ?_
    exact tX0_holds_L_L69 hw hf
  · have hf := e_iff hf h
    refine E.aload_n 2 dX0_holds_36 rfl ?_
    refine E.aload_n 3 dX0_holds_37 rfl ?_
    refine E.iload 0 dX0_holds_38 rfl ?_
    refine E.aload_n 3 dX0_holds_40 rfl ?_
    refine E.getN hw 3 q dX0_holds_41 fnX0_67 rfl rfl rfl rfl ?_
    refine E.iload_n 4 dX0_holds_44 rfl ?_
    obtain ⟨g4, hf⟩ := gd_some hf
    refine E.iald hw 5 (q + 3) dX0_holds_45 rfl rfl g4 ?_
    obtain ⟨r5, hc5, hf⟩ := e_bind hf
    refine E.callVDs (es' := (wW30 G b q nt ne ns r5.2.1 v37_answer a38 r5.2.2 aL2 aL3 aL4)) [] [0, 1, 2, 3, 6] 0 37 dX0_holds_46 mlX0_73 hw rfl rfl rfl rfl (mX0_follow_L (hw.pick2 [0, 1, 2, 3, 6] rfl (by decide)) hc5) rfl rfl rfl rfl ⟨Nat.le_of_ble_eq_true rfl, Nat.le_of_ble_eq_true rfl⟩ rfl rfl (Nat.le_of_ble_eq_true rfl) ⟨Nat.le_refl _, Nat.le_refl _⟩ rfl ?_
    refine E.istore (lv' := [(5, .int r5.1), (4, .int (aL2 (x2 : Int32).toNatClampNeg)), (3, .int s0), (0, .ref (b + 37)), (1, .ref (b + q)), (2, .int x2)]) dX0_holds_49 (by decide) rfl ?_
    refine E.iload 0 dX0_holds_51 rfl ?_
    refine E.if_eq dX0_holds_53 (fun h => ?_) (fun h => ?_)
    · have hf := e_ift hf h
      refine E.iconst (v := 0) dX0_holds_67 (by decide) ?_
      cases hf
      exact E.zret dX0_holds_68 rfl (Nat.le_refl _) (Nat.le_refl _) (pD_rf _ _ _)
    · have hf := e_iff hf h
      refine E.aload_n 3 dX0_holds_56 rfl ?_
      refine E.get hw 0 37 dX0_holds_57 flX0_17 rfl rfl rfl rfl ?_
      refine E.iconst (v := 0) dX0_holds_60 (by decide) ?_
      obtain ⟨g6, hf⟩ := gd_some hf
      refine E.lald hw 2 39 dX0_holds_61 rfl rfl g6 ?_
      refine E.lconst (v := 0) dX0_holds_62 (by decide) ?_
      refine E.lc_ne dX0_holds_63 dX0_holds_64 (fun h => ?_) (fun h => ?_)
      · have hf := e_iff hf h
        refine E.locals [3, 4, 2, 1] rfl ?_
        exact tX0_holds_L_L69 hw hf
      · have hf := e_ift hf h
        refine E.iconst (v := 0) dX0_holds_67 (by decide) ?_
        cases hf
        exact E.zret dX0_holds_68 rfl (Nat.le_refl _) (Nat.le_refl _) (pD_rf _ _ _)
def fX0_holds_L (Fu : Nat) (nt : Nat) (ne : Nat) (ns : Nat) (v37_height : Int32) (v37_answer : Int64) (a38 : Nat → Int32) (a39 : Nat → Int64) (aL2 : Nat → Int32) (aL3 : Nat → Int32) (aL4 : Nat → Int32) (x2 : Int32) : Option (Int32 × Int32 × Int64 × (Nat → Int64)) := if (x2 : Int32) = (0 : Int32) then (fX0_holds_L_L16 Fu nt ne ns v37_height v37_answer a38 a39 aL2 aL3 aL4 x2 0) else (gd (x2 - 1) ne (fX0_holds_L_L16 Fu nt ne ns v37_height v37_answer a38 a39 aL2 aL3 aL4 x2 (aL3 ((x2 - 1) : Int32).toNatClampNeg)))
set_option maxHeartbeats 4000000 in
set_option maxRecDepth 100000 in
theorem tX0_holds_L {G : GT} {b : Nat} {q nt ne ns : Nat} {c0 : Hp} {n : Nat} (hw : e_wf (kW30 q) n)  {Fu : Nat} {v37_height : Int32} {v37_answer : Int64} {a38 : Nat → Int32} {a39 : Nat → Int64} {aL2 : Nat → Int32} {aL3 : Nat → Int32} {aL4 : Nat → Int32} {x2 : Int32} {R : Int32 × Int32 × Int64 × (Nat → Int64)} (hf : fX0_holds_L Fu nt ne ns v37_height v37_answer a38 a39 aL2 aL3 aL4 x2 = some R) : E G b yX0_holds cX0_holds 6 (some .boolean) (e_rm 2 0 0) e_X0 (e_Z G b (pD (some (.int R.1)) (e_ov (kW30 q) (wW30 G b q nt ne ns R.2.1 R.2.2.1 a38 R.2.2.2 aL2 aL3 aL4) c0) n) 0 0) 0 [(0, .ref (b + 37)), (1, .ref (b + q)), (2, .int x2)] [] (e_ov (kW30 q) (wW30 G b q nt ne ns v37_height v37_answer a38 a39 aL2 aL3 aL4) c0) n 0 0 := by
  unfold fX0_holds_L at hf
  refine E.iload_n 2 dX0_holds_0 rfl ?_
  refine E.if_ne dX0_holds_1 (fun h => ?_) (fun h => ?_)
  · have hf := e_iff hf h
    refine E.aload_n 1 dX0_holds_8 rfl ?_
    refine E.getN hw 3 q dX0_holds_9 fnX0_67 rfl rfl rfl rfl ?_
    refine E.iload_n 2 dX0_holds_12 rfl ?_
    refine E.iconst (v := 1) dX0_holds_13 (by decide) ?_
    refine E.isub dX0_holds_14 ?_
    obtain ⟨g1, hf⟩ := gd_some hf
    refine E.iald hw 5 (q + 3) dX0_holds_15 rfl rfl g1 ?_
    exact tX0_holds_L_L16 hw hf
  · have hf := e_ift hf h
    refine E.iconst (v := 0) dX0_holds_4 (by decide) ?_
    refine E.goto dX0_holds_5 ?_
    exact tX0_holds_L_L16 hw hf
set_option maxRecDepth 100000 in
theorem mX0_holds_L {G : GT} {b : Nat} {q nt ne ns : Nat} {c0 : Hp} {n : Nat} (hw : e_wf (kW30 q) n)  {Fu : Nat} {v37_height : Int32} {v37_answer : Int64} {a38 : Nat → Int32} {a39 : Nat → Int64} {aL2 : Nat → Int32} {aL3 : Nat → Int32} {aL4 : Nat → Int32} {x2 : Int32} {R : Int32 × Int32 × Int64 × (Nat → Int64)} (hf : fX0_holds_L Fu nt ne ns v37_height v37_answer a38 a39 aL2 aL3 aL4 x2 = some R) : e_C G b yX0_holds cX0_holds 6 (some .boolean) 2 0 0 [.ref (b + 37), .ref (b + q), .int x2] (e_ov (kW30 q) (wW30 G b q nt ne ns v37_height v37_answer a38 a39 aL2 aL3 aL4) c0) n (pD (some (.int R.1)) (e_ov (kW30 q) (wW30 G b q nt ne ns R.2.1 R.2.2.1 a38 R.2.2.2 aL2 aL3 aL4) c0) n) := e_C.of (by decide) (Nat.le_of_ble_eq_true rfl) (tX0_holds_L hw hf)
abbrev kW31 (q : Nat) : List Nat := [37, 38, 39, q, (q + 1), (q + 2), (q + 3), (q + 4)]
abbrev wW31 (G : GT) (b q nh nt ne ns : Nat) (v37_height : Int32) (v37_answer : Int64) (a38 : Nat → Int32) (a39 : Nat → Int64) (aL1 : Nat → Int32) (aL2 : Nat → Int32) (aL3 : Nat → Int32) (aL4 : Nat → Int32) : List va_E := [.inr (0, [.ref (b + 38), .ref (b + 39), .int v37_height, .long v37_answer]), aI G 10 a38, aJ G 51 a39, .inr (5, [.ref (b + (q + 1)), .ref (b + (q + 2)), .ref (b + (q + 3)), .ref (b + (q + 4))]), aI G nh aL1, aI G nt aL2, aI G ne aL3, aI G ns aL4]
def fX0_told_L_L15 (Fu : Nat) (nh : Nat) (nt : Nat) (ne : Nat) (ns : Nat) : Nat → Int32 → Int64 → (Nat → Int32) → (Nat → Int64) → (Nat → Int32) → (Nat → Int32) → (Nat → Int32) → (Nat → Int32) → Int32 → Int32 → Int32 → Int32 → Option (Int32 × Int32 × Int64 × (Nat → Int64))
  | 0, _, _, _, _, _, _, _, _, _, _, _, _ => none
  | k + 1, v37_height, v37_answer, a38, a39, aL1, aL2, aL3, aL4, x2, x3, x4, x5 => if (x5 : Int32) < (0 : Int32) then (some (x3, v37_height, v37_answer, a39)) else (gd x5 nh (if ((aL1 (x5 : Int32).toNatClampNeg) : Int32) = (x2 : Int32) then ((fX0_holds_L Fu nt ne ns v37_height v37_answer a38 a39 aL2 aL3 aL4 x5).bind fun r2 => (if (r2.1 : Int32) = (0 : Int32) then ((fX0_told_L_L15 Fu nh nt ne ns k) r2.2.1 r2.2.2.1 a38 r2.2.2.2 aL1 aL2 aL3 aL4 x2 x3 x4 (x5 + (-1 : Int32))) else (some ((((if ((if (r2.2.2.1 : Int64) < ((x4 : Int32).toInt64) then r2.2.2.1 else ((x4 : Int32).toInt64)) : Int64) < 0 then 0 else (if (r2.2.2.1 : Int64) < ((x4 : Int32).toInt64) then r2.2.2.1 else ((x4 : Int32).toInt64))) : Int64).toInt32), r2.2.1, r2.2.2.1, r2.2.2.2)))) else ((fX0_told_L_L15 Fu nh nt ne ns k) v37_height v37_answer a38 a39 aL1 aL2 aL3 aL4 x2 x3 x4 (x5 + (-1 : Int32)))))
set_option maxHeartbeats 4000000 in
set_option maxRecDepth 100000 in
theorem tX0_told_L_L15 {G : GT} {b : Nat} {q nh nt ne ns : Nat} {c0 : Hp} {n : Nat} (hw : e_wf (kW31 q) n)  {Fu : Nat} : ∀ (k : Nat) {v37_height : Int32} {v37_answer : Int64} {a38 : Nat → Int32} {a39 : Nat → Int64} {aL1 : Nat → Int32} {aL2 : Nat → Int32} {aL3 : Nat → Int32} {aL4 : Nat → Int32} {x2 : Int32} {x3 : Int32} {x4 : Int32} {x5 : Int32} {R : Int32 × Int32 × Int64 × (Nat → Int64)}, fX0_told_L_L15 Fu nh nt ne ns k v37_height v37_answer a38 a39 aL1 aL2 aL3 aL4 x2 x3 x4 x5 = some R → E G b yX0_told cX0_told 6 (some .int) (e_rm 3 0 0) e_X0 (e_Z G b (pD (some (.int R.1)) (e_ov (kW31 q) (wW31 G b q nh nt ne ns R.2.1 R.2.2.1 a38 R.2.2.2 aL1 aL2 aL3 aL4) c0) n) 0 0) 15 [(0, .ref (b + 37)), (1, .ref (b + q)), (2, .int x2), (3, .int x3), (4, .int x4), (5, .int x5)] [] (e_ov (kW31 q) (wW31 G b q nh nt ne ns v37_height v37_answer a38 a39 aL1 aL2 aL3 aL4) c0) n 0 0 := by
  intro k
  induction k with
  | zero =>
    intro _ _ _ _ _ _ _ _ _ _ _ _ _ hf
    have hf : (none : Option (Int32 × Int32 × Int64 × (Nat → Int64))) = some _ := hf
    cases hf
  | succ k ih =>
    intro v37_height v37_answer a38 a39 aL1 aL2 aL3 aL4 x2 x3 x4 x5 R hf
    rw [fX0_told_L_L15] at hf
    refine E.iload 5 dX0_told_15 rfl ?_
    refine E.if_lt dX0_told_17 (fun h => ?_) (fun h => ?_)
    · have hf := e_ift hf h
      refine E.iload_n 3 dX0_told_63 rfl ?_
      cases hf
      exact E.iret dX0_told_64 (Nat.le_refl _) (Nat.le_refl _) (pD_rf _ _ _)
    · have hf := e_iff hf h
      refine E.aload_n 1 dX0_told_20 rfl ?_
      refine E.getN hw 3 q dX0_told_21 fnX0_45 rfl rfl rfl rfl ?_
      refine E.iload 5 dX0_told_24 rfl ?_
      obtain ⟨g1, hf⟩ := gd_some hf
      refine E.iald hw 4 (q + 1) dX0_told_26 rfl rfl g1 ?_
      refine E.iload_n 2 dX0_told_27 rfl ?_
      refine E.icmp_ne dX0_told_28 (fun h => ?_) (fun h => ?_)
      · have hf := e_iff hf h
        refine E.iinc (q := 5) (v := (x5 + (-1 : Int32))) (lv' := [(5, .int (x5 + (-1 : Int32))), (0, .ref (b + 37)), (1, .ref (b + q)), (2, .int x2), (3, .int x3), (4, .int x4)]) dX0_told_57 rfl rfl (by decide) rfl ?_
        refine E.goto dX0_told_60 ?_
        refine E.locals [1, 2, 3, 4, 5, 0] rfl ?_
        exact ih hf
      · have hf := e_ift hf h
        refine E.aload_n 0 dX0_told_31 rfl ?_
        refine E.aload_n 1 dX0_told_32 rfl ?_
        refine E.iload 5 dX0_told_33 rfl ?_
        obtain ⟨r2, hc2, hf⟩ := e_bind hf
        refine E.callVDs (es' := (wW31 G b q nh nt ne ns r2.2.1 r2.2.2.1 a38 r2.2.2.2 aL1 aL2 aL3 aL4)) [] [0, 1, 2, 3, 5, 6, 7] 0 37 dX0_told_35 mlX0_50 hw rfl rfl rfl rfl (mX0_holds_L (hw.pick2 [0, 1, 2, 3, 5, 6, 7] rfl (by decide)) hc2) rfl rfl rfl rfl ⟨Nat.le_of_ble_eq_true rfl, Nat.le_of_ble_eq_true rfl⟩ rfl rfl (Nat.le_of_ble_eq_true rfl) ⟨Nat.le_refl _, Nat.le_refl _⟩ rfl ?_
        refine E.if_eq dX0_told_38 (fun h => ?_) (fun h => ?_)
        · have hf := e_ift hf h
          refine E.iinc (q := 5) (v := (x5 + (-1 : Int32))) (lv' := [(5, .int (x5 + (-1 : Int32))), (0, .ref (b + 37)), (1, .ref (b + q)), (2, .int x2), (3, .int x3), (4, .int x4)]) dX0_told_57 rfl rfl (by decide) rfl ?_
          refine E.goto dX0_told_60 ?_
          refine E.locals [1, 2, 3, 4, 5, 0] rfl ?_
          exact ih hf
        · have hf := e_iff hf h
          refine E.lconst (v := 0) dX0_told_41 (by decide) ?_
          refine E.iload 4 dX0_told_42 rfl ?_
          refine E.i2l dX0_told_44 ?_
          refine E.aload_n 0 dX0_told_45 rfl ?_
          refine E.get hw 0 37 dX0_told_46 flX0_54 rfl rfl rfl rfl ?_
          refine E.mmin_long dX0_told_49 mmX0_58 ⟨Nat.le_of_ble_eq_true rfl, Nat.le_of_ble_eq_true rfl⟩ ⟨Nat.le_refl _, Nat.le_refl _⟩ ?_
          refine E.mmax_long dX0_told_52 mmX0_64 ⟨Nat.le_of_ble_eq_true rfl, Nat.le_of_ble_eq_true rfl⟩ ⟨Nat.le_refl _, Nat.le_refl _⟩ ?_
          refine E.l2i dX0_told_55 ?_
          cases hf
          exact E.iret dX0_told_56 (Nat.le_refl _) (Nat.le_refl _) (pD_rf _ _ _)
def fX0_told_L (Fu : Nat) (nh : Nat) (nt : Nat) (ne : Nat) (ns : Nat) (v37_height : Int32) (v37_answer : Int64) (a38 : Nat → Int32) (a39 : Nat → Int64) (aL1 : Nat → Int32) (aL2 : Nat → Int32) (aL3 : Nat → Int32) (aL4 : Nat → Int32) (x2 : Int32) (x3 : Int32) (x4 : Int32) : Option (Int32 × Int32 × Int64 × (Nat → Int64)) := fX0_told_L_L15 Fu nh nt ne ns Fu v37_height v37_answer a38 a39 aL1 aL2 aL3 aL4 x2 x3 x4 ((Int32.ofNat nh) - 1)
set_option maxHeartbeats 4000000 in
set_option maxRecDepth 100000 in
theorem tX0_told_L {G : GT} {b : Nat} {q nh nt ne ns : Nat} {c0 : Hp} {n : Nat} (hw : e_wf (kW31 q) n)  {Fu : Nat} {v37_height : Int32} {v37_answer : Int64} {a38 : Nat → Int32} {a39 : Nat → Int64} {aL1 : Nat → Int32} {aL2 : Nat → Int32} {aL3 : Nat → Int32} {aL4 : Nat → Int32} {x2 : Int32} {x3 : Int32} {x4 : Int32} {R : Int32 × Int32 × Int64 × (Nat → Int64)} (hf : fX0_told_L Fu nh nt ne ns v37_height v37_answer a38 a39 aL1 aL2 aL3 aL4 x2 x3 x4 = some R) : E G b yX0_told cX0_told 6 (some .int) (e_rm 3 0 0) e_X0 (e_Z G b (pD (some (.int R.1)) (e_ov (kW31 q) (wW31 G b q nh nt ne ns R.2.1 R.2.2.1 a38 R.2.2.2 aL1 aL2 aL3 aL4) c0) n) 0 0) 0 [(0, .ref (b + 37)), (1, .ref (b + q)), (2, .int x2), (3, .int x3), (4, .int x4)] [] (e_ov (kW31 q) (wW31 G b q nh nt ne ns v37_height v37_answer a38 a39 aL1 aL2 aL3 aL4) c0) n 0 0 := by
  unfold fX0_told_L at hf
  refine E.aload_n 1 dX0_told_0 rfl ?_
  refine E.ifnonnullR dX0_told_1 ?_
  refine E.aload_n 1 dX0_told_6 rfl ?_
  refine E.getN hw 3 q dX0_told_7 fnX0_45 rfl rfl rfl rfl ?_
  refine E.alen (z := (Int32.ofNat nh)) hw 4 (q + 1) 0 dX0_told_10 rfl rfl rfl rfl ?_
  refine E.iconst (v := 1) dX0_told_11 (by decide) ?_
  refine E.isub dX0_told_12 ?_
  refine E.istore (lv' := [(5, .int ((Int32.ofNat nh) - 1)), (0, .ref (b + 37)), (1, .ref (b + q)), (2, .int x2), (3, .int x3), (4, .int x4)]) dX0_told_13 (by decide) rfl ?_
  refine E.locals [1, 2, 3, 4, 5, 0] rfl ?_
  exact tX0_told_L_L15 hw _ hf
set_option maxRecDepth 100000 in
theorem mX0_told_L {G : GT} {b : Nat} {q nh nt ne ns : Nat} {c0 : Hp} {n : Nat} (hw : e_wf (kW31 q) n)  {Fu : Nat} {v37_height : Int32} {v37_answer : Int64} {a38 : Nat → Int32} {a39 : Nat → Int64} {aL1 : Nat → Int32} {aL2 : Nat → Int32} {aL3 : Nat → Int32} {aL4 : Nat → Int32} {x2 : Int32} {x3 : Int32} {x4 : Int32} {R : Int32 × Int32 × Int64 × (Nat → Int64)} (hf : fX0_told_L Fu nh nt ne ns v37_height v37_answer a38 a39 aL1 aL2 aL3 aL4 x2 x3 x4 = some R) : e_C G b yX0_told cX0_told 6 (some .int) 3 0 0 [.ref (b + 37), .ref (b + q), .int x2, .int x3, .int x4] (e_ov (kW31 q) (wW31 G b q nh nt ne ns v37_height v37_answer a38 a39 aL1 aL2 aL3 aL4) c0) n (pD (some (.int R.1)) (e_ov (kW31 q) (wW31 G b q nh nt ne ns R.2.1 R.2.2.1 a38 R.2.2.2 aL1 aL2 aL3 aL4) c0) n) := e_C.of (by decide) (Nat.le_of_ble_eq_true rfl) (tX0_told_L hw hf)
abbrev kW32 (q : Nat) : List Nat := [1, 2, 3, 4, 5, 37, 38, 39, q, (q + 1), (q + 2), (q + 3), (q + 4)]
abbrev wW32 (G : GT) (b q nh nt ne ns : Nat) (v1_beasts : Int32) (v1_meals : Int32) (v1_seats : Int32) (v1_laws : Int32) (v1_inForce : Int32) (a2 : Nat → Int32) (a3 : Nat → Int32) (a4 : Nat → Int32) (a5 : Nat → Option Nat) (v37_height : Int32) (v37_answer : Int64) (a38 : Nat → Int32) (a39 : Nat → Int64) (aL1 : Nat → Int32) (aL2 : Nat → Int32) (aL3 : Nat → Int32) (aL4 : Nat → Int32) : List va_E := [.inr (10, [.ref (b + 2), .ref (b + 3), .ref (b + 4), .ref (b + 5), .ref (b + 6), .int v1_beasts, .int v1_meals, .int v1_seats, .int v1_laws, .int v1_inForce]), aI G 48 a2, aI G 8 a3, aI G 6 a4, aQ G 4 6 a5, .inr (0, [.ref (b + 38), .ref (b + 39), .int v37_height, .long v37_answer]), aI G 10 a38, aJ G 51 a39, .inr (5, [.ref (b + (q + 1)), .ref (b + (q + 2)), .ref (b + (q + 3)), .ref (b + (q + 4))]), aI G nh aL1, aI G nt aL2, aI G ne aL3, aI G ns aL4]
def fX0_chanceOf_L (Fu : Nat) (nh : Nat) (nt : Nat) (ne : Nat) (ns : Nat) (b q : Nat) (v1_laws : Int32) (v1_inForce : Int32) (a2 : Nat → Int32) (a3 : Nat → Int32) (a4 : Nat → Int32) (a5 : Nat → Option Nat) (v37_height : Int32) (v37_answer : Int64) (a38 : Nat → Int32) (a39 : Nat → Int64) (aL1 : Nat → Int32) (aL2 : Nat → Int32) (aL3 : Nat → Int32) (aL4 : Nat → Int32) (x2 : Int32) (x3 : Int32) (x4 : Int32) (x5 : Int32) : Option (Int32 × Int32 × Int64 × (Nat → Int32) × (Nat → Int64)) := (fX0_learn a2 a3 a4 a38 x2 x3 x4).bind fun r1 => (gd 9 10 ((fX10_ruling_L v1_laws v1_inForce a5).bind fun r3 => (gq r3 (some (b + q)) ((fX0_told_L Fu nh nt ne ns v37_height v37_answer (va_up r1 (9 : Int32).toNatClampNeg x5) a39 aL1 aL2 aL3 aL4 0 50 100).bind fun r5 => (some (r5.1, r5.2.1, r5.2.2.1, (va_up r1 (9 : Int32).toNatClampNeg x5), r5.2.2.2))))))
set_option maxHeartbeats 4000000 in
set_option maxRecDepth 100000 in
theorem tX0_chanceOf_L {G : GT} {b : Nat} {q nh nt ne ns : Nat} {c0 : Hp} {n : Nat} (hw : e_wf (kW32 q) n) {v1_beasts : Int32} {v1_meals : Int32} {v1_seats : Int32} {Fu : Nat} {v1_laws : Int32} {v1_inForce : Int32} {a2 : Nat → Int32} {a3 : Nat → Int32} {a4 : Nat → Int32} {a5 : Nat → Option Nat} {v37_height : Int32} {v37_answer : Int64} {a38 : Nat → Int32} {a39 : Nat → Int64} {aL1 : Nat → Int32} {aL2 : Nat → Int32} {aL3 : Nat → Int32} {aL4 : Nat → Int32} {x2 : Int32} {x3 : Int32} {x4 : Int32} {x5 : Int32} {R : Int32 × Int32 × Int64 × (Nat → Int32) × (Nat → Int64)} (hf : fX0_chanceOf_L Fu nh nt ne ns b q v1_laws v1_inForce a2 a3 a4 a5 v37_height v37_answer a38 a39 aL1 aL2 aL3 aL4 x2 x3 x4 x5 = some R) : E G b yX0_chanceOf cX0_chanceOf 6 (some .int) (e_rm 4 0 0) e_X0 (e_Z G b (pD (some (.int R.1)) (e_ov (kW32 q) (wW32 G b q nh nt ne ns v1_beasts v1_meals v1_seats v1_laws v1_inForce a2 a3 a4 a5 R.2.1 R.2.2.1 R.2.2.2.1 R.2.2.2.2 aL1 aL2 aL3 aL4) c0) n) 0 0) 0 [(0, .ref (b + 37)), (1, .ref (b + 1)), (2, .int x2), (3, .int x3), (4, .int x4), (5, .int x5)] [] (e_ov (kW32 q) (wW32 G b q nh nt ne ns v1_beasts v1_meals v1_seats v1_laws v1_inForce a2 a3 a4 a5 v37_height v37_answer a38 a39 aL1 aL2 aL3 aL4) c0) n 0 0 := by
  unfold fX0_chanceOf_L at hf
  refine E.aload_n 0 dX0_chanceOf_0 rfl ?_
  refine E.aload_n 1 dX0_chanceOf_1 rfl ?_
  refine E.iload_n 2 dX0_chanceOf_2 rfl ?_
  refine E.iload_n 3 dX0_chanceOf_3 rfl ?_
  refine E.iload 4 dX0_chanceOf_4 rfl ?_
  obtain ⟨r1, hc1, hf⟩ := e_bind hf
  refine E.callVDs (es' := (wW32 G b q nh nt ne ns v1_beasts v1_meals v1_seats v1_laws v1_inForce a2 a3 a4 a5 v37_height v37_answer r1 a39 aL1 aL2 aL3 aL4)) [] [0, 1, 2, 3, 5, 6] 5 37 dX0_chanceOf_6 mlX0_21 hw rfl rfl rfl rfl (mX0_learn (hw.pick2 [0, 1, 2, 3, 5, 6] rfl (by decide)) hc1) rfl rfl rfl rfl ⟨Nat.le_of_ble_eq_true rfl, Nat.le_of_ble_eq_true rfl⟩ rfl rfl (Nat.le_of_ble_eq_true rfl) ⟨Nat.le_refl _, Nat.le_refl _⟩ rfl ?_
  refine E.aload_n 0 dX0_chanceOf_9 rfl ?_
  refine E.get hw 5 37 dX0_chanceOf_10 flX0_11 rfl rfl rfl rfl ?_
  refine E.bipush (v := 9) dX0_chanceOf_13 (by decide) ?_
  refine E.iload 5 dX0_chanceOf_15 rfl ?_
  obtain ⟨g2, hf⟩ := gd_some hf
  refine E.iast (es' := (wW32 G b q nh nt ne ns v1_beasts v1_meals v1_seats v1_laws v1_inForce a2 a3 a4 a5 v37_height v37_answer (va_up r1 (9 : Int32).toNatClampNeg x5) a39 aL1 aL2 aL3 aL4)) hw 6 38 dX0_chanceOf_17 rfl rfl g2 rfl ?_
  refine E.aload_n 0 dX0_chanceOf_18 rfl ?_
  refine E.aload_n 1 dX0_chanceOf_19 rfl ?_
  obtain ⟨r3, hc3, hf⟩ := e_bind hf
  obtain ⟨g4, hf⟩ := gq_some hf
  refine E.callVDs (es' := (wW32 G b q nh nt ne ns v1_beasts v1_meals v1_seats v1_laws v1_inForce a2 a3 a4 a5 v37_height v37_answer (va_up r1 (9 : Int32).toNatClampNeg x5) a39 aL1 aL2 aL3 aL4)) [.ref (b + 37)] [0, 4] 0 1 dX0_chanceOf_20 mlX0_25 hw rfl rfl rfl rfl (mX10_ruling_L (hw.pick2 [0, 4] rfl (by decide)) hc3) rfl rfl rfl rfl ⟨Nat.le_of_ble_eq_true rfl, Nat.le_of_ble_eq_true rfl⟩ rfl rfl (Nat.le_of_ble_eq_true rfl) ⟨Nat.le_refl _, Nat.le_refl _⟩ (by rw [g4] <;> rfl) ?_
  refine E.iconst (v := 0) dX0_chanceOf_23 (by decide) ?_
  refine E.bipush (v := 50) dX0_chanceOf_24 (by decide) ?_
  refine E.bipush (v := 100) dX0_chanceOf_26 (by decide) ?_
  obtain ⟨r5, hc5, hf⟩ := e_bind hf
  refine E.callVDs (es' := (wW32 G b q nh nt ne ns v1_beasts v1_meals v1_seats v1_laws v1_inForce a2 a3 a4 a5 r5.2.1 r5.2.2.1 (va_up r1 (9 : Int32).toNatClampNeg x5) r5.2.2.2 aL1 aL2 aL3 aL4)) [] [5, 6, 7, 8, 9, 10, 11, 12] 5 37 dX0_chanceOf_28 mlX0_31 hw rfl rfl rfl rfl (mX0_told_L (hw.pick2 [5, 6, 7, 8, 9, 10, 11, 12] rfl (by decide)) hc5) rfl rfl rfl rfl ⟨Nat.le_of_ble_eq_true rfl, Nat.le_of_ble_eq_true rfl⟩ rfl rfl (Nat.le_of_ble_eq_true rfl) ⟨Nat.le_refl _, Nat.le_refl _⟩ rfl ?_
  cases hf
  exact E.iret dX0_chanceOf_31 (Nat.le_refl _) (Nat.le_refl _) (pD_rf _ _ _)
set_option maxRecDepth 100000 in
theorem mX0_chanceOf_L {G : GT} {b : Nat} {q nh nt ne ns : Nat} {c0 : Hp} {n : Nat} (hw : e_wf (kW32 q) n) {v1_beasts : Int32} {v1_meals : Int32} {v1_seats : Int32} {Fu : Nat} {v1_laws : Int32} {v1_inForce : Int32} {a2 : Nat → Int32} {a3 : Nat → Int32} {a4 : Nat → Int32} {a5 : Nat → Option Nat} {v37_height : Int32} {v37_answer : Int64} {a38 : Nat → Int32} {a39 : Nat → Int64} {aL1 : Nat → Int32} {aL2 : Nat → Int32} {aL3 : Nat → Int32} {aL4 : Nat → Int32} {x2 : Int32} {x3 : Int32} {x4 : Int32} {x5 : Int32} {R : Int32 × Int32 × Int64 × (Nat → Int32) × (Nat → Int64)} (hf : fX0_chanceOf_L Fu nh nt ne ns b q v1_laws v1_inForce a2 a3 a4 a5 v37_height v37_answer a38 a39 aL1 aL2 aL3 aL4 x2 x3 x4 x5 = some R) : e_C G b yX0_chanceOf cX0_chanceOf 6 (some .int) 4 0 0 [.ref (b + 37), .ref (b + 1), .int x2, .int x3, .int x4, .int x5] (e_ov (kW32 q) (wW32 G b q nh nt ne ns v1_beasts v1_meals v1_seats v1_laws v1_inForce a2 a3 a4 a5 v37_height v37_answer a38 a39 aL1 aL2 aL3 aL4) c0) n (pD (some (.int R.1)) (e_ov (kW32 q) (wW32 G b q nh nt ne ns v1_beasts v1_meals v1_seats v1_laws v1_inForce a2 a3 a4 a5 R.2.1 R.2.2.1 R.2.2.2.1 R.2.2.2.2 aL1 aL2 aL3 aL4) c0) n) := e_C.of (by decide) (Nat.le_of_ble_eq_true rfl) (tX0_chanceOf_L hw hf)
abbrev kW33 (q : Nat) : List Nat := [0, 1, 2, 3, 4, 5, 37, 38, 39, q, (q + 1), (q + 2), (q + 3), (q + 4)]
abbrev wW33 (G : GT) (b q nh nt ne ns : Nat) (v0_faultPlace : Int32) (v0_quashedRows : Int32) (v0_lastRefusal : Int32) (v1_beasts : Int32) (v1_meals : Int32) (v1_seats : Int32) (v1_laws : Int32) (v1_inForce : Int32) (a2 : Nat → Int32) (a3 : Nat → Int32) (a4 : Nat → Int32) (a5 : Nat → Option Nat) (v37_height : Int32) (v37_answer : Int64) (a38 : Nat → Int32) (a39 : Nat → Int64) (aL1 : Nat → Int32) (aL2 : Nat → Int32) (aL3 : Nat → Int32) (aL4 : Nat → Int32) : List va_E := [.inr (11, [.ref (b + 1), .ref (b + 10), .ref (b + 29), .ref (b + 30), .ref (b + 32), .ref (b + 37), .ref (b + 40), .ref (b + 42), .ref (b + 69), .ref (b + 73), .ref (b + 74), .ref (b + 76), .ref (b + 78), .int v0_faultPlace, .int v0_quashedRows, .int v0_lastRefusal]), .inr (10, [.ref (b + 2), .ref (b + 3), .ref (b + 4), .ref (b + 5), .ref (b + 6), .int v1_beasts, .int v1_meals, .int v1_seats, .int v1_laws, .int v1_inForce]), aI G 48 a2, aI G 8 a3, aI G 6 a4, aQ G 4 6 a5, .inr (0, [.ref (b + 38), .ref (b + 39), .int v37_height, .long v37_answer]), aI G 10 a38, aJ G 51 a39, .inr (5, [.ref (b + (q + 1)), .ref (b + (q + 2)), .ref (b + (q + 3)), .ref (b + (q + 4))]), aI G nh aL1, aI G nt aL2, aI G ne aL3, aI G ns aL4]
def fX11_chance_L (Fu : Nat) (nh : Nat) (nt : Nat) (ne : Nat) (ns : Nat) (b q : Nat) (v1_beasts : Int32) (v1_laws : Int32) (v1_inForce : Int32) (a2 : Nat → Int32) (a3 : Nat → Int32) (a4 : Nat → Int32) (a5 : Nat → Option Nat) (v37_height : Int32) (v37_answer : Int64) (a38 : Nat → Int32) (a39 : Nat → Int64) (aL1 : Nat → Int32) (aL2 : Nat → Int32) (aL3 : Nat → Int32) (aL4 : Nat → Int32) (x1 : Int32) (x2 : Int32) (x3 : Int32) : Option (Int32 × Int32 × Int64 × (Nat → Int32) × (Nat → Int64)) := (fX10_hasBeast v1_beasts x1).bind fun r1 => (if (r1 : Int32) = (0 : Int32) then (some ((-1 : Int32), v37_height, v37_answer, a38, a39)) else ((fX11_isHour x2).bind fun r2 => (if (r2 : Int32) = (0 : Int32) then (some ((-1 : Int32), v37_height, v37_answer, a38, a39)) else (if (x3 : Int32) < (0 : Int32) then (some ((-1 : Int32), v37_height, v37_answer, a38, a39)) else (if (x3 : Int32) ≤ (3 : Int32) then ((fX0_chanceOf_L Fu nh nt ne ns b q v1_laws v1_inForce a2 a3 a4 a5 v37_height v37_answer a38 a39 aL1 aL2 aL3 aL4 x1 x2 x3 0).bind fun r3 => (some (r3.1, r3.2.1, r3.2.2.1, r3.2.2.2.1, r3.2.2.2.2))) else (some ((-1 : Int32), v37_height, v37_answer, a38, a39)))))))
set_option maxHeartbeats 4000000 in
set_option maxRecDepth 100000 in
theorem tX11_chance_L {G : GT} {b : Nat} {q nh nt ne ns : Nat} {c0 : Hp} {n : Nat} (hw : e_wf (kW33 q) n) {v0_faultPlace : Int32} {v0_quashedRows : Int32} {v0_lastRefusal : Int32} {v1_meals : Int32} {v1_seats : Int32} {Fu : Nat} {v1_beasts : Int32} {v1_laws : Int32} {v1_inForce : Int32} {a2 : Nat → Int32} {a3 : Nat → Int32} {a4 : Nat → Int32} {a5 : Nat → Option Nat} {v37_height : Int32} {v37_answer : Int64} {a38 : Nat → Int32} {a39 : Nat → Int64} {aL1 : Nat → Int32} {aL2 : Nat → Int32} {aL3 : Nat → Int32} {aL4 : Nat → Int32} {x1 : Int32} {x2 : Int32} {x3 : Int32} {R : Int32 × Int32 × Int64 × (Nat → Int32) × (Nat → Int64)} (hf : fX11_chance_L Fu nh nt ne ns b q v1_beasts v1_laws v1_inForce a2 a3 a4 a5 v37_height v37_answer a38 a39 aL1 aL2 aL3 aL4 x1 x2 x3 = some R) : E G b yX11_chance cX11_chance 4 (some .int) (e_rm 5 0 0) e_X0 (e_Z G b (pD (some (.int R.1)) (e_ov (kW33 q) (wW33 G b q nh nt ne ns v0_faultPlace v0_quashedRows v0_lastRefusal v1_beasts v1_meals v1_seats v1_laws v1_inForce a2 a3 a4 a5 R.2.1 R.2.2.1 R.2.2.2.1 R.2.2.2.2 aL1 aL2 aL3 aL4) c0) n) 0 0) 0 [(0, .ref (b + 0)), (1, .int x1), (2, .int x2), (3, .int x3)] [] (e_ov (kW33 q) (wW33 G b q nh nt ne ns v0_faultPlace v0_quashedRows v0_lastRefusal v1_beasts v1_meals v1_seats v1_laws v1_inForce a2 a3 a4 a5 v37_height v37_answer a38 a39 aL1 aL2 aL3 aL4) c0) n 0 0 := by
  unfold fX11_chance_L at hf
  refine E.aload_n 0 dX11_chance_0 rfl ?_
  refine E.get hw 0 0 dX11_chance_1 flX11_10 rfl rfl rfl rfl ?_
  refine E.iload_n 1 dX11_chance_4 rfl ?_
  obtain ⟨r1, hc1, hf⟩ := e_bind hf
  refine E.callVDs (es' := (wW33 G b q nh nt ne ns v0_faultPlace v0_quashedRows v0_lastRefusal v1_beasts v1_meals v1_seats v1_laws v1_inForce a2 a3 a4 a5 v37_height v37_answer a38 a39 aL1 aL2 aL3 aL4)) [] [1] 1 1 dX11_chance_5 mlX11_111 hw rfl rfl rfl rfl (mX10_hasBeast (hw.pick2 [1] rfl (by decide)) hc1) rfl rfl rfl rfl ⟨Nat.le_of_ble_eq_true rfl, Nat.le_of_ble_eq_true rfl⟩ rfl rfl (Nat.le_of_ble_eq_true rfl) ⟨Nat.le_refl _, Nat.le_refl _⟩ rfl ?_
  refine E.if_eq dX11_chance_8 (fun h => ?_) (fun h => ?_)
  · have hf := e_ift hf h
    refine E.iconst (v := -1) dX11_chance_27 (by decide) ?_
    cases hf
    exact E.iret dX11_chance_28 (Nat.le_refl _) (Nat.le_refl _) (pD_rf _ _ _)
  · have hf := e_iff hf h
    refine E.iload_n 2 dX11_chance_11 rfl ?_
    obtain ⟨r2, hc2, hf⟩ := e_bind hf
    refine E.callSD [] dX11_chance_12 mlX11_119 (mX11_isHour hc2) ⟨Nat.le_of_ble_eq_true rfl, Nat.le_of_ble_eq_true rfl⟩ rfl rfl (Nat.le_of_ble_eq_true rfl) ⟨Nat.le_refl _, Nat.le_refl _⟩ rfl ?_
    refine E.if_eq dX11_chance_15 (fun h => ?_) (fun h => ?_)
    · have hf := e_ift hf h
      refine E.iconst (v := -1) dX11_chance_27 (by decide) ?_
      cases hf
      exact E.iret dX11_chance_28 (Nat.le_refl _) (Nat.le_refl _) (pD_rf _ _ _)
    · have hf := e_iff hf h
      refine E.iload_n 3 dX11_chance_18 rfl ?_
      refine E.if_lt dX11_chance_19 (fun h => ?_) (fun h => ?_)
      · have hf := e_ift hf h
        refine E.iconst (v := -1) dX11_chance_27 (by decide) ?_
        cases hf
        exact E.iret dX11_chance_28 (Nat.le_refl _) (Nat.le_refl _) (pD_rf _ _ _)
      · have hf := e_iff hf h
        refine E.iload_n 3 dX11_chance_22 rfl ?_
        refine E.iconst (v := 3) dX11_chance_23 (by decide) ?_
        refine E.icmp_le dX11_chance_24 (fun h => ?_) (fun h => ?_)
        · have hf := e_ift hf h
          refine E.aload_n 0 dX11_chance_29 rfl ?_
          refine E.get hw 0 0 dX11_chance_30 flX11_43 rfl rfl rfl rfl ?_
          refine E.aload_n 0 dX11_chance_33 rfl ?_
          refine E.get hw 0 0 dX11_chance_34 flX11_10 rfl rfl rfl rfl ?_
          refine E.iload_n 1 dX11_chance_37 rfl ?_
          refine E.iload_n 2 dX11_chance_38 rfl ?_
          refine E.iload_n 3 dX11_chance_39 rfl ?_
          refine E.iconst (v := 0) dX11_chance_40 (by decide) ?_
          obtain ⟨r3, hc3, hf⟩ := e_bind hf
          refine E.callVDs (es' := (wW33 G b q nh nt ne ns v0_faultPlace v0_quashedRows v0_lastRefusal v1_beasts v1_meals v1_seats v1_laws v1_inForce a2 a3 a4 a5 r3.2.1 r3.2.2.1 r3.2.2.2.1 r3.2.2.2.2 aL1 aL2 aL3 aL4)) [] [1, 2, 3, 4, 5, 6, 7, 8, 9, 10, 11, 12, 13] 6 37 dX11_chance_41 mlX11_199 hw rfl rfl rfl rfl (mX0_chanceOf_L (hw.pick2 [1, 2, 3, 4, 5, 6, 7, 8, 9, 10, 11, 12, 13] rfl (by decide)) hc3) rfl rfl rfl rfl ⟨Nat.le_of_ble_eq_true rfl, Nat.le_of_ble_eq_true rfl⟩ rfl rfl (Nat.le_of_ble_eq_true rfl) ⟨Nat.le_refl _, Nat.le_refl _⟩ rfl ?_
          cases hf
          exact E.iret dX11_chance_44 (Nat.le_refl _) (Nat.le_refl _) (pD_rf _ _ _)
        · have hf := e_iff hf h
          refine E.iconst (v := -1) dX11_chance_27 (by decide) ?_
          cases hf
          exact E.iret dX11_chance_28 (Nat.le_refl _) (Nat.le_refl _) (pD_rf _ _ _)
set_option maxRecDepth 100000 in
theorem mX11_chance_L {G : GT} {b : Nat} {q nh nt ne ns : Nat} {c0 : Hp} {n : Nat} (hw : e_wf (kW33 q) n) {v0_faultPlace : Int32} {v0_quashedRows : Int32} {v0_lastRefusal : Int32} {v1_meals : Int32} {v1_seats : Int32} {Fu : Nat} {v1_beasts : Int32} {v1_laws : Int32} {v1_inForce : Int32} {a2 : Nat → Int32} {a3 : Nat → Int32} {a4 : Nat → Int32} {a5 : Nat → Option Nat} {v37_height : Int32} {v37_answer : Int64} {a38 : Nat → Int32} {a39 : Nat → Int64} {aL1 : Nat → Int32} {aL2 : Nat → Int32} {aL3 : Nat → Int32} {aL4 : Nat → Int32} {x1 : Int32} {x2 : Int32} {x3 : Int32} {R : Int32 × Int32 × Int64 × (Nat → Int32) × (Nat → Int64)} (hf : fX11_chance_L Fu nh nt ne ns b q v1_beasts v1_laws v1_inForce a2 a3 a4 a5 v37_height v37_answer a38 a39 aL1 aL2 aL3 aL4 x1 x2 x3 = some R) : e_C G b yX11_chance cX11_chance 4 (some .int) 5 0 0 [.ref (b + 0), .int x1, .int x2, .int x3] (e_ov (kW33 q) (wW33 G b q nh nt ne ns v0_faultPlace v0_quashedRows v0_lastRefusal v1_beasts v1_meals v1_seats v1_laws v1_inForce a2 a3 a4 a5 v37_height v37_answer a38 a39 aL1 aL2 aL3 aL4) c0) n (pD (some (.int R.1)) (e_ov (kW33 q) (wW33 G b q nh nt ne ns v0_faultPlace v0_quashedRows v0_lastRefusal v1_beasts v1_meals v1_seats v1_laws v1_inForce a2 a3 a4 a5 R.2.1 R.2.2.1 R.2.2.2.1 R.2.2.2.2 aL1 aL2 aL3 aL4) c0) n) := e_C.of (by decide) (Nat.le_of_ble_eq_true rfl) (tX11_chance_L hw hf)
def fX0_priceOf_N (Fu : Nat) (v1_laws : Int32) (v1_inForce : Int32) (a2 : Nat → Int32) (a3 : Nat → Int32) (a4 : Nat → Int32) (a5 : Nat → Option Nat) (a38 : Nat → Int32) (x2 : Int32) (x3 : Int32) : Option (Int32 × (Nat → Int32)) := gd 1 6 ((fX10_trait a2 x2 5).bind fun r2 => ((fX0_learn a2 a3 a4 a38 x2 (a4 (1 : Int32).toNatClampNeg) r2).bind fun r3 => (gd 8 10 ((fX10_ruling_N v1_laws v1_inForce a5).bind fun r5 => (gq r5 none ((fX0_told_N Fu 2 10 999).bind fun r7 => (some (r7, (va_up r3 (8 : Int32).toNatClampNeg x3)))))))))
set_option maxHeartbeats 4000000 in
set_option maxRecDepth 100000 in
theorem tX0_priceOf_N {G : GT} {b : Nat} {c0 : Hp} {n : Nat} (hw : e_wf (kW26) n) {v1_beasts : Int32} {v1_meals : Int32} {v1_seats : Int32} {v37_height : Int32} {v37_answer : Int64} {Fu : Nat} {v1_laws : Int32} {v1_inForce : Int32} {a2 : Nat → Int32} {a3 : Nat → Int32} {a4 : Nat → Int32} {a5 : Nat → Option Nat} {a38 : Nat → Int32} {x2 : Int32} {x3 : Int32} {R : Int32 × (Nat → Int32)} (hf : fX0_priceOf_N Fu v1_laws v1_inForce a2 a3 a4 a5 a38 x2 x3 = some R) : E G b yX0_priceOf cX0_priceOf 4 (some .int) (e_rm 3 0 0) e_X0 (e_Z G b (pD (some (.int R.1)) (e_ov (kW26) (wW26 G b v1_beasts v1_meals v1_seats v1_laws v1_inForce a2 a3 a4 a5 v37_height v37_answer R.2) c0) n) 0 0) 0 [(0, .ref (b + 37)), (1, .ref (b + 1)), (2, .int x2), (3, .int x3)] [] (e_ov (kW26) (wW26 G b v1_beasts v1_meals v1_seats v1_laws v1_inForce a2 a3 a4 a5 v37_height v37_answer a38) c0) n 0 0 := by
  unfold fX0_priceOf_N at hf
  refine E.aload_n 0 dX0_priceOf_0 rfl ?_
  refine E.aload_n 1 dX0_priceOf_1 rfl ?_
  refine E.iload_n 2 dX0_priceOf_2 rfl ?_
  refine E.aload_n 1 dX0_priceOf_3 rfl ?_
  refine E.getN hw 0 1 dX0_priceOf_4 fnX0_35 rfl rfl rfl rfl ?_
  refine E.iconst (v := 1) dX0_priceOf_7 (by decide) ?_
  obtain ⟨g1, hf⟩ := gd_some hf
  refine E.iald hw 3 4 dX0_priceOf_8 rfl rfl g1 ?_
  refine E.aload_n 1 dX0_priceOf_9 rfl ?_
  refine E.iload_n 2 dX0_priceOf_10 rfl ?_
  refine E.iconst (v := 5) dX0_priceOf_11 (by decide) ?_
  obtain ⟨r2, hc2, hf⟩ := e_bind hf
  refine E.callVDs (es' := (wW26 G b v1_beasts v1_meals v1_seats v1_laws v1_inForce a2 a3 a4 a5 v37_height v37_answer a38)) [.int (a4 (1 : Int32).toNatClampNeg), .int x2, .ref (b + 1), .ref (b + 37)] [0, 1] 0 1 dX0_priceOf_12 mlX0_38 hw rfl rfl rfl rfl (mX10_trait (hw.pick2 [0, 1] rfl (by decide)) hc2) rfl rfl rfl rfl ⟨Nat.le_of_ble_eq_true rfl, Nat.le_of_ble_eq_true rfl⟩ rfl rfl (Nat.le_of_ble_eq_true rfl) ⟨Nat.le_refl _, Nat.le_refl _⟩ rfl ?_
  obtain ⟨r3, hc3, hf⟩ := e_bind hf
  refine E.callVDs (es' := (wW26 G b v1_beasts v1_meals v1_seats v1_laws v1_inForce a2 a3 a4 a5 v37_height v37_answer r3)) [] [0, 1, 2, 3, 5, 6] 5 37 dX0_priceOf_15 mlX0_21 hw rfl rfl rfl rfl (mX0_learn (hw.pick2 [0, 1, 2, 3, 5, 6] rfl (by decide)) hc3) rfl rfl rfl rfl ⟨Nat.le_of_ble_eq_true rfl, Nat.le_of_ble_eq_true rfl⟩ rfl rfl (Nat.le_of_ble_eq_true rfl) ⟨Nat.le_refl _, Nat.le_refl _⟩ rfl ?_
  refine E.aload_n 0 dX0_priceOf_18 rfl ?_
  refine E.get hw 5 37 dX0_priceOf_19 flX0_11 rfl rfl rfl rfl ?_
  refine E.bipush (v := 8) dX0_priceOf_22 (by decide) ?_
  refine E.iload_n 3 dX0_priceOf_24 rfl ?_
  obtain ⟨g4, hf⟩ := gd_some hf
  refine E.iast (es' := (wW26 G b v1_beasts v1_meals v1_seats v1_laws v1_inForce a2 a3 a4 a5 v37_height v37_answer (va_up r3 (8 : Int32).toNatClampNeg x3))) hw 6 38 dX0_priceOf_25 rfl rfl g4 rfl ?_
  refine E.aload_n 0 dX0_priceOf_26 rfl ?_
  refine E.aload_n 1 dX0_priceOf_27 rfl ?_
  obtain ⟨r5, hc5, hf⟩ := e_bind hf
  obtain ⟨g6, hf⟩ := gq_some hf
  refine E.callVDs (es' := (wW26 G b v1_beasts v1_meals v1_seats v1_laws v1_inForce a2 a3 a4 a5 v37_height v37_answer (va_up r3 (8 : Int32).toNatClampNeg x3))) [.ref (b + 37)] [0, 4] 0 1 dX0_priceOf_28 mlX0_25 hw rfl rfl rfl rfl (mX10_ruling_N (hw.pick2 [0, 4] rfl (by decide)) hc5) rfl rfl rfl rfl ⟨Nat.le_of_ble_eq_true rfl, Nat.le_of_ble_eq_true rfl⟩ rfl rfl (Nat.le_of_ble_eq_true rfl) ⟨Nat.le_refl _, Nat.le_refl _⟩ (by rw [g6] <;> rfl) ?_
  refine E.iconst (v := 2) dX0_priceOf_31 (by decide) ?_
  refine E.bipush (v := 10) dX0_priceOf_32 (by decide) ?_
  refine E.sipush (v := 999) dX0_priceOf_34 (by decide) ?_
  obtain ⟨r7, hc7, hf⟩ := e_bind hf
  refine E.callVDs (es' := (wW26 G b v1_beasts v1_meals v1_seats v1_laws v1_inForce a2 a3 a4 a5 v37_height v37_answer (va_up r3 (8 : Int32).toNatClampNeg x3))) [] [5] 5 37 dX0_priceOf_37 mlX0_31 hw rfl rfl rfl rfl (mX0_told_N (hw.pick2 [5] rfl (by decide)) hc7) rfl rfl rfl rfl ⟨Nat.le_of_ble_eq_true rfl, Nat.le_of_ble_eq_true rfl⟩ rfl rfl (Nat.le_of_ble_eq_true rfl) ⟨Nat.le_refl _, Nat.le_refl _⟩ rfl ?_
  cases hf
  exact E.iret dX0_priceOf_40 (Nat.le_refl _) (Nat.le_refl _) (pD_rf _ _ _)
set_option maxRecDepth 100000 in
theorem mX0_priceOf_N {G : GT} {b : Nat} {c0 : Hp} {n : Nat} (hw : e_wf (kW26) n) {v1_beasts : Int32} {v1_meals : Int32} {v1_seats : Int32} {v37_height : Int32} {v37_answer : Int64} {Fu : Nat} {v1_laws : Int32} {v1_inForce : Int32} {a2 : Nat → Int32} {a3 : Nat → Int32} {a4 : Nat → Int32} {a5 : Nat → Option Nat} {a38 : Nat → Int32} {x2 : Int32} {x3 : Int32} {R : Int32 × (Nat → Int32)} (hf : fX0_priceOf_N Fu v1_laws v1_inForce a2 a3 a4 a5 a38 x2 x3 = some R) : e_C G b yX0_priceOf cX0_priceOf 4 (some .int) 3 0 0 [.ref (b + 37), .ref (b + 1), .int x2, .int x3] (e_ov (kW26) (wW26 G b v1_beasts v1_meals v1_seats v1_laws v1_inForce a2 a3 a4 a5 v37_height v37_answer a38) c0) n (pD (some (.int R.1)) (e_ov (kW26) (wW26 G b v1_beasts v1_meals v1_seats v1_laws v1_inForce a2 a3 a4 a5 v37_height v37_answer R.2) c0) n) := e_C.of (by decide) (Nat.le_of_ble_eq_true rfl) (tX0_priceOf_N hw hf)
def fX11_price_N (Fu : Nat) (v1_beasts : Int32) (v1_laws : Int32) (v1_inForce : Int32) (a2 : Nat → Int32) (a3 : Nat → Int32) (a4 : Nat → Int32) (a5 : Nat → Option Nat) (a38 : Nat → Int32) (x1 : Int32) (x2 : Int32) : Option (Int32 × (Nat → Int32)) := (fX10_hasBeast v1_beasts x1).bind fun r1 => (if (r1 : Int32) = (0 : Int32) then (some ((-1 : Int32), a38)) else ((fX11_isSide x2).bind fun r2 => (if (r2 : Int32) = (0 : Int32) then (some ((-1 : Int32), a38)) else ((fX0_priceOf_N Fu v1_laws v1_inForce a2 a3 a4 a5 a38 x1 x2).bind fun r3 => (some (r3.1, r3.2))))))
set_option maxHeartbeats 4000000 in
set_option maxRecDepth 100000 in
theorem tX11_price_N {G : GT} {b : Nat} {c0 : Hp} {n : Nat} (hw : e_wf (kW27) n) {v0_faultPlace : Int32} {v0_quashedRows : Int32} {v0_lastRefusal : Int32} {v1_meals : Int32} {v1_seats : Int32} {v37_height : Int32} {v37_answer : Int64} {Fu : Nat} {v1_beasts : Int32} {v1_laws : Int32} {v1_inForce : Int32} {a2 : Nat → Int32} {a3 : Nat → Int32} {a4 : Nat → Int32} {a5 : Nat → Option Nat} {a38 : Nat → Int32} {x1 : Int32} {x2 : Int32} {R : Int32 × (Nat → Int32)} (hf : fX11_price_N Fu v1_beasts v1_laws v1_inForce a2 a3 a4 a5 a38 x1 x2 = some R) : E G b yX11_price cX11_price 3 (some .int) (e_rm 4 0 0) e_X0 (e_Z G b (pD (some (.int R.1)) (e_ov (kW27) (wW27 G b v0_faultPlace v0_quashedRows v0_lastRefusal v1_beasts v1_meals v1_seats v1_laws v1_inForce a2 a3 a4 a5 v37_height v37_answer R.2) c0) n) 0 0) 0 [(0, .ref (b + 0)), (1, .int x1), (2, .int x2)] [] (e_ov (kW27) (wW27 G b v0_faultPlace v0_quashedRows v0_lastRefusal v1_beasts v1_meals v1_seats v1_laws v1_inForce a2 a3 a4 a5 v37_height v37_answer a38) c0) n 0 0 := by
  unfold fX11_price_N at hf
  refine E.aload_n 0 dX11_price_0 rfl ?_
  refine E.get hw 0 0 dX11_price_1 flX11_10 rfl rfl rfl rfl ?_
  refine E.iload_n 1 dX11_price_4 rfl ?_
  obtain ⟨r1, hc1, hf⟩ := e_bind hf
  refine E.callVDs (es' := (wW27 G b v0_faultPlace v0_quashedRows v0_lastRefusal v1_beasts v1_meals v1_seats v1_laws v1_inForce a2 a3 a4 a5 v37_height v37_answer a38)) [] [1] 1 1 dX11_price_5 mlX11_111 hw rfl rfl rfl rfl (mX10_hasBeast (hw.pick2 [1] rfl (by decide)) hc1) rfl rfl rfl rfl ⟨Nat.le_of_ble_eq_true rfl, Nat.le_of_ble_eq_true rfl⟩ rfl rfl (Nat.le_of_ble_eq_true rfl) ⟨Nat.le_refl _, Nat.le_refl _⟩ rfl ?_
  refine E.if_eq dX11_price_8 (fun h => ?_) (fun h => ?_)
  · have hf := e_ift hf h
    refine E.iconst (v := -1) dX11_price_18 (by decide) ?_
    cases hf
    exact E.iret dX11_price_19 (Nat.le_refl _) (Nat.le_refl _) (pD_rf _ _ _)
  · have hf := e_iff hf h
    refine E.iload_n 2 dX11_price_11 rfl ?_
    obtain ⟨r2, hc2, hf⟩ := e_bind hf
    refine E.callSD [] dX11_price_12 mlX11_203 (mX11_isSide hc2) ⟨Nat.le_of_ble_eq_true rfl, Nat.le_of_ble_eq_true rfl⟩ rfl rfl (Nat.le_of_ble_eq_true rfl) ⟨Nat.le_refl _, Nat.le_refl _⟩ rfl ?_
    refine E.if_ne dX11_price_15 (fun h => ?_) (fun h => ?_)
    · have hf := e_iff hf h
      refine E.aload_n 0 dX11_price_20 rfl ?_
      refine E.get hw 0 0 dX11_price_21 flX11_43 rfl rfl rfl rfl ?_
      refine E.aload_n 0 dX11_price_24 rfl ?_
      refine E.get hw 0 0 dX11_price_25 flX11_10 rfl rfl rfl rfl ?_
      refine E.iload_n 1 dX11_price_28 rfl ?_
      refine E.iload_n 2 dX11_price_29 rfl ?_
      obtain ⟨r3, hc3, hf⟩ := e_bind hf
      refine E.callVDs (es' := (wW27 G b v0_faultPlace v0_quashedRows v0_lastRefusal v1_beasts v1_meals v1_seats v1_laws v1_inForce a2 a3 a4 a5 v37_height v37_answer r3.2)) [] [1, 2, 3, 4, 5, 6, 7] 6 37 dX11_price_30 mlX11_206 hw rfl rfl rfl rfl (mX0_priceOf_N (hw.pick2 [1, 2, 3, 4, 5, 6, 7] rfl (by decide)) hc3) rfl rfl rfl rfl ⟨Nat.le_of_ble_eq_true rfl, Nat.le_of_ble_eq_true rfl⟩ rfl rfl (Nat.le_of_ble_eq_true rfl) ⟨Nat.le_refl _, Nat.le_refl _⟩ rfl ?_
      cases hf
      exact E.iret dX11_price_33 (Nat.le_refl _) (Nat.le_refl _) (pD_rf _ _ _)
    · have hf := e_ift hf h
      refine E.iconst (v := -1) dX11_price_18 (by decide) ?_
      cases hf
      exact E.iret dX11_price_19 (Nat.le_refl _) (Nat.le_refl _) (pD_rf _ _ _)
set_option maxRecDepth 100000 in
theorem mX11_price_N {G : GT} {b : Nat} {c0 : Hp} {n : Nat} (hw : e_wf (kW27) n) {v0_faultPlace : Int32} {v0_quashedRows : Int32} {v0_lastRefusal : Int32} {v1_meals : Int32} {v1_seats : Int32} {v37_height : Int32} {v37_answer : Int64} {Fu : Nat} {v1_beasts : Int32} {v1_laws : Int32} {v1_inForce : Int32} {a2 : Nat → Int32} {a3 : Nat → Int32} {a4 : Nat → Int32} {a5 : Nat → Option Nat} {a38 : Nat → Int32} {x1 : Int32} {x2 : Int32} {R : Int32 × (Nat → Int32)} (hf : fX11_price_N Fu v1_beasts v1_laws v1_inForce a2 a3 a4 a5 a38 x1 x2 = some R) : e_C G b yX11_price cX11_price 3 (some .int) 4 0 0 [.ref (b + 0), .int x1, .int x2] (e_ov (kW27) (wW27 G b v0_faultPlace v0_quashedRows v0_lastRefusal v1_beasts v1_meals v1_seats v1_laws v1_inForce a2 a3 a4 a5 v37_height v37_answer a38) c0) n (pD (some (.int R.1)) (e_ov (kW27) (wW27 G b v0_faultPlace v0_quashedRows v0_lastRefusal v1_beasts v1_meals v1_seats v1_laws v1_inForce a2 a3 a4 a5 v37_height v37_answer R.2) c0) n) := e_C.of (by decide) (Nat.le_of_ble_eq_true rfl) (tX11_price_N hw hf)
def fX0_priceOf_L (Fu : Nat) (nh : Nat) (nt : Nat) (ne : Nat) (ns : Nat) (b q : Nat) (v1_laws : Int32) (v1_inForce : Int32) (a2 : Nat → Int32) (a3 : Nat → Int32) (a4 : Nat → Int32) (a5 : Nat → Option Nat) (v37_height : Int32) (v37_answer : Int64) (a38 : Nat → Int32) (a39 : Nat → Int64) (aL1 : Nat → Int32) (aL2 : Nat → Int32) (aL3 : Nat → Int32) (aL4 : Nat → Int32) (x2 : Int32) (x3 : Int32) : Option (Int32 × Int32 × Int64 × (Nat → Int32) × (Nat → Int64)) := gd 1 6 ((fX10_trait a2 x2 5).bind fun r2 => ((fX0_learn a2 a3 a4 a38 x2 (a4 (1 : Int32).toNatClampNeg) r2).bind fun r3 => (gd 8 10 ((fX10_ruling_L v1_laws v1_inForce a5).bind fun r5 => (gq r5 (some (b + q)) ((fX0_told_L Fu nh nt ne ns v37_height v37_answer (va_up r3 (8 : Int32).toNatClampNeg x3) a39 aL1 aL2 aL3 aL4 2 10 999).bind fun r7 => (some (r7.1, r7.2.1, r7.2.2.1, (va_up r3 (8 : Int32).toNatClampNeg x3), r7.2.2.2))))))))
set_option maxHeartbeats 4000000 in
set_option maxRecDepth 100000 in
theorem tX0_priceOf_L {G : GT} {b : Nat} {q nh nt ne ns : Nat} {c0 : Hp} {n : Nat} (hw : e_wf (kW32 q) n) {v1_beasts : Int32} {v1_meals : Int32} {v1_seats : Int32} {Fu : Nat} {v1_laws : Int32} {v1_inForce : Int32} {a2 : Nat → Int32} {a3 : Nat → Int32} {a4 : Nat → Int32} {a5 : Nat → Option Nat} {v37_height : Int32} {v37_answer : Int64} {a38 : Nat → Int32} {a39 : Nat → Int64} {aL1 : Nat → Int32} {aL2 : Nat → Int32} {aL3 : Nat → Int32} {aL4 : Nat → Int32} {x2 : Int32} {x3 : Int32} {R : Int32 × Int32 × Int64 × (Nat → Int32) × (Nat → Int64)} (hf : fX0_priceOf_L Fu nh nt ne ns b q v1_laws v1_inForce a2 a3 a4 a5 v37_height v37_answer a38 a39 aL1 aL2 aL3 aL4 x2 x3 = some R) : E G b yX0_priceOf cX0_priceOf 4 (some .int) (e_rm 4 0 0) e_X0 (e_Z G b (pD (some (.int R.1)) (e_ov (kW32 q) (wW32 G b q nh nt ne ns v1_beasts v1_meals v1_seats v1_laws v1_inForce a2 a3 a4 a5 R.2.1 R.2.2.1 R.2.2.2.1 R.2.2.2.2 aL1 aL2 aL3 aL4) c0) n) 0 0) 0 [(0, .ref (b + 37)), (1, .ref (b + 1)), (2, .int x2), (3, .int x3)] [] (e_ov (kW32 q) (wW32 G b q nh nt ne ns v1_beasts v1_meals v1_seats v1_laws v1_inForce a2 a3 a4 a5 v37_height v37_answer a38 a39 aL1 aL2 aL3 aL4) c0) n 0 0 := by
  unfold fX0_priceOf_L at hf
  refine E.aload_n 0 dX0_priceOf_0 rfl ?_
  refine E.aload_n 1 dX0_priceOf_1 rfl ?_
  refine E.iload_n 2 dX0_priceOf_2 rfl ?_
  refine E.aload_n 1 dX0_priceOf_3 rfl ?_
  refine E.getN hw 0 1 dX0_priceOf_4 fnX0_35 rfl rfl rfl rfl ?_
  refine E.iconst (v := 1) dX0_priceOf_7 (by decide) ?_
  obtain ⟨g1, hf⟩ := gd_some hf
  refine E.iald hw 3 4 dX0_priceOf_8 rfl rfl g1 ?_
  refine E.aload_n 1 dX0_priceOf_9 rfl ?_
  refine E.iload_n 2 dX0_priceOf_10 rfl ?_
  refine E.iconst (v := 5) dX0_priceOf_11 (by decide) ?_
  obtain ⟨r2, hc2, hf⟩ := e_bind hf
  refine E.callVDs (es' := (wW32 G b q nh nt ne ns v1_beasts v1_meals v1_seats v1_laws v1_inForce a2 a3 a4 a5 v37_height v37_answer a38 a39 aL1 aL2 aL3 aL4)) [.int (a4 (1 : Int32).toNatClampNeg), .int x2, .ref (b + 1), .ref (b + 37)] [0, 1] 0 1 dX0_priceOf_12 mlX0_38 hw rfl rfl rfl rfl (mX10_trait (hw.pick2 [0, 1] rfl (by decide)) hc2) rfl rfl rfl rfl ⟨Nat.le_of_ble_eq_true rfl, Nat.le_of_ble_eq_true rfl⟩ rfl rfl (Nat.le_of_ble_eq_true rfl) ⟨Nat.le_refl _, Nat.le_refl _⟩ rfl ?_
  obtain ⟨r3, hc3, hf⟩ := e_bind hf
  refine E.callVDs (es' := (wW32 G b q nh nt ne ns v1_beasts v1_meals v1_seats v1_laws v1_inForce a2 a3 a4 a5 v37_height v37_answer r3 a39 aL1 aL2 aL3 aL4)) [] [0, 1, 2, 3, 5, 6] 5 37 dX0_priceOf_15 mlX0_21 hw rfl rfl rfl rfl (mX0_learn (hw.pick2 [0, 1, 2, 3, 5, 6] rfl (by decide)) hc3) rfl rfl rfl rfl ⟨Nat.le_of_ble_eq_true rfl, Nat.le_of_ble_eq_true rfl⟩ rfl rfl (Nat.le_of_ble_eq_true rfl) ⟨Nat.le_refl _, Nat.le_refl _⟩ rfl ?_
  refine E.aload_n 0 dX0_priceOf_18 rfl ?_
  refine E.get hw 5 37 dX0_priceOf_19 flX0_11 rfl rfl rfl rfl ?_
  refine E.bipush (v := 8) dX0_priceOf_22 (by decide) ?_
  refine E.iload_n 3 dX0_priceOf_24 rfl ?_
  obtain ⟨g4, hf⟩ := gd_some hf
  refine E.iast (es' := (wW32 G b q nh nt ne ns v1_beasts v1_meals v1_seats v1_laws v1_inForce a2 a3 a4 a5 v37_height v37_answer (va_up r3 (8 : Int32).toNatClampNeg x3) a39 aL1 aL2 aL3 aL4)) hw 6 38 dX0_priceOf_25 rfl rfl g4 rfl ?_
  refine E.aload_n 0 dX0_priceOf_26 rfl ?_
  refine E.aload_n 1 dX0_priceOf_27 rfl ?_
  obtain ⟨r5, hc5, hf⟩ := e_bind hf
  obtain ⟨g6, hf⟩ := gq_some hf
  refine E.callVDs (es' := (wW32 G b q nh nt ne ns v1_beasts v1_meals v1_seats v1_laws v1_inForce a2 a3 a4 a5 v37_height v37_answer (va_up r3 (8 : Int32).toNatClampNeg x3) a39 aL1 aL2 aL3 aL4)) [.ref (b + 37)] [0, 4] 0 1 dX0_priceOf_28 mlX0_25 hw rfl rfl rfl rfl (mX10_ruling_L (hw.pick2 [0, 4] rfl (by decide)) hc5) rfl rfl rfl rfl ⟨Nat.le_of_ble_eq_true rfl, Nat.le_of_ble_eq_true rfl⟩ rfl rfl (Nat.le_of_ble_eq_true rfl) ⟨Nat.le_refl _, Nat.le_refl _⟩ (by rw [g6] <;> rfl) ?_
  refine E.iconst (v := 2) dX0_priceOf_31 (by decide) ?_
  refine E.bipush (v := 10) dX0_priceOf_32 (by decide) ?_
  refine E.sipush (v := 999) dX0_priceOf_34 (by decide) ?_
  obtain ⟨r7, hc7, hf⟩ := e_bind hf
  refine E.callVDs (es' := (wW32 G b q nh nt ne ns v1_beasts v1_meals v1_seats v1_laws v1_inForce a2 a3 a4 a5 r7.2.1 r7.2.2.1 (va_up r3 (8 : Int32).toNatClampNeg x3) r7.2.2.2 aL1 aL2 aL3 aL4)) [] [5, 6, 7, 8, 9, 10, 11, 12] 5 37 dX0_priceOf_37 mlX0_31 hw rfl rfl rfl rfl (mX0_told_L (hw.pick2 [5, 6, 7, 8, 9, 10, 11, 12] rfl (by decide)) hc7) rfl rfl rfl rfl ⟨Nat.le_of_ble_eq_true rfl, Nat.le_of_ble_eq_true rfl⟩ rfl rfl (Nat.le_of_ble_eq_true rfl) ⟨Nat.le_refl _, Nat.le_refl _⟩ rfl ?_
  cases hf
  exact E.iret dX0_priceOf_40 (Nat.le_refl _) (Nat.le_refl _) (pD_rf _ _ _)
set_option maxRecDepth 100000 in
theorem mX0_priceOf_L {G : GT} {b : Nat} {q nh nt ne ns : Nat} {c0 : Hp} {n : Nat} (hw : e_wf (kW32 q) n) {v1_beasts : Int32} {v1_meals : Int32} {v1_seats : Int32} {Fu : Nat} {v1_laws : Int32} {v1_inForce : Int32} {a2 : Nat → Int32} {a3 : Nat → Int32} {a4 : Nat → Int32} {a5 : Nat → Option Nat} {v37_height : Int32} {v37_answer : Int64} {a38 : Nat → Int32} {a39 : Nat → Int64} {aL1 : Nat → Int32} {aL2 : Nat → Int32} {aL3 : Nat → Int32} {aL4 : Nat → Int32} {x2 : Int32} {x3 : Int32} {R : Int32 × Int32 × Int64 × (Nat → Int32) × (Nat → Int64)} (hf : fX0_priceOf_L Fu nh nt ne ns b q v1_laws v1_inForce a2 a3 a4 a5 v37_height v37_answer a38 a39 aL1 aL2 aL3 aL4 x2 x3 = some R) : e_C G b yX0_priceOf cX0_priceOf 4 (some .int) 4 0 0 [.ref (b + 37), .ref (b + 1), .int x2, .int x3] (e_ov (kW32 q) (wW32 G b q nh nt ne ns v1_beasts v1_meals v1_seats v1_laws v1_inForce a2 a3 a4 a5 v37_height v37_answer a38 a39 aL1 aL2 aL3 aL4) c0) n (pD (some (.int R.1)) (e_ov (kW32 q) (wW32 G b q nh nt ne ns v1_beasts v1_meals v1_seats v1_laws v1_inForce a2 a3 a4 a5 R.2.1 R.2.2.1 R.2.2.2.1 R.2.2.2.2 aL1 aL2 aL3 aL4) c0) n) := e_C.of (by decide) (Nat.le_of_ble_eq_true rfl) (tX0_priceOf_L hw hf)
def fX11_price_L (Fu : Nat) (nh : Nat) (nt : Nat) (ne : Nat) (ns : Nat) (b q : Nat) (v1_beasts : Int32) (v1_laws : Int32) (v1_inForce : Int32) (a2 : Nat → Int32) (a3 : Nat → Int32) (a4 : Nat → Int32) (a5 : Nat → Option Nat) (v37_height : Int32) (v37_answer : Int64) (a38 : Nat → Int32) (a39 : Nat → Int64) (aL1 : Nat → Int32) (aL2 : Nat → Int32) (aL3 : Nat → Int32) (aL4 : Nat → Int32) (x1 : Int32) (x2 : Int32) : Option (Int32 × Int32 × Int64 × (Nat → Int32) × (Nat → Int64)) := (fX10_hasBeast v1_beasts x1).bind fun r1 => (if (r1 : Int32) = (0 : Int32) then (some ((-1 : Int32), v37_height, v37_answer, a38, a39)) else ((fX11_isSide x2).bind fun r2 => (if (r2 : Int32) = (0 : Int32) then (some ((-1 : Int32), v37_height, v37_answer, a38, a39)) else ((fX0_priceOf_L Fu nh nt ne ns b q v1_laws v1_inForce a2 a3 a4 a5 v37_height v37_answer a38 a39 aL1 aL2 aL3 aL4 x1 x2).bind fun r3 => (some (r3.1, r3.2.1, r3.2.2.1, r3.2.2.2.1, r3.2.2.2.2))))))
set_option maxHeartbeats 4000000 in
set_option maxRecDepth 100000 in
theorem tX11_price_L {G : GT} {b : Nat} {q nh nt ne ns : Nat} {c0 : Hp} {n : Nat} (hw : e_wf (kW33 q) n) {v0_faultPlace : Int32} {v0_quashedRows : Int32} {v0_lastRefusal : Int32} {v1_meals : Int32} {v1_seats : Int32} {Fu : Nat} {v1_beasts : Int32} {v1_laws : Int32} {v1_inForce : Int32} {a2 : Nat → Int32} {a3 : Nat → Int32} {a4 : Nat → Int32} {a5 : Nat → Option Nat} {v37_height : Int32} {v37_answer : Int64} {a38 : Nat → Int32} {a39 : Nat → Int64} {aL1 : Nat → Int32} {aL2 : Nat → Int32} {aL3 : Nat → Int32} {aL4 : Nat → Int32} {x1 : Int32} {x2 : Int32} {R : Int32 × Int32 × Int64 × (Nat → Int32) × (Nat → Int64)} (hf : fX11_price_L Fu nh nt ne ns b q v1_beasts v1_laws v1_inForce a2 a3 a4 a5 v37_height v37_answer a38 a39 aL1 aL2 aL3 aL4 x1 x2 = some R) : E G b yX11_price cX11_price 3 (some .int) (e_rm 5 0 0) e_X0 (e_Z G b (pD (some (.int R.1)) (e_ov (kW33 q) (wW33 G b q nh nt ne ns v0_faultPlace v0_quashedRows v0_lastRefusal v1_beasts v1_meals v1_seats v1_laws v1_inForce a2 a3 a4 a5 R.2.1 R.2.2.1 R.2.2.2.1 R.2.2.2.2 aL1 aL2 aL3 aL4) c0) n) 0 0) 0 [(0, .ref (b + 0)), (1, .int x1), (2, .int x2)] [] (e_ov (kW33 q) (wW33 G b q nh nt ne ns v0_faultPlace v0_quashedRows v0_lastRefusal v1_beasts v1_meals v1_seats v1_laws v1_inForce a2 a3 a4 a5 v37_height v37_answer a38 a39 aL1 aL2 aL3 aL4) c0) n 0 0 := by
  unfold fX11_price_L at hf
  refine E.aload_n 0 dX11_price_0 rfl ?_
  refine E.get hw 0 0 dX11_price_1 flX11_10 rfl rfl rfl rfl ?_
  refine E.iload_n 1 dX11_price_4 rfl ?_
  obtain ⟨r1, hc1, hf⟩ := e_bind hf
  refine E.callVDs (es' := (wW33 G b q nh nt ne ns v0_faultPlace v0_quashedRows v0_lastRefusal v1_beasts v1_meals v1_seats v1_laws v1_inForce a2 a3 a4 a5 v37_height v37_answer a38 a39 aL1 aL2 aL3 aL4)) [] [1] 1 1 dX11_price_5 mlX11_111 hw rfl rfl rfl rfl (mX10_hasBeast (hw.pick2 [1] rfl (by decide)) hc1) rfl rfl rfl rfl ⟨Nat.le_of_ble_eq_true rfl, Nat.le_of_ble_eq_true rfl⟩ rfl rfl (Nat.le_of_ble_eq_true rfl) ⟨Nat.le_refl _, Nat.le_refl _⟩ rfl ?_
  refine E.if_eq dX11_price_8 (fun h => ?_) (fun h => ?_)
  · have hf := e_ift hf h
    refine E.iconst (v := -1) dX11_price_18 (by decide) ?_
    cases hf
    exact E.iret dX11_price_19 (Nat.le_refl _) (Nat.le_refl _) (pD_rf _ _ _)
  · have hf := e_iff hf h
    refine E.iload_n 2 dX11_price_11 rfl ?_
    obtain ⟨r2, hc2, hf⟩ := e_bind hf
    refine E.callSD [] dX11_price_12 mlX11_203 (mX11_isSide hc2) ⟨Nat.le_of_ble_eq_true rfl, Nat.le_of_ble_eq_true rfl⟩ rfl rfl (Nat.le_of_ble_eq_true rfl) ⟨Nat.le_refl _, Nat.le_refl _⟩ rfl ?_
    refine E.if_ne dX11_price_15 (fun h => ?_) (fun h => ?_)
    · have hf := e_iff hf h
      refine E.aload_n 0 dX11_price_20 rfl ?_
      refine E.get hw 0 0 dX11_price_21 flX11_43 rfl rfl rfl rfl ?_
      refine E.aload_n 0 dX11_price_24 rfl ?_
      refine E.get hw 0 0 dX11_price_25 flX11_10 rfl rfl rfl rfl ?_
      refine E.iload_n 1 dX11_price_28 rfl ?_
      refine E.iload_n 2 dX11_price_29 rfl ?_
      obtain ⟨r3, hc3, hf⟩ := e_bind hf
      refine E.callVDs (es' := (wW33 G b q nh nt ne ns v0_faultPlace v0_quashedRows v0_lastRefusal v1_beasts v1_meals v1_seats v1_laws v1_inForce a2 a3 a4 a5 r3.2.1 r3.2.2.1 r3.2.2.2.1 r3.2.2.2.2 aL1 aL2 aL3 aL4)) [] [1, 2, 3, 4, 5, 6, 7, 8, 9, 10, 11, 12, 13] 6 37 dX11_price_30 mlX11_206 hw rfl rfl rfl rfl (mX0_priceOf_L (hw.pick2 [1, 2, 3, 4, 5, 6, 7, 8, 9, 10, 11, 12, 13] rfl (by decide)) hc3) rfl rfl rfl rfl ⟨Nat.le_of_ble_eq_true rfl, Nat.le_of_ble_eq_true rfl⟩ rfl rfl (Nat.le_of_ble_eq_true rfl) ⟨Nat.le_refl _, Nat.le_refl _⟩ rfl ?_
      cases hf
      exact E.iret dX11_price_33 (Nat.le_refl _) (Nat.le_refl _) (pD_rf _ _ _)
    · have hf := e_ift hf h
      refine E.iconst (v := -1) dX11_price_18 (by decide) ?_
      cases hf
      exact E.iret dX11_price_19 (Nat.le_refl _) (Nat.le_refl _) (pD_rf _ _ _)
set_option maxRecDepth 100000 in
theorem mX11_price_L {G : GT} {b : Nat} {q nh nt ne ns : Nat} {c0 : Hp} {n : Nat} (hw : e_wf (kW33 q) n) {v0_faultPlace : Int32} {v0_quashedRows : Int32} {v0_lastRefusal : Int32} {v1_meals : Int32} {v1_seats : Int32} {Fu : Nat} {v1_beasts : Int32} {v1_laws : Int32} {v1_inForce : Int32} {a2 : Nat → Int32} {a3 : Nat → Int32} {a4 : Nat → Int32} {a5 : Nat → Option Nat} {v37_height : Int32} {v37_answer : Int64} {a38 : Nat → Int32} {a39 : Nat → Int64} {aL1 : Nat → Int32} {aL2 : Nat → Int32} {aL3 : Nat → Int32} {aL4 : Nat → Int32} {x1 : Int32} {x2 : Int32} {R : Int32 × Int32 × Int64 × (Nat → Int32) × (Nat → Int64)} (hf : fX11_price_L Fu nh nt ne ns b q v1_beasts v1_laws v1_inForce a2 a3 a4 a5 v37_height v37_answer a38 a39 aL1 aL2 aL3 aL4 x1 x2 = some R) : e_C G b yX11_price cX11_price 3 (some .int) 5 0 0 [.ref (b + 0), .int x1, .int x2] (e_ov (kW33 q) (wW33 G b q nh nt ne ns v0_faultPlace v0_quashedRows v0_lastRefusal v1_beasts v1_meals v1_seats v1_laws v1_inForce a2 a3 a4 a5 v37_height v37_answer a38 a39 aL1 aL2 aL3 aL4) c0) n (pD (some (.int R.1)) (e_ov (kW33 q) (wW33 G b q nh nt ne ns v0_faultPlace v0_quashedRows v0_lastRefusal v1_beasts v1_meals v1_seats v1_laws v1_inForce a2 a3 a4 a5 R.2.1 R.2.2.1 R.2.2.2.1 R.2.2.2.2 aL1 aL2 aL3 aL4) c0) n) := e_C.of (by decide) (Nat.le_of_ble_eq_true rfl) (tX11_price_L hw hf)
abbrev kW35 (t : Nat) : List Nat := [t]
abbrev wW35 (G : GT) (b t Ln : Nat) (aF : Nat → Int64) : List va_E := [aJ G Ln aF]
def fJ7_fill_d0a16_L6 (Fu : Nat) (Ln : Nat) : Nat → (Nat → Int64) → Int64 → Int32 → Int32 → Option ((Nat → Int64))
  | 0, _, _, _, _ => none
  | k + 1, aF, x1, x3, x4 => if (x4 : Int32) ≤ (x3 : Int32) then (some (aF)) else (gd x3 Ln ((fJ7_fill_d0a16_L6 Fu Ln k) (va_up aF (x3 : Int32).toNatClampNeg x1) x1 (x3 + 1) x4))
set_option maxHeartbeats 4000000 in
set_option maxRecDepth 100000 in
theorem tJ7_fill_d0a16_L6 {G : GT} {b : Nat} {t Ln : Nat} {c0 : Hp} {n : Nat} (hw : e_wf (kW35 t) n)  {Fu : Nat} : ∀ (k : Nat) {aF : Nat → Int64} {x1 : Int64} {x3 : Int32} {x4 : Int32} {R : (Nat → Int64)}, fJ7_fill_d0a16_L6 Fu Ln k aF x1 x3 x4 = some R → E G b yJ7_fill_d0a16 cJ7_fill_d0a16 5 none (e_rm 0 0 0) e_X0 (e_Z G b (pD none (e_ov (kW35 t) (wW35 G b t Ln R) c0) n) 0 0) 6 [(0, .ref (b + t)), (1, .long x1), (3, .int x3), (4, .int x4)] [] (e_ov (kW35 t) (wW35 G b t Ln aF) c0) n 0 0 := by
  intro k
  induction k with
  | zero =>
    intro _ _ _ _ _ hf
    have hf : (none : Option ((Nat → Int64))) = some _ := hf
    cases hf
  | succ k ih =>
    intro aF x1 x3 x4 R hf
    rw [fJ7_fill_d0a16_L6] at hf
    refine E.iload_n 2 dJ7_fill_d0a16_6 rfl ?_
    refine E.iload 3 dJ7_fill_d0a16_7 rfl ?_
    refine E.icmp_ge dJ7_fill_d0a16_9 (fun h => ?_) (fun h => ?_)
    · have hf := e_ift hf h
      cases hf
      exact E.vret dJ7_fill_d0a16_22 (Nat.le_refl _) (Nat.le_refl _) (pD_rf _ _ _)
    · have hf := e_iff hf h
      refine E.aload_n 0 dJ7_fill_d0a16_12 rfl ?_
      refine E.iload_n 2 dJ7_fill_d0a16_13 rfl ?_
      refine E.lload_n 1 dJ7_fill_d0a16_14 rfl ?_
      obtain ⟨g1, hf⟩ := gd_some hf
      refine E.last (es' := (wW35 G b t Ln (va_up aF (x3 : Int32).toNatClampNeg x1))) hw 0 t dJ7_fill_d0a16_15 rfl rfl g1 rfl ?_
      refine E.iinc (q := 2) (v := (x3 + 1)) (lv' := [(3, .int (x3 + 1)), (0, .ref (b + t)), (1, .long x1), (4, .int x4)]) dJ7_fill_d0a16_16 rfl rfl (by decide) rfl ?_
      refine E.goto dJ7_fill_d0a16_19 ?_
      refine E.locals [1, 2, 0, 3] rfl ?_
      exact ih hf
def fJ7_fill_d0a16 (Fu : Nat) (Ln : Nat) (aF : Nat → Int64) (x1 : Int64) : Option ((Nat → Int64)) := fJ7_fill_d0a16_L6 Fu Ln Fu aF x1 0 (Int32.ofNat Ln)
set_option maxHeartbeats 4000000 in
set_option maxRecDepth 100000 in
theorem tJ7_fill_d0a16 {G : GT} {b : Nat} {t Ln : Nat} {c0 : Hp} {n : Nat} (hw : e_wf (kW35 t) n)  {Fu : Nat} {aF : Nat → Int64} {x1 : Int64} {R : (Nat → Int64)} (hf : fJ7_fill_d0a16 Fu Ln aF x1 = some R) : E G b yJ7_fill_d0a16 cJ7_fill_d0a16 5 none (e_rm 0 0 0) e_X0 (e_Z G b (pD none (e_ov (kW35 t) (wW35 G b t Ln R) c0) n) 0 0) 0 [(0, .ref (b + t)), (1, .long x1)] [] (e_ov (kW35 t) (wW35 G b t Ln aF) c0) n 0 0 := by
  unfold fJ7_fill_d0a16 at hf
  refine E.iconst (v := 0) dJ7_fill_d0a16_0 (by decide) ?_
  refine E.istore_n (lv' := [(3, .int 0), (0, .ref (b + t)), (1, .long x1)]) dJ7_fill_d0a16_1 (by decide) rfl ?_
  refine E.aload_n 1 dJ7_fill_d0a16_2 rfl ?_
  refine E.alen (z := (Int32.ofNat Ln)) hw 0 t 1 dJ7_fill_d0a16_3 rfl rfl rfl rfl ?_
  refine E.istore (lv' := [(4, .int (Int32.ofNat Ln)), (3, .int 0), (0, .ref (b + t)), (1, .long x1)]) dJ7_fill_d0a16_4 (by decide) rfl ?_
  refine E.locals [2, 3, 1, 0] rfl ?_
  exact tJ7_fill_d0a16_L6 hw _ hf
set_option maxRecDepth 100000 in
theorem mJ7_fill_d0a16 {G : GT} {b : Nat} {t Ln : Nat} {c0 : Hp} {n : Nat} (hw : e_wf (kW35 t) n)  {Fu : Nat} {aF : Nat → Int64} {x1 : Int64} {R : (Nat → Int64)} (hf : fJ7_fill_d0a16 Fu Ln aF x1 = some R) : e_C G b yJ7_fill_d0a16 cJ7_fill_d0a16 5 none 0 0 0 [.ref (b + t), .long x1] (e_ov (kW35 t) (wW35 G b t Ln aF) c0) n (pD none (e_ov (kW35 t) (wW35 G b t Ln R) c0) n) := e_C.of (by decide) (Nat.le_of_ble_eq_true rfl) (tJ7_fill_d0a16 hw hf)
abbrev kW36 (t : Nat) : List Nat := [t, (t + 1)]
abbrev wW36 (G : GT) (b t : Nat) (vT0_voters : Int32) (aT1 : Nat → Int64) : List va_E := [.inr (8, [.ref (b + (t + 1)), .int vT0_voters]), aJ G 9 aT1]
def fX8_clear (Fu : Nat) (vT0_voters : Int32) (aT1 : Nat → Int64) : Option (Int32 × (Nat → Int64)) := (fJ7_fill_d0a16 Fu 9 aT1 0).bind fun r1 => (gd 0 9 (some (0, (va_up r1 (0 : Int32).toNatClampNeg 1))))
set_option maxHeartbeats 4000000 in
set_option maxRecDepth 100000 in
theorem tX8_clear {G : GT} {b : Nat} {t : Nat} {c0 : Hp} {n : Nat} (hw : e_wf (kW36 t) n)  {Fu : Nat} {vT0_voters : Int32} {aT1 : Nat → Int64} {R : Int32 × (Nat → Int64)} (hf : fX8_clear Fu vT0_voters aT1 = some R) : E G b yX8_clear cX8_clear 1 none (e_rm 1 0 0) e_X0 (e_Z G b (pD none (e_ov (kW36 t) (wW36 G b t R.1 R.2) c0) n) 0 0) 0 [(0, .ref (b + t))] [] (e_ov (kW36 t) (wW36 G b t vT0_voters aT1) c0) n 0 0 := by
  unfold fX8_clear at hf
  refine E.aload_n 0 dX8_clear_0 rfl ?_
  refine E.get hw 0 t dX8_clear_1 flX8_9 rfl rfl rfl rfl ?_
  refine E.lconst (v := 0) dX8_clear_4 (by decide) ?_
  obtain ⟨r1, hc1, hf⟩ := e_bind hf
  refine E.callSDs (es' := (wW36 G b t vT0_voters r1)) [] [1] dX8_clear_5 mlX8_15 hw (mJ7_fill_d0a16 (hw.pick2 [1] rfl (by decide)) hc1) rfl rfl rfl rfl ⟨Nat.le_of_ble_eq_true rfl, Nat.le_of_ble_eq_true rfl⟩ rfl rfl (Nat.le_of_ble_eq_true rfl) ⟨Nat.le_refl _, Nat.le_refl _⟩ rfl ?_
  refine E.aload_n 0 dX8_clear_8 rfl ?_
  refine E.get hw 0 t dX8_clear_9 flX8_9 rfl rfl rfl rfl ?_
  refine E.iconst (v := 0) dX8_clear_12 (by decide) ?_
  refine E.lconst (v := 1) dX8_clear_13 (by decide) ?_
  obtain ⟨g2, hf⟩ := gd_some hf
  refine E.last (es' := (wW36 G b t vT0_voters (va_up r1 (0 : Int32).toNatClampNeg 1))) hw 1 (t + 1) dX8_clear_14 rfl rfl g2 rfl ?_
  refine E.aload_n 0 dX8_clear_15 rfl ?_
  refine E.iconst (v := 0) dX8_clear_16 (by decide) ?_
  refine E.put (es' := (wW36 G b t 0 (va_up r1 (0 : Int32).toNatClampNeg 1))) hw 0 t dX8_clear_17 flX8_21 ftX8 rfl rfl rfl rfl rfl rfl (Nat.le_of_ble_eq_true rfl) rfl ?_
  cases hf
  exact E.vret dX8_clear_20 (Nat.le_refl _) (Nat.le_refl _) (pD_rf _ _ _)
set_option maxRecDepth 100000 in
theorem mX8_clear {G : GT} {b : Nat} {t : Nat} {c0 : Hp} {n : Nat} (hw : e_wf (kW36 t) n)  {Fu : Nat} {vT0_voters : Int32} {aT1 : Nat → Int64} {R : Int32 × (Nat → Int64)} (hf : fX8_clear Fu vT0_voters aT1 = some R) : e_C G b yX8_clear cX8_clear 1 none 1 0 0 [.ref (b + t)] (e_ov (kW36 t) (wW36 G b t vT0_voters aT1) c0) n (pD none (e_ov (kW36 t) (wW36 G b t R.1 R.2) c0) n) := e_C.of (by decide) (Nat.le_of_ble_eq_true rfl) (tX8_clear hw hf)
def fX10_isSeated_L24 (v1_beasts : Int32) (v1_seats : Int32) : Option (Int32) := some (0)
set_option maxHeartbeats 4000000 in
set_option maxRecDepth 100000 in
theorem tX10_isSeated_L24 {G : GT} {b : Nat} {c0 : Hp} {n : Nat} (hw : e_wf (kW7) n) {v1_meals : Int32} {v1_laws : Int32} {v1_inForce : Int32} {v1_beasts : Int32} {v1_seats : Int32} {R : Int32} (hf : fX10_isSeated_L24 v1_beasts v1_seats = some R) : E G b yX10_isSeated cX10_isSeated 2 (some .boolean) (e_rm 1 0 0) e_X0 (e_Z G b (pD (some (.int R)) (e_ov (kW7) (wW7 G b v1_beasts v1_meals v1_seats v1_laws v1_inForce) c0) n) 0 0) 24 [] [] (e_ov (kW7) (wW7 G b v1_beasts v1_meals v1_seats v1_laws v1_inForce) c0) n 0 0 := by
  unfold fX10_isSeated_L24 at hf
  refine E.iconst (v := 0) dX10_isSeated_24 (by decide) ?_
  cases hf
  exact E.zret dX10_isSeated_25 rfl (Nat.le_refl _) (Nat.le_refl _) (pD_rf _ _ _)
def fX10_isSeated (v1_beasts : Int32) (v1_seats : Int32) (x1 : Int32) : Option (Int32) := (fX10_hasBeast v1_beasts x1).bind fun r1 => (if (r1 : Int32) = (0 : Int32) then (fX10_isSeated_L24 v1_beasts v1_seats) else (if ((((v1_seats : Int32) >>> ((x1 : Int32) &&& 31)) &&& 1) : Int32) = (1 : Int32) then (some (1)) else (fX10_isSeated_L24 v1_beasts v1_seats)))
set_option maxHeartbeats 4000000 in
set_option maxRecDepth 100000 in
theorem tX10_isSeated {G : GT} {b : Nat} {c0 : Hp} {n : Nat} (hw : e_wf (kW7) n) {v1_meals : Int32} {v1_laws : Int32} {v1_inForce : Int32} {v1_beasts : Int32} {v1_seats : Int32} {x1 : Int32} {R : Int32} (hf : fX10_isSeated v1_beasts v1_seats x1 = some R) : E G b yX10_isSeated cX10_isSeated 2 (some .boolean) (e_rm 1 0 0) e_X0 (e_Z G b (pD (some (.int R)) (e_ov (kW7) (wW7 G b v1_beasts v1_meals v1_seats v1_laws v1_inForce) c0) n) 0 0) 0 [(0, .ref (b + 1)), (1, .int x1)] [] (e_ov (kW7) (wW7 G b v1_beasts v1_meals v1_seats v1_laws v1_inForce) c0) n 0 0 := by
  unfold fX10_isSeated at hf
  refine E.aload_n 0 dX10_isSeated_0 rfl ?_
  refine E.iload_n 1 dX10_isSeated_1 rfl ?_
  obtain ⟨r1, hc1, hf⟩ := e_bind hf
  refine E.callVD [] dX10_isSeated_2 mlX10_68 ⟨hw.sub (p := 0) rfl, e_ov_get hw.1 (p := 0) rfl rfl⟩ rfl rfl (mX10_hasBeast hw hc1) ⟨Nat.le_of_ble_eq_true rfl, Nat.le_of_ble_eq_true rfl⟩ rfl rfl (Nat.le_of_ble_eq_true rfl) ⟨Nat.le_refl _, Nat.le_refl _⟩ rfl ?_
  refine E.if_eq dX10_isSeated_5 (fun h => ?_) (fun h => ?_)
  · have hf := e_ift hf h
    refine E.locals [] rfl ?_
    exact tX10_isSeated_L24 hw hf
  · have hf := e_iff hf h
    refine E.aload_n 0 dX10_isSeated_8 rfl ?_
    refine E.get hw 0 1 dX10_isSeated_9 flX10_62 rfl rfl rfl rfl ?_
    refine E.iload_n 1 dX10_isSeated_12 rfl ?_
    refine E.ishr dX10_isSeated_13 ?_
    refine E.iconst (v := 1) dX10_isSeated_14 (by decide) ?_
    refine E.iand dX10_isSeated_15 ?_
    refine E.iconst (v := 1) dX10_isSeated_16 (by decide) ?_
    refine E.icmp_ne dX10_isSeated_17 (fun h => ?_) (fun h => ?_)
    · have hf := e_iff hf h
      refine E.locals [] rfl ?_
      exact tX10_isSeated_L24 hw hf
    · have hf := e_ift hf h
      refine E.iconst (v := 1) dX10_isSeated_20 (by decide) ?_
      refine E.goto dX10_isSeated_21 ?_
      cases hf
      exact E.zret dX10_isSeated_25 rfl (Nat.le_refl _) (Nat.le_refl _) (pD_rf _ _ _)
set_option maxRecDepth 100000 in
theorem mX10_isSeated {G : GT} {b : Nat} {c0 : Hp} {n : Nat} (hw : e_wf (kW7) n) {v1_meals : Int32} {v1_laws : Int32} {v1_inForce : Int32} {v1_beasts : Int32} {v1_seats : Int32} {x1 : Int32} {R : Int32} (hf : fX10_isSeated v1_beasts v1_seats x1 = some R) : e_C G b yX10_isSeated cX10_isSeated 2 (some .boolean) 1 0 0 [.ref (b + 1), .int x1] (e_ov (kW7) (wW7 G b v1_beasts v1_meals v1_seats v1_laws v1_inForce) c0) n (pD (some (.int R)) (e_ov (kW7) (wW7 G b v1_beasts v1_meals v1_seats v1_laws v1_inForce) c0) n) := e_C.of (by decide) (Nat.le_of_ble_eq_true rfl) (tX10_isSeated hw hf)
def fX8_vote_L25 (Fu : Nat) : Nat → Int32 → (Nat → Int64) → Int32 → Int32 → Option (Int32 × (Nat → Int64))
  | 0, _, _, _, _ => none
  | k + 1, vT0_voters, aT1, x1, x2 => if (x2 : Int32) ≤ (0 : Int32) then (gd 0 9 (gd 0 9 (some (vT0_voters, (va_up aT1 (0 : Int32).toNatClampNeg ((aT1 (0 : Int32).toNatClampNeg) * (((100 - x1) : Int32).toInt64))))))) else (gd x2 9 (gd (x2 - 1) 9 (gd x2 9 ((fX8_vote_L25 Fu k) vT0_voters (va_up aT1 (x2 : Int32).toNatClampNeg (((aT1 (x2 : Int32).toNatClampNeg) * (((100 - x1) : Int32).toInt64)) + ((aT1 ((x2 - 1) : Int32).toNatClampNeg) * ((x1 : Int32).toInt64)))) x1 (x2 + (-1 : Int32))))))
set_option maxHeartbeats 4000000 in
set_option maxRecDepth 100000 in
theorem tX8_vote_L25 {G : GT} {b : Nat} {t : Nat} {c0 : Hp} {n : Nat} (hw : e_wf (kW36 t) n)  {Fu : Nat} : ∀ (k : Nat) {vT0_voters : Int32} {aT1 : Nat → Int64} {x1 : Int32} {x2 : Int32} {R : Int32 × (Nat → Int64)}, fX8_vote_L25 Fu k vT0_voters aT1 x1 x2 = some R → E G b yX8_vote cX8_vote 3 none (e_rm 0 0 0) e_X0 (e_Z G b (pD none (e_ov (kW36 t) (wW36 G b t R.1 R.2) c0) n) 0 0) 25 [(0, .ref (b + t)), (1, .int x1), (2, .int x2)] [] (e_ov (kW36 t) (wW36 G b t vT0_voters aT1) c0) n 0 0 := by
  intro k
  induction k with
  | zero =>
    intro _ _ _ _ _ hf
    have hf : (none : Option (Int32 × (Nat → Int64))) = some _ := hf
    cases hf
  | succ k ih =>
    intro vT0_voters aT1 x1 x2 R hf
    rw [fX8_vote_L25] at hf
    refine E.iload_n 2 dX8_vote_25 rfl ?_
    refine E.if_le dX8_vote_26 (fun h => ?_) (fun h => ?_)
    · have hf := e_ift hf h
      refine E.aload_n 0 dX8_vote_65 rfl ?_
      refine E.get hw 0 t dX8_vote_66 flX8_9 rfl rfl rfl rfl ?_
      refine E.iconst (v := 0) dX8_vote_69 (by decide) ?_
      refine E.dup2_11 dX8_vote_70 rfl rfl ?_
      obtain ⟨g1, hf⟩ := gd_some hf
      refine E.lald hw 1 (t + 1) dX8_vote_71 rfl rfl g1 ?_
      refine E.bipush (v := 100) dX8_vote_72 (by decide) ?_
      refine E.iload_n 1 dX8_vote_74 rfl ?_
      refine E.isub dX8_vote_75 ?_
      refine E.i2l dX8_vote_76 ?_
      refine E.lmul dX8_vote_77 ?_
      obtain ⟨g2, hf⟩ := gd_some hf
      refine E.last (es' := (wW36 G b t vT0_voters (va_up aT1 (0 : Int32).toNatClampNeg ((aT1 (0 : Int32).toNatClampNeg) * (((100 - x1) : Int32).toInt64))))) hw 1 (t + 1) dX8_vote_78 rfl rfl g2 rfl ?_
      cases hf
      exact E.vret dX8_vote_79 (Nat.le_refl _) (Nat.le_refl _) (pD_rf _ _ _)
    · have hf := e_iff hf h
      refine E.aload_n 0 dX8_vote_29 rfl ?_
      refine E.get hw 0 t dX8_vote_30 flX8_9 rfl rfl rfl rfl ?_
      refine E.iload_n 2 dX8_vote_33 rfl ?_
      refine E.aload_n 0 dX8_vote_34 rfl ?_
      refine E.get hw 0 t dX8_vote_35 flX8_9 rfl rfl rfl rfl ?_
      refine E.iload_n 2 dX8_vote_38 rfl ?_
      obtain ⟨g3, hf⟩ := gd_some hf
      refine E.lald hw 1 (t + 1) dX8_vote_39 rfl rfl g3 ?_
      refine E.bipush (v := 100) dX8_vote_40 (by decide) ?_
      refine E.iload_n 1 dX8_vote_42 rfl ?_
      refine E.isub dX8_vote_43 ?_
      refine E.i2l dX8_vote_44 ?_
      refine E.lmul dX8_vote_45 ?_
      refine E.aload_n 0 dX8_vote_46 rfl ?_
      refine E.get hw 0 t dX8_vote_47 flX8_9 rfl rfl rfl rfl ?_
      refine E.iload_n 2 dX8_vote_50 rfl ?_
      refine E.iconst (v := 1) dX8_vote_51 (by decide) ?_
      refine E.isub dX8_vote_52 ?_
      obtain ⟨g4, hf⟩ := gd_some hf
      refine E.lald hw 1 (t + 1) dX8_vote_53 rfl rfl g4 ?_
      refine E.iload_n 1 dX8_vote_54 rfl ?_
      refine E.i2l dX8_vote_55 ?_
      refine E.lmul dX8_vote_56 ?_
      refine E.ladd dX8_vote_57 ?_
      obtain ⟨g5, hf⟩ := gd_some hf
      refine E.last (es' := (wW36 G b t vT0_voters (va_up aT1 (x2 : Int32).toNatClampNeg (((aT1 (x2 : Int32).toNatClampNeg) * (((100 - x1) : Int32).toInt64)) + ((aT1 ((x2 - 1) : Int32).toNatClampNeg) * ((x1 : Int32).toInt64)))))) hw 1 (t + 1) dX8_vote_58 rfl rfl g5 rfl ?_
      refine E.iinc (q := 2) (v := (x2 + (-1 : Int32))) (lv' := [(2, .int (x2 + (-1 : Int32))), (0, .ref (b + t)), (1, .int x1)]) dX8_vote_59 rfl rfl (by decide) rfl ?_
      refine E.goto dX8_vote_62 ?_
      refine E.locals [1, 2, 0] rfl ?_
      exact ih hf
def fX8_vote (Fu : Nat) (vT0_voters : Int32) (aT1 : Nat → Int64) (x1 : Int32) : Option (Int32 × (Nat → Int64)) := if (vT0_voters : Int32) < (8 : Int32) then (fX8_vote_L25 Fu Fu (vT0_voters + 1) aT1 x1 (vT0_voters + 1)) else (some (vT0_voters, aT1))
set_option maxHeartbeats 4000000 in
set_option maxRecDepth 100000 in
theorem tX8_vote {G : GT} {b : Nat} {t : Nat} {c0 : Hp} {n : Nat} (hw : e_wf (kW36 t) n)  {Fu : Nat} {vT0_voters : Int32} {aT1 : Nat → Int64} {x1 : Int32} {R : Int32 × (Nat → Int64)} (hf : fX8_vote Fu vT0_voters aT1 x1 = some R) : E G b yX8_vote cX8_vote 3 none (e_rm 0 0 0) e_X0 (e_Z G b (pD none (e_ov (kW36 t) (wW36 G b t R.1 R.2) c0) n) 0 0) 0 [(0, .ref (b + t)), (1, .int x1)] [] (e_ov (kW36 t) (wW36 G b t vT0_voters aT1) c0) n 0 0 := by
  unfold fX8_vote at hf
  refine E.aload_n 0 dX8_vote_0 rfl ?_
  refine E.get hw 0 t dX8_vote_1 flX8_21 rfl rfl rfl rfl ?_
  refine E.bipush (v := 8) dX8_vote_4 (by decide) ?_
  refine E.icmp_lt dX8_vote_6 (fun h => ?_) (fun h => ?_)
  · have hf := e_ift hf h
    refine E.aload_n 0 dX8_vote_10 rfl ?_
    refine E.dup dX8_vote_11 rfl ?_
    refine E.get hw 0 t dX8_vote_12 flX8_21 rfl rfl rfl rfl ?_
    refine E.iconst (v := 1) dX8_vote_15 (by decide) ?_
    refine E.iadd dX8_vote_16 ?_
    refine E.put (es' := (wW36 G b t (vT0_voters + 1) aT1)) hw 0 t dX8_vote_17 flX8_21 ftX8 rfl rfl rfl rfl rfl rfl (Nat.le_of_ble_eq_true rfl) rfl ?_
    refine E.aload_n 0 dX8_vote_20 rfl ?_
    refine E.get hw 0 t dX8_vote_21 flX8_21 rfl rfl rfl rfl ?_
    refine E.istore_n (lv' := [(2, .int (vT0_voters + 1)), (0, .ref (b + t)), (1, .int x1)]) dX8_vote_24 (by decide) rfl ?_
    refine E.locals [1, 2, 0] rfl ?_
    exact tX8_vote_L25 hw _ hf
  · have hf := e_iff hf h
    cases hf
    exact E.vret dX8_vote_9 (Nat.le_refl _) (Nat.le_refl _) (pD_rf _ _ _)
set_option maxRecDepth 100000 in
theorem mX8_vote {G : GT} {b : Nat} {t : Nat} {c0 : Hp} {n : Nat} (hw : e_wf (kW36 t) n)  {Fu : Nat} {vT0_voters : Int32} {aT1 : Nat → Int64} {x1 : Int32} {R : Int32 × (Nat → Int64)} (hf : fX8_vote Fu vT0_voters aT1 x1 = some R) : e_C G b yX8_vote cX8_vote 3 none 0 0 0 [.ref (b + t), .int x1] (e_ov (kW36 t) (wW36 G b t vT0_voters aT1) c0) n (pD none (e_ov (kW36 t) (wW36 G b t R.1 R.2) c0) n) := e_C.of (by decide) (Nat.le_of_ble_eq_true rfl) (tX8_vote hw hf)
