def fX6_isLetter_L16 : Option (Int32) := some (0)
set_option maxHeartbeats 4000000 in
set_option maxRecDepth 100000 in
theorem tX6_isLetter_L16 {G : GT} {b : Nat} {c : Hp} {n : Nat}  {R : Int32} (hf : fX6_isLetter_L16 = some R) : E G b yX6_isLetter cX6_isLetter 1 (some .boolean) (e_rm 0 0 0) e_X0 (e_Z G b (pD (some (.int R)) c n) 0 0) 16 [] [] c n 0 0 := by
  unfold fX6_isLetter_L16 at hf
  refine E.iconst (v := 0) dX6_isLetter_16 (by decide) ?_
  cases hf
  exact E.zret dX6_isLetter_17 rfl (Nat.le_refl _) (Nat.le_refl _) (pD_rf _ _ _)
def fX6_isLetter (x0 : Int32) : Option (Int32) := if (x0 : Int32) < (97 : Int32) then (fX6_isLetter_L16) else (if (122 : Int32) < (x0 : Int32) then (fX6_isLetter_L16) else (some (1)))
set_option maxHeartbeats 4000000 in
set_option maxRecDepth 100000 in
theorem tX6_isLetter {G : GT} {b : Nat} {c : Hp} {n : Nat} {x0 : Int32} {R : Int32} (hf : fX6_isLetter x0 = some R) : E G b yX6_isLetter cX6_isLetter 1 (some .boolean) (e_rm 0 0 0) e_X0 (e_Z G b (pD (some (.int R)) c n) 0 0) 0 [(0, .int x0)] [] c n 0 0 := by
  unfold fX6_isLetter at hf
  refine E.iload_n 0 dX6_isLetter_0 rfl ?_
  refine E.bipush (v := 97) dX6_isLetter_1 (by decide) ?_
  refine E.icmp_lt dX6_isLetter_3 (fun h => ?_) (fun h => ?_)
  · have hf := e_ift hf h
    refine E.locals [] rfl ?_
    exact tX6_isLetter_L16 hf
  · have hf := e_iff hf h
    refine E.iload_n 0 dX6_isLetter_6 rfl ?_
    refine E.bipush (v := 122) dX6_isLetter_7 (by decide) ?_
    refine E.icmp_gt dX6_isLetter_9 (fun h => ?_) (fun h => ?_)
    · have hf := e_ift hf h
      refine E.locals [] rfl ?_
      exact tX6_isLetter_L16 hf
    · have hf := e_iff hf h
      refine E.iconst (v := 1) dX6_isLetter_12 (by decide) ?_
      refine E.goto dX6_isLetter_13 ?_
      cases hf
      exact E.zret dX6_isLetter_17 rfl (Nat.le_refl _) (Nat.le_refl _) (pD_rf _ _ _)
set_option maxRecDepth 100000 in
theorem mX6_isLetter {G : GT} {b : Nat} {c : Hp} {n : Nat} {x0 : Int32} {R : Int32} (hf : fX6_isLetter x0 = some R) : e_C G b yX6_isLetter cX6_isLetter 1 (some .boolean) 0 0 0 [.int x0] c n (pD (some (.int R)) c n) := e_C.of (by decide) (Nat.le_of_ble_eq_true rfl) (tX6_isLetter hf)
def fX6_isDigit_L16 : Option (Int32) := some (0)
set_option maxHeartbeats 4000000 in
set_option maxRecDepth 100000 in
theorem tX6_isDigit_L16 {G : GT} {b : Nat} {c : Hp} {n : Nat}  {R : Int32} (hf : fX6_isDigit_L16 = some R) : E G b yX6_isDigit cX6_isDigit 1 (some .boolean) (e_rm 0 0 0) e_X0 (e_Z G b (pD (some (.int R)) c n) 0 0) 16 [] [] c n 0 0 := by
  unfold fX6_isDigit_L16 at hf
  refine E.iconst (v := 0) dX6_isDigit_16 (by decide) ?_
  cases hf
  exact E.zret dX6_isDigit_17 rfl (Nat.le_refl _) (Nat.le_refl _) (pD_rf _ _ _)
def fX6_isDigit (x0 : Int32) : Option (Int32) := if (x0 : Int32) < (48 : Int32) then (fX6_isDigit_L16) else (if (57 : Int32) < (x0 : Int32) then (fX6_isDigit_L16) else (some (1)))
set_option maxHeartbeats 4000000 in
set_option maxRecDepth 100000 in
theorem tX6_isDigit {G : GT} {b : Nat} {c : Hp} {n : Nat} {x0 : Int32} {R : Int32} (hf : fX6_isDigit x0 = some R) : E G b yX6_isDigit cX6_isDigit 1 (some .boolean) (e_rm 0 0 0) e_X0 (e_Z G b (pD (some (.int R)) c n) 0 0) 0 [(0, .int x0)] [] c n 0 0 := by
  unfold fX6_isDigit at hf
  refine E.iload_n 0 dX6_isDigit_0 rfl ?_
  refine E.bipush (v := 48) dX6_isDigit_1 (by decide) ?_
  refine E.icmp_lt dX6_isDigit_3 (fun h => ?_) (fun h => ?_)
  · have hf := e_ift hf h
    refine E.locals [] rfl ?_
    exact tX6_isDigit_L16 hf
  · have hf := e_iff hf h
    refine E.iload_n 0 dX6_isDigit_6 rfl ?_
    refine E.bipush (v := 57) dX6_isDigit_7 (by decide) ?_
    refine E.icmp_gt dX6_isDigit_9 (fun h => ?_) (fun h => ?_)
    · have hf := e_ift hf h
      refine E.locals [] rfl ?_
      exact tX6_isDigit_L16 hf
    · have hf := e_iff hf h
      refine E.iconst (v := 1) dX6_isDigit_12 (by decide) ?_
      refine E.goto dX6_isDigit_13 ?_
      cases hf
      exact E.zret dX6_isDigit_17 rfl (Nat.le_refl _) (Nat.le_refl _) (pD_rf _ _ _)
set_option maxRecDepth 100000 in
theorem mX6_isDigit {G : GT} {b : Nat} {c : Hp} {n : Nat} {x0 : Int32} {R : Int32} (hf : fX6_isDigit x0 = some R) : e_C G b yX6_isDigit cX6_isDigit 1 (some .boolean) 0 0 0 [.int x0] c n (pD (some (.int R)) c n) := e_C.of (by decide) (Nat.le_of_ble_eq_true rfl) (tX6_isDigit hf)
abbrev kW82 : List Nat := [30, 31, 32]
abbrev wW82 (G : GT) (b  : Nat) (v30_length : Int32) (a31 : Nat → Int32) (v32_clauses : Int32) (v32_length : Int32) (v32_parts : Int32) (v32_start : Int32) (v32_behind : Int32) (v32_token : Int32) (v32_number : Int32) (v32_good : Int32) : List va_E := [.inr (9, [.ref (b + 31), .int v30_length]), aI G 400 a31, .inr (6, [.ref (b + 30), .ref (b + 33), .ref (b + 34), .ref (b + 35), .ref (b + 36), .int v32_clauses, .int v32_length, .int v32_parts, .int v32_start, .int v32_behind, .int v32_token, .int v32_number, .int v32_good])]
def fX6_advance_L196 (Fu : Nat) (v30_length : Int32) (a31 : Nat → Int32) (v32_start : Int32) (v32_behind : Int32) (v32_token : Int32) (v32_number : Int32) (x1 : Int32) : Option (Int32 × Int32 × Int32 × Int32) := some (v32_start, x1, v32_token, v32_number)
set_option maxHeartbeats 4000000 in
set_option maxRecDepth 100000 in
theorem tX6_advance_L196 {G : GT} {b : Nat} {c0 : Hp} {n : Nat} (hw : e_wf (kW82) n) {v32_clauses : Int32} {v32_length : Int32} {v32_parts : Int32} {v32_good : Int32} {Fu : Nat} {v30_length : Int32} {a31 : Nat → Int32} {v32_start : Int32} {v32_behind : Int32} {v32_token : Int32} {v32_number : Int32} {x1 : Int32} {R : Int32 × Int32 × Int32 × Int32} (hf : fX6_advance_L196 Fu v30_length a31 v32_start v32_behind v32_token v32_number x1 = some R) : E G b yX6_advance cX6_advance 3 none (e_rm 1 0 0) e_X0 (e_Z G b (pD none (e_ov (kW82) (wW82 G b v30_length a31 v32_clauses v32_length v32_parts R.1 R.2.1 R.2.2.1 R.2.2.2 v32_good) c0) n) 0 0) 196 [(0, .ref (b + 32)), (1, .int x1)] [] (e_ov (kW82) (wW82 G b v30_length a31 v32_clauses v32_length v32_parts v32_start v32_behind v32_token v32_number v32_good) c0) n 0 0 := by
  unfold fX6_advance_L196 at hf
  refine E.aload_n 0 dX6_advance_196 rfl ?_
  refine E.iload_n 1 dX6_advance_197 rfl ?_
  refine E.put (es' := (wW82 G b v30_length a31 v32_clauses v32_length v32_parts v32_start x1 v32_token v32_number v32_good)) hw 2 32 dX6_advance_198 flX6_44 ftX6 rfl rfl rfl rfl rfl rfl (Nat.le_of_ble_eq_true rfl) rfl ?_
  cases hf
  exact E.vret dX6_advance_201 (Nat.le_refl _) (Nat.le_refl _) (pD_rf _ _ _)
def fX6_advance_L128 (Fu : Nat) : Nat → Int32 → (Nat → Int32) → Int32 → Int32 → Int32 → Int32 → Int32 → Option (Int32 × Int32 × Int32 × Int32)
  | 0, _, _, _, _, _, _, _ => none
  | k + 1, v30_length, a31, v32_start, v32_behind, v32_token, v32_number, x1 => if (v30_length : Int32) ≤ (x1 : Int32) then (fX6_advance_L196 Fu v30_length a31 v32_start v32_behind v32_token v32_number x1) else ((fX9_at v30_length a31 x1).bind fun r5 => ((fX6_isDigit r5).bind fun r6 => (if (r6 : Int32) = (0 : Int32) then (fX6_advance_L196 Fu v30_length a31 v32_start v32_behind v32_token v32_number x1) else ((fX9_at v30_length a31 x1).bind fun r7 => ((fX6_advance_L128 Fu k) v30_length a31 v32_start v32_behind v32_token (if ((((v32_number * 10) + r7) - 48) : Int32) < 1001 then (((v32_number * 10) + r7) - 48) else 1001) (x1 + 1))))))
set_option maxHeartbeats 4000000 in
set_option maxRecDepth 100000 in
theorem tX6_advance_L128 {G : GT} {b : Nat} {c0 : Hp} {n : Nat} (hw : e_wf (kW82) n) {v32_clauses : Int32} {v32_length : Int32} {v32_parts : Int32} {v32_good : Int32} {Fu : Nat} : ∀ (k : Nat) {v30_length : Int32} {a31 : Nat → Int32} {v32_start : Int32} {v32_behind : Int32} {v32_token : Int32} {v32_number : Int32} {x1 : Int32} {R : Int32 × Int32 × Int32 × Int32}, fX6_advance_L128 Fu k v30_length a31 v32_start v32_behind v32_token v32_number x1 = some R → E G b yX6_advance cX6_advance 3 none (e_rm 1 0 0) e_X0 (e_Z G b (pD none (e_ov (kW82) (wW82 G b v30_length a31 v32_clauses v32_length v32_parts R.1 R.2.1 R.2.2.1 R.2.2.2 v32_good) c0) n) 0 0) 128 [(0, .ref (b + 32)), (1, .int x1)] [] (e_ov (kW82) (wW82 G b v30_length a31 v32_clauses v32_length v32_parts v32_start v32_behind v32_token v32_number v32_good) c0) n 0 0 := by
  intro k
  induction k with
  | zero =>
    intro _ _ _ _ _ _ _ _ hf
    have hf : (none : Option (Int32 × Int32 × Int32 × Int32)) = some _ := hf
    cases hf
  | succ k ih =>
    intro v30_length a31 v32_start v32_behind v32_token v32_number x1 R hf
    rw [fX6_advance_L128] at hf
    refine E.iload_n 1 dX6_advance_128 rfl ?_
    refine E.aload_n 0 dX6_advance_129 rfl ?_
    refine E.get hw 2 32 dX6_advance_130 flX6_9 rfl rfl rfl rfl ?_
    refine E.getN hw 0 30 dX6_advance_133 fnX6_73 rfl rfl rfl rfl ?_
    refine E.icmp_ge dX6_advance_136 (fun h => ?_) (fun h => ?_)
    · have hf := e_ift hf h
      exact tX6_advance_L196 hw hf
    · have hf := e_iff hf h
      refine E.aload_n 0 dX6_advance_139 rfl ?_
      refine E.get hw 2 32 dX6_advance_140 flX6_9 rfl rfl rfl rfl ?_
      refine E.iload_n 1 dX6_advance_143 rfl ?_
      obtain ⟨r5, hc5, hf⟩ := e_bind hf
      refine E.callVDs (es' := (wW82 G b v30_length a31 v32_clauses v32_length v32_parts v32_start v32_behind v32_token v32_number v32_good)) [] [0, 1] 0 30 dX6_advance_144 mlX6_76 hw rfl rfl rfl rfl (mX9_at (hw.pick2 [0, 1] rfl (by decide)) hc5) rfl rfl rfl rfl ⟨Nat.le_of_ble_eq_true rfl, Nat.le_of_ble_eq_true rfl⟩ rfl rfl (Nat.le_of_ble_eq_true rfl) ⟨Nat.le_refl _, Nat.le_refl _⟩ rfl ?_
      obtain ⟨r6, hc6, hf⟩ := e_bind hf
      refine E.callSD [] dX6_advance_147 mlX6_87 (mX6_isDigit hc6) ⟨Nat.le_of_ble_eq_true rfl, Nat.le_of_ble_eq_true rfl⟩ rfl rfl (Nat.le_of_ble_eq_true rfl) ⟨Nat.le_refl _, Nat.le_refl _⟩ rfl ?_
      refine E.if_eq dX6_advance_150 (fun h => ?_) (fun h => ?_)
      · have hf := e_ift hf h
        exact tX6_advance_L196 hw hf
      · have hf := e_iff hf h
        refine E.aload_n 0 dX6_advance_153 rfl ?_
        refine E.sipush (v := 1001) dX6_advance_154 (by decide) ?_
        refine E.aload_n 0 dX6_advance_157 rfl ?_
        refine E.get hw 2 32 dX6_advance_158 flX6_80 rfl rfl rfl rfl ?_
        refine E.bipush (v := 10) dX6_advance_161 (by decide) ?_
        refine E.imul dX6_advance_163 ?_
        refine E.aload_n 0 dX6_advance_164 rfl ?_
        refine E.get hw 2 32 dX6_advance_165 flX6_9 rfl rfl rfl rfl ?_
        refine E.iload_n 1 dX6_advance_168 rfl ?_
        obtain ⟨r7, hc7, hf⟩ := e_bind hf
        refine E.callVDs (es' := (wW82 G b v30_length a31 v32_clauses v32_length v32_parts v32_start v32_behind v32_token v32_number v32_good)) [.int (v32_number * 10), .int 1001, .ref (b + 32)] [0, 1] 0 30 dX6_advance_169 mlX6_76 hw rfl rfl rfl rfl (mX9_at (hw.pick2 [0, 1] rfl (by decide)) hc7) rfl rfl rfl rfl ⟨Nat.le_of_ble_eq_true rfl, Nat.le_of_ble_eq_true rfl⟩ rfl rfl (Nat.le_of_ble_eq_true rfl) ⟨Nat.le_refl _, Nat.le_refl _⟩ rfl ?_
        refine E.iadd dX6_advance_172 ?_
        refine E.bipush (v := 48) dX6_advance_173 (by decide) ?_
        refine E.isub dX6_advance_175 ?_
        refine E.mmin dX6_advance_176 mmX6_90 ⟨Nat.le_of_ble_eq_true rfl, Nat.le_of_ble_eq_true rfl⟩ ⟨Nat.le_refl _, Nat.le_refl _⟩ ?_
        refine E.put (es' := (wW82 G b v30_length a31 v32_clauses v32_length v32_parts v32_start v32_behind v32_token (if ((((v32_number * 10) + r7) - 48) : Int32) < 1001 then (((v32_number * 10) + r7) - 48) else 1001) v32_good)) hw 2 32 dX6_advance_179 flX6_80 ftX6 rfl rfl rfl rfl rfl rfl (Nat.le_of_ble_eq_true rfl) rfl ?_
        refine E.iinc (q := 1) (v := (x1 + 1)) (lv' := [(1, .int (x1 + 1)), (0, .ref (b + 32))]) dX6_advance_182 rfl rfl (by decide) rfl ?_
        refine E.goto dX6_advance_185 ?_
        refine E.locals [1, 0] rfl ?_
        exact ih hf
def fX6_advance_L85 (Fu : Nat) : Nat → Int32 → (Nat → Int32) → Int32 → Int32 → Int32 → Int32 → Int32 → Option (Int32 × Int32 × Int32 × Int32)
  | 0, _, _, _, _, _, _, _ => none
  | k + 1, v30_length, a31, v32_start, v32_behind, v32_token, v32_number, x1 => if (v30_length : Int32) ≤ (x1 : Int32) then (fX6_advance_L196 Fu v30_length a31 v32_start v32_behind v32_token v32_number x1) else ((fX9_at v30_length a31 x1).bind fun r8 => ((fX6_isLetter r8).bind fun r9 => (if (r9 : Int32) = (0 : Int32) then (fX6_advance_L196 Fu v30_length a31 v32_start v32_behind v32_token v32_number x1) else ((fX6_advance_L85 Fu k) v30_length a31 v32_start v32_behind v32_token v32_number (x1 + 1)))))
set_option maxHeartbeats 4000000 in
set_option maxRecDepth 100000 in
theorem tX6_advance_L85 {G : GT} {b : Nat} {c0 : Hp} {n : Nat} (hw : e_wf (kW82) n) {v32_clauses : Int32} {v32_length : Int32} {v32_parts : Int32} {v32_good : Int32} {Fu : Nat} : ∀ (k : Nat) {v30_length : Int32} {a31 : Nat → Int32} {v32_start : Int32} {v32_behind : Int32} {v32_token : Int32} {v32_number : Int32} {x1 : Int32} {R : Int32 × Int32 × Int32 × Int32}, fX6_advance_L85 Fu k v30_length a31 v32_start v32_behind v32_token v32_number x1 = some R → E G b yX6_advance cX6_advance 3 none (e_rm 1 0 0) e_X0 (e_Z G b (pD none (e_ov (kW82) (wW82 G b v30_length a31 v32_clauses v32_length v32_parts R.1 R.2.1 R.2.2.1 R.2.2.2 v32_good) c0) n) 0 0) 85 [(0, .ref (b + 32)), (1, .int x1)] [] (e_ov (kW82) (wW82 G b v30_length a31 v32_clauses v32_length v32_parts v32_start v32_behind v32_token v32_number v32_good) c0) n 0 0 := by
  intro k
  induction k with
  | zero =>
    intro _ _ _ _ _ _ _ _ hf
    have hf : (none : Option (Int32 × Int32 × Int32 × Int32)) = some _ := hf
    cases hf
  | succ k ih =>
    intro v30_length a31 v32_start v32_behind v32_token v32_number x1 R hf
    rw [fX6_advance_L85] at hf
    refine E.iload_n 1 dX6_advance_85 rfl ?_
    refine E.aload_n 0 dX6_advance_86 rfl ?_
    refine E.get hw 2 32 dX6_advance_87 flX6_9 rfl rfl rfl rfl ?_
    refine E.getN hw 0 30 dX6_advance_90 fnX6_73 rfl rfl rfl rfl ?_
    refine E.icmp_ge dX6_advance_93 (fun h => ?_) (fun h => ?_)
    · have hf := e_ift hf h
      exact tX6_advance_L196 hw hf
    · have hf := e_iff hf h
      refine E.aload_n 0 dX6_advance_96 rfl ?_
      refine E.get hw 2 32 dX6_advance_97 flX6_9 rfl rfl rfl rfl ?_
      refine E.iload_n 1 dX6_advance_100 rfl ?_
      obtain ⟨r8, hc8, hf⟩ := e_bind hf
      refine E.callVDs (es' := (wW82 G b v30_length a31 v32_clauses v32_length v32_parts v32_start v32_behind v32_token v32_number v32_good)) [] [0, 1] 0 30 dX6_advance_101 mlX6_76 hw rfl rfl rfl rfl (mX9_at (hw.pick2 [0, 1] rfl (by decide)) hc8) rfl rfl rfl rfl ⟨Nat.le_of_ble_eq_true rfl, Nat.le_of_ble_eq_true rfl⟩ rfl rfl (Nat.le_of_ble_eq_true rfl) ⟨Nat.le_refl _, Nat.le_refl _⟩ rfl ?_
      obtain ⟨r9, hc9, hf⟩ := e_bind hf
      refine E.callSD [] dX6_advance_104 mlX6_83 (mX6_isLetter hc9) ⟨Nat.le_of_ble_eq_true rfl, Nat.le_of_ble_eq_true rfl⟩ rfl rfl (Nat.le_of_ble_eq_true rfl) ⟨Nat.le_refl _, Nat.le_refl _⟩ rfl ?_
      refine E.if_eq dX6_advance_107 (fun h => ?_) (fun h => ?_)
      · have hf := e_ift hf h
        exact tX6_advance_L196 hw hf
      · have hf := e_iff hf h
        refine E.iinc (q := 1) (v := (x1 + 1)) (lv' := [(1, .int (x1 + 1)), (0, .ref (b + 32))]) dX6_advance_110 rfl rfl (by decide) rfl ?_
        refine E.goto dX6_advance_113 ?_
        refine E.locals [1, 0] rfl ?_
        exact ih hf
def fX6_advance_L35 (Fu : Nat) (v30_length : Int32) (a31 : Nat → Int32) (v32_start : Int32) (v32_behind : Int32) (v32_token : Int32) (v32_number : Int32) (x1 : Int32) : Option (Int32 × Int32 × Int32 × Int32) := (fX9_at v30_length a31 x1).bind fun r2 => (if (x1 : Int32) < (v30_length : Int32) then ((fX6_isLetter r2).bind fun r3 => (if (r3 : Int32) = (0 : Int32) then ((fX6_isDigit r2).bind fun r4 => (if (r4 : Int32) = (0 : Int32) then (fX6_advance_L196 Fu v30_length a31 x1 v32_behind 3 0 (x1 + 1)) else (fX6_advance_L128 Fu Fu v30_length a31 x1 v32_behind 2 0 x1))) else (fX6_advance_L85 Fu Fu v30_length a31 x1 v32_behind 1 0 x1))) else (fX6_advance_L196 Fu v30_length a31 x1 v32_behind 0 0 x1))
set_option maxHeartbeats 4000000 in
set_option maxRecDepth 100000 in
theorem tX6_advance_L35 {G : GT} {b : Nat} {c0 : Hp} {n : Nat} (hw : e_wf (kW82) n) {v32_clauses : Int32} {v32_length : Int32} {v32_parts : Int32} {v32_good : Int32} {Fu : Nat} {v30_length : Int32} {a31 : Nat → Int32} {v32_start : Int32} {v32_behind : Int32} {v32_token : Int32} {v32_number : Int32} {x1 : Int32} {R : Int32 × Int32 × Int32 × Int32} (hf : fX6_advance_L35 Fu v30_length a31 v32_start v32_behind v32_token v32_number x1 = some R) : E G b yX6_advance cX6_advance 3 none (e_rm 1 0 0) e_X0 (e_Z G b (pD none (e_ov (kW82) (wW82 G b v30_length a31 v32_clauses v32_length v32_parts R.1 R.2.1 R.2.2.1 R.2.2.2 v32_good) c0) n) 0 0) 35 [(0, .ref (b + 32)), (1, .int x1)] [] (e_ov (kW82) (wW82 G b v30_length a31 v32_clauses v32_length v32_parts v32_start v32_behind v32_token v32_number v32_good) c0) n 0 0 := by
  unfold fX6_advance_L35 at hf
  refine E.aload_n 0 dX6_advance_35 rfl ?_
  refine E.iload_n 1 dX6_advance_36 rfl ?_
  refine E.put (es' := (wW82 G b v30_length a31 v32_clauses v32_length v32_parts x1 v32_behind v32_token v32_number v32_good)) hw 2 32 dX6_advance_37 flX6_70 ftX6 rfl rfl rfl rfl rfl rfl (Nat.le_of_ble_eq_true rfl) rfl ?_
  refine E.aload_n 0 dX6_advance_40 rfl ?_
  refine E.get hw 2 32 dX6_advance_41 flX6_9 rfl rfl rfl rfl ?_
  refine E.iload_n 1 dX6_advance_44 rfl ?_
  obtain ⟨r2, hc2, hf⟩ := e_bind hf
  refine E.callVDs (es' := (wW82 G b v30_length a31 v32_clauses v32_length v32_parts x1 v32_behind v32_token v32_number v32_good)) [] [0, 1] 0 30 dX6_advance_45 mlX6_76 hw rfl rfl rfl rfl (mX9_at (hw.pick2 [0, 1] rfl (by decide)) hc2) rfl rfl rfl rfl ⟨Nat.le_of_ble_eq_true rfl, Nat.le_of_ble_eq_true rfl⟩ rfl rfl (Nat.le_of_ble_eq_true rfl) ⟨Nat.le_refl _, Nat.le_refl _⟩ rfl ?_
  refine E.istore_n (lv' := [(2, .int r2), (0, .ref (b + 32)), (1, .int x1)]) dX6_advance_48 (by decide) rfl ?_
  refine E.aload_n 1 dX6_advance_49 rfl ?_
  refine E.iconst (v := 0) dX6_advance_50 (by decide) ?_
  refine E.put (es' := (wW82 G b v30_length a31 v32_clauses v32_length v32_parts x1 v32_behind v32_token 0 v32_good)) hw 2 32 dX6_advance_51 flX6_80 ftX6 rfl rfl rfl rfl rfl rfl (Nat.le_of_ble_eq_true rfl) rfl ?_
  refine E.iload_n 2 dX6_advance_54 rfl ?_
  refine E.aload_n 1 dX6_advance_55 rfl ?_
  refine E.get hw 2 32 dX6_advance_56 flX6_9 rfl rfl rfl rfl ?_
  refine E.getN hw 0 30 dX6_advance_59 fnX6_73 rfl rfl rfl rfl ?_
  refine E.icmp_lt dX6_advance_62 (fun h => ?_) (fun h => ?_)
  · have hf := e_ift hf h
    refine E.iload_n 0 dX6_advance_73 rfl ?_
    obtain ⟨r3, hc3, hf⟩ := e_bind hf
    refine E.callSD [] dX6_advance_74 mlX6_83 (mX6_isLetter hc3) ⟨Nat.le_of_ble_eq_true rfl, Nat.le_of_ble_eq_true rfl⟩ rfl rfl (Nat.le_of_ble_eq_true rfl) ⟨Nat.le_refl _, Nat.le_refl _⟩ rfl ?_
    refine E.if_eq dX6_advance_77 (fun h => ?_) (fun h => ?_)
    · have hf := e_ift hf h
      refine E.iload_n 0 dX6_advance_116 rfl ?_
      obtain ⟨r4, hc4, hf⟩ := e_bind hf
      refine E.callSD [] dX6_advance_117 mlX6_87 (mX6_isDigit hc4) ⟨Nat.le_of_ble_eq_true rfl, Nat.le_of_ble_eq_true rfl⟩ rfl rfl (Nat.le_of_ble_eq_true rfl) ⟨Nat.le_refl _, Nat.le_refl _⟩ rfl ?_
      refine E.if_eq dX6_advance_120 (fun h => ?_) (fun h => ?_)
      · have hf := e_ift hf h
        refine E.aload_n 1 dX6_advance_188 rfl ?_
        refine E.iconst (v := 3) dX6_advance_189 (by decide) ?_
        refine E.put (es' := (wW82 G b v30_length a31 v32_clauses v32_length v32_parts x1 v32_behind 3 0 v32_good)) hw 2 32 dX6_advance_190 flX6_58 ftX6 rfl rfl rfl rfl rfl rfl (Nat.le_of_ble_eq_true rfl) rfl ?_
        refine E.iinc (q := 2) (v := (x1 + 1)) (lv' := [(1, .int (x1 + 1)), (2, .int r2), (0, .ref (b + 32))]) dX6_advance_193 rfl rfl (by decide) rfl ?_
        refine E.locals [2, 0] rfl ?_
        exact tX6_advance_L196 hw hf
      · have hf := e_iff hf h
        refine E.aload_n 1 dX6_advance_123 rfl ?_
        refine E.iconst (v := 2) dX6_advance_124 (by decide) ?_
        refine E.put (es' := (wW82 G b v30_length a31 v32_clauses v32_length v32_parts x1 v32_behind 2 0 v32_good)) hw 2 32 dX6_advance_125 flX6_58 ftX6 rfl rfl rfl rfl rfl rfl (Nat.le_of_ble_eq_true rfl) rfl ?_
        refine E.locals [1, 2] rfl ?_
        exact tX6_advance_L128 hw _ hf
    · have hf := e_iff hf h
      refine E.aload_n 1 dX6_advance_80 rfl ?_
      refine E.iconst (v := 1) dX6_advance_81 (by decide) ?_
      refine E.put (es' := (wW82 G b v30_length a31 v32_clauses v32_length v32_parts x1 v32_behind 1 0 v32_good)) hw 2 32 dX6_advance_82 flX6_58 ftX6 rfl rfl rfl rfl rfl rfl (Nat.le_of_ble_eq_true rfl) rfl ?_
      refine E.locals [1, 2] rfl ?_
      exact tX6_advance_L85 hw _ hf
  · have hf := e_iff hf h
    refine E.aload_n 1 dX6_advance_65 rfl ?_
    refine E.iconst (v := 0) dX6_advance_66 (by decide) ?_
    refine E.put (es' := (wW82 G b v30_length a31 v32_clauses v32_length v32_parts x1 v32_behind 0 0 v32_good)) hw 2 32 dX6_advance_67 flX6_58 ftX6 rfl rfl rfl rfl rfl rfl (Nat.le_of_ble_eq_true rfl) rfl ?_
    refine E.goto dX6_advance_70 ?_
    refine E.locals [1, 2] rfl ?_
    exact tX6_advance_L196 hw hf
def fX6_advance_L5 (Fu : Nat) : Nat → Int32 → (Nat → Int32) → Int32 → Int32 → Int32 → Int32 → Int32 → Option (Int32 × Int32 × Int32 × Int32)
  | 0, _, _, _, _, _, _, _ => none
  | k + 1, v30_length, a31, v32_start, v32_behind, v32_token, v32_number, x1 => if (v30_length : Int32) ≤ (x1 : Int32) then (fX6_advance_L35 Fu v30_length a31 v32_start v32_behind v32_token v32_number x1) else ((fX9_at v30_length a31 x1).bind fun r1 => (if (r1 : Int32) = (32 : Int32) then ((fX6_advance_L5 Fu k) v30_length a31 v32_start v32_behind v32_token v32_number (x1 + 1)) else (fX6_advance_L35 Fu v30_length a31 v32_start v32_behind v32_token v32_number x1)))
set_option maxHeartbeats 4000000 in
set_option maxRecDepth 100000 in
theorem tX6_advance_L5 {G : GT} {b : Nat} {c0 : Hp} {n : Nat} (hw : e_wf (kW82) n) {v32_clauses : Int32} {v32_length : Int32} {v32_parts : Int32} {v32_good : Int32} {Fu : Nat} : ∀ (k : Nat) {v30_length : Int32} {a31 : Nat → Int32} {v32_start : Int32} {v32_behind : Int32} {v32_token : Int32} {v32_number : Int32} {x1 : Int32} {R : Int32 × Int32 × Int32 × Int32}, fX6_advance_L5 Fu k v30_length a31 v32_start v32_behind v32_token v32_number x1 = some R → E G b yX6_advance cX6_advance 3 none (e_rm 1 0 0) e_X0 (e_Z G b (pD none (e_ov (kW82) (wW82 G b v30_length a31 v32_clauses v32_length v32_parts R.1 R.2.1 R.2.2.1 R.2.2.2 v32_good) c0) n) 0 0) 5 [(0, .ref (b + 32)), (1, .int x1)] [] (e_ov (kW82) (wW82 G b v30_length a31 v32_clauses v32_length v32_parts v32_start v32_behind v32_token v32_number v32_good) c0) n 0 0 := by
  intro k
  induction k with
  | zero =>
    intro _ _ _ _ _ _ _ _ hf
    have hf : (none : Option (Int32 × Int32 × Int32 × Int32)) = some _ := hf
    cases hf
  | succ k ih =>
    intro v30_length a31 v32_start v32_behind v32_token v32_number x1 R hf
    rw [fX6_advance_L5] at hf
    refine E.iload_n 1 dX6_advance_5 rfl ?_
    refine E.aload_n 0 dX6_advance_6 rfl ?_
    refine E.get hw 2 32 dX6_advance_7 flX6_9 rfl rfl rfl rfl ?_
    refine E.getN hw 0 30 dX6_advance_10 fnX6_73 rfl rfl rfl rfl ?_
    refine E.icmp_ge dX6_advance_13 (fun h => ?_) (fun h => ?_)
    · have hf := e_ift hf h
      exact tX6_advance_L35 hw hf
    · have hf := e_iff hf h
      refine E.aload_n 0 dX6_advance_16 rfl ?_
      refine E.get hw 2 32 dX6_advance_17 flX6_9 rfl rfl rfl rfl ?_
      refine E.iload_n 1 dX6_advance_20 rfl ?_
      obtain ⟨r1, hc1, hf⟩ := e_bind hf
      refine E.callVDs (es' := (wW82 G b v30_length a31 v32_clauses v32_length v32_parts v32_start v32_behind v32_token v32_number v32_good)) [] [0, 1] 0 30 dX6_advance_21 mlX6_76 hw rfl rfl rfl rfl (mX9_at (hw.pick2 [0, 1] rfl (by decide)) hc1) rfl rfl rfl rfl ⟨Nat.le_of_ble_eq_true rfl, Nat.le_of_ble_eq_true rfl⟩ rfl rfl (Nat.le_of_ble_eq_true rfl) ⟨Nat.le_refl _, Nat.le_refl _⟩ rfl ?_
      refine E.bipush (v := 32) dX6_advance_24 (by decide) ?_
      refine E.icmp_ne dX6_advance_26 (fun h => ?_) (fun h => ?_)
      · have hf := e_iff hf h
        exact tX6_advance_L35 hw hf
      · have hf := e_ift hf h
        refine E.iinc (q := 1) (v := (x1 + 1)) (lv' := [(1, .int (x1 + 1)), (0, .ref (b + 32))]) dX6_advance_29 rfl rfl (by decide) rfl ?_
        refine E.goto dX6_advance_32 ?_
        refine E.locals [1, 0] rfl ?_
        exact ih hf
def fX6_advance (Fu : Nat) (v30_length : Int32) (a31 : Nat → Int32) (v32_start : Int32) (v32_behind : Int32) (v32_token : Int32) (v32_number : Int32) : Option (Int32 × Int32 × Int32 × Int32) := fX6_advance_L5 Fu Fu v30_length a31 v32_start v32_behind v32_token v32_number v32_behind
set_option maxHeartbeats 4000000 in
set_option maxRecDepth 100000 in
theorem tX6_advance {G : GT} {b : Nat} {c0 : Hp} {n : Nat} (hw : e_wf (kW82) n) {v32_clauses : Int32} {v32_length : Int32} {v32_parts : Int32} {v32_good : Int32} {Fu : Nat} {v30_length : Int32} {a31 : Nat → Int32} {v32_start : Int32} {v32_behind : Int32} {v32_token : Int32} {v32_number : Int32} {R : Int32 × Int32 × Int32 × Int32} (hf : fX6_advance Fu v30_length a31 v32_start v32_behind v32_token v32_number = some R) : E G b yX6_advance cX6_advance 3 none (e_rm 1 0 0) e_X0 (e_Z G b (pD none (e_ov (kW82) (wW82 G b v30_length a31 v32_clauses v32_length v32_parts R.1 R.2.1 R.2.2.1 R.2.2.2 v32_good) c0) n) 0 0) 0 [(0, .ref (b + 32))] [] (e_ov (kW82) (wW82 G b v30_length a31 v32_clauses v32_length v32_parts v32_start v32_behind v32_token v32_number v32_good) c0) n 0 0 := by
  unfold fX6_advance at hf
  refine E.aload_n 0 dX6_advance_0 rfl ?_
  refine E.get hw 2 32 dX6_advance_1 flX6_44 rfl rfl rfl rfl ?_
  refine E.istore_n (lv' := [(1, .int v32_behind), (0, .ref (b + 32))]) dX6_advance_4 (by decide) rfl ?_
  refine E.locals [1, 0] rfl ?_
  exact tX6_advance_L5 hw _ hf
set_option maxRecDepth 100000 in
theorem mX6_advance {G : GT} {b : Nat} {c0 : Hp} {n : Nat} (hw : e_wf (kW82) n) {v32_clauses : Int32} {v32_length : Int32} {v32_parts : Int32} {v32_good : Int32} {Fu : Nat} {v30_length : Int32} {a31 : Nat → Int32} {v32_start : Int32} {v32_behind : Int32} {v32_token : Int32} {v32_number : Int32} {R : Int32 × Int32 × Int32 × Int32} (hf : fX6_advance Fu v30_length a31 v32_start v32_behind v32_token v32_number = some R) : e_C G b yX6_advance cX6_advance 3 none 1 0 0 [.ref (b + 32)] (e_ov (kW82) (wW82 G b v30_length a31 v32_clauses v32_length v32_parts v32_start v32_behind v32_token v32_number v32_good) c0) n (pD none (e_ov (kW82) (wW82 G b v30_length a31 v32_clauses v32_length v32_parts R.1 R.2.1 R.2.2.1 R.2.2.2 v32_good) c0) n) := e_C.of (by decide) (Nat.le_of_ble_eq_true rfl) (tX6_advance hw hf)
def fX6_isSign_L27 (v30_length : Int32) (a31 : Nat → Int32) (v32_start : Int32) (v32_token : Int32) : Option (Int32) := some (0)
set_option maxHeartbeats 4000000 in
set_option maxRecDepth 100000 in
theorem tX6_isSign_L27 {G : GT} {b : Nat} {c0 : Hp} {n : Nat} (hw : e_wf (kW82) n) {v32_clauses : Int32} {v32_length : Int32} {v32_parts : Int32} {v32_behind : Int32} {v32_number : Int32} {v32_good : Int32} {v30_length : Int32} {a31 : Nat → Int32} {v32_start : Int32} {v32_token : Int32} {R : Int32} (hf : fX6_isSign_L27 v30_length a31 v32_start v32_token = some R) : E G b yX6_isSign cX6_isSign 2 (some .boolean) (e_rm 1 0 0) e_X0 (e_Z G b (pD (some (.int R)) (e_ov (kW82) (wW82 G b v30_length a31 v32_clauses v32_length v32_parts v32_start v32_behind v32_token v32_number v32_good) c0) n) 0 0) 27 [] [] (e_ov (kW82) (wW82 G b v30_length a31 v32_clauses v32_length v32_parts v32_start v32_behind v32_token v32_number v32_good) c0) n 0 0 := by
  unfold fX6_isSign_L27 at hf
  refine E.iconst (v := 0) dX6_isSign_27 (by decide) ?_
  cases hf
  exact E.zret dX6_isSign_28 rfl (Nat.le_refl _) (Nat.le_refl _) (pD_rf _ _ _)
def fX6_isSign (v30_length : Int32) (a31 : Nat → Int32) (v32_start : Int32) (v32_token : Int32) (x1 : Int32) : Option (Int32) := if (v32_token : Int32) = (3 : Int32) then ((fX9_at v30_length a31 v32_start).bind fun r1 => (if (r1 : Int32) = (x1 : Int32) then (some (1)) else (fX6_isSign_L27 v30_length a31 v32_start v32_token))) else (fX6_isSign_L27 v30_length a31 v32_start v32_token)
set_option maxHeartbeats 4000000 in
set_option maxRecDepth 100000 in
theorem tX6_isSign {G : GT} {b : Nat} {c0 : Hp} {n : Nat} (hw : e_wf (kW82) n) {v32_clauses : Int32} {v32_length : Int32} {v32_parts : Int32} {v32_behind : Int32} {v32_number : Int32} {v32_good : Int32} {v30_length : Int32} {a31 : Nat → Int32} {v32_start : Int32} {v32_token : Int32} {x1 : Int32} {R : Int32} (hf : fX6_isSign v30_length a31 v32_start v32_token x1 = some R) : E G b yX6_isSign cX6_isSign 2 (some .boolean) (e_rm 1 0 0) e_X0 (e_Z G b (pD (some (.int R)) (e_ov (kW82) (wW82 G b v30_length a31 v32_clauses v32_length v32_parts v32_start v32_behind v32_token v32_number v32_good) c0) n) 0 0) 0 [(0, .ref (b + 32)), (1, .int x1)] [] (e_ov (kW82) (wW82 G b v30_length a31 v32_clauses v32_length v32_parts v32_start v32_behind v32_token v32_number v32_good) c0) n 0 0 := by
  unfold fX6_isSign at hf
  refine E.aload_n 0 dX6_isSign_0 rfl ?_
  refine E.get hw 2 32 dX6_isSign_1 flX6_58 rfl rfl rfl rfl ?_
  refine E.iconst (v := 3) dX6_isSign_4 (by decide) ?_
  refine E.icmp_ne dX6_isSign_5 (fun h => ?_) (fun h => ?_)
  · have hf := e_iff hf h
    refine E.locals [] rfl ?_
    exact tX6_isSign_L27 hw hf
  · have hf := e_ift hf h
    refine E.aload_n 0 dX6_isSign_8 rfl ?_
    refine E.get hw 2 32 dX6_isSign_9 flX6_9 rfl rfl rfl rfl ?_
    refine E.aload_n 0 dX6_isSign_12 rfl ?_
    refine E.get hw 2 32 dX6_isSign_13 flX6_70 rfl rfl rfl rfl ?_
    obtain ⟨r1, hc1, hf⟩ := e_bind hf
    refine E.callVDs (es' := (wW82 G b v30_length a31 v32_clauses v32_length v32_parts v32_start v32_behind v32_token v32_number v32_good)) [] [0, 1] 0 30 dX6_isSign_16 mlX6_76 hw rfl rfl rfl rfl (mX9_at (hw.pick2 [0, 1] rfl (by decide)) hc1) rfl rfl rfl rfl ⟨Nat.le_of_ble_eq_true rfl, Nat.le_of_ble_eq_true rfl⟩ rfl rfl (Nat.le_of_ble_eq_true rfl) ⟨Nat.le_refl _, Nat.le_refl _⟩ rfl ?_
    refine E.iload_n 1 dX6_isSign_19 rfl ?_
    refine E.icmp_ne dX6_isSign_20 (fun h => ?_) (fun h => ?_)
    · have hf := e_iff hf h
      refine E.locals [] rfl ?_
      exact tX6_isSign_L27 hw hf
    · have hf := e_ift hf h
      refine E.iconst (v := 1) dX6_isSign_23 (by decide) ?_
      refine E.goto dX6_isSign_24 ?_
      cases hf
      exact E.zret dX6_isSign_28 rfl (Nat.le_refl _) (Nat.le_refl _) (pD_rf _ _ _)
set_option maxRecDepth 100000 in
theorem mX6_isSign {G : GT} {b : Nat} {c0 : Hp} {n : Nat} (hw : e_wf (kW82) n) {v32_clauses : Int32} {v32_length : Int32} {v32_parts : Int32} {v32_behind : Int32} {v32_number : Int32} {v32_good : Int32} {v30_length : Int32} {a31 : Nat → Int32} {v32_start : Int32} {v32_token : Int32} {x1 : Int32} {R : Int32} (hf : fX6_isSign v30_length a31 v32_start v32_token x1 = some R) : e_C G b yX6_isSign cX6_isSign 2 (some .boolean) 1 0 0 [.ref (b + 32), .int x1] (e_ov (kW82) (wW82 G b v30_length a31 v32_clauses v32_length v32_parts v32_start v32_behind v32_token v32_number v32_good) c0) n (pD (some (.int R)) (e_ov (kW82) (wW82 G b v30_length a31 v32_clauses v32_length v32_parts v32_start v32_behind v32_token v32_number v32_good) c0) n) := e_C.of (by decide) (Nat.le_of_ble_eq_true rfl) (tX6_isSign hw hf)
abbrev kW81 : List Nat := [30, 31, 32, 36]
abbrev wW81 (G : GT) (b  : Nat) (v30_length : Int32) (a31 : Nat → Int32) (v32_clauses : Int32) (v32_length : Int32) (v32_parts : Int32) (v32_start : Int32) (v32_behind : Int32) (v32_token : Int32) (v32_number : Int32) (v32_good : Int32) (a36 : Nat → Int32) : List va_E := [.inr (9, [.ref (b + 31), .int v30_length]), aI G 400 a31, .inr (6, [.ref (b + 30), .ref (b + 33), .ref (b + 34), .ref (b + 35), .ref (b + 36), .int v32_clauses, .int v32_length, .int v32_parts, .int v32_start, .int v32_behind, .int v32_token, .int v32_number, .int v32_good]), aI G 400 a36]
def fX6_readBracketedSum (Fu : Nat) (kS : Int32 → (Nat → Int32) → Int32 → Int32 → Int32 → Int32 → Int32 → Int32 → (Nat → Int32) → Int32 → Option (Int32 × Int32 × Int32 × Int32 × Int32 × Int32 × Int32 × (Nat → Int32))) (v30_length : Int32) (a31 : Nat → Int32) (v32_length : Int32) (v32_parts : Int32) (v32_start : Int32) (v32_behind : Int32) (v32_token : Int32) (v32_number : Int32) (a36 : Nat → Int32) (x1 : Int32) : Option (Int32 × Int32 × Int32 × Int32 × Int32 × Int32 × Int32 × (Nat → Int32)) := if (x1 : Int32) < (8 : Int32) then ((fX6_advance Fu v30_length a31 v32_start v32_behind v32_token v32_number).bind fun r1 => ((kS v30_length a31 v32_length v32_parts r1.1 r1.2.1 r1.2.2.1 r1.2.2.2 a36 (x1 + 1)).bind fun r2 => (if (r2.1 : Int32) = (0 : Int32) then (some (0, r2.2.1, r2.2.2.1, r2.2.2.2.1, r2.2.2.2.2.1, r2.2.2.2.2.2.1, r2.2.2.2.2.2.2.1, r2.2.2.2.2.2.2.2)) else ((fX6_isSign v30_length a31 r2.2.2.2.1 r2.2.2.2.2.2.1 93).bind fun r3 => (if (r3 : Int32) = (0 : Int32) then (some (0, r2.2.1, r2.2.2.1, r2.2.2.2.1, r2.2.2.2.2.1, r2.2.2.2.2.2.1, r2.2.2.2.2.2.2.1, r2.2.2.2.2.2.2.2)) else ((fX6_advance Fu v30_length a31 r2.2.2.2.1 r2.2.2.2.2.1 r2.2.2.2.2.2.1 r2.2.2.2.2.2.2.1).bind fun r4 => (some (1, r2.2.1, r2.2.2.1, r4.1, r4.2.1, r4.2.2.1, r4.2.2.2, r2.2.2.2.2.2.2.2)))))))) else (some (0, v32_length, v32_parts, v32_start, v32_behind, v32_token, v32_number, a36))
set_option maxHeartbeats 4000000 in
set_option maxRecDepth 100000 in
theorem tX6_readBracketedSum {G : GT} {b : Nat} {c0 : Hp} {n : Nat} {D : Nat} (hD : 6 ≤ D) (hw : e_wf (kW81) n) {v32_clauses : Int32} {v32_good : Int32} {kS : Int32 → (Nat → Int32) → Int32 → Int32 → Int32 → Int32 → Int32 → Int32 → (Nat → Int32) → Int32 → Option (Int32 × Int32 × Int32 × Int32 × Int32 × Int32 × Int32 × (Nat → Int32))} (hS : ∀ {v30_length : Int32} {a31 : Nat → Int32} {v32_length : Int32} {v32_parts : Int32} {v32_start : Int32} {v32_behind : Int32} {v32_token : Int32} {v32_number : Int32} {a36 : Nat → Int32} {x1 : Int32} {R : Int32 × Int32 × Int32 × Int32 × Int32 × Int32 × Int32 × (Nat → Int32)}, kS v30_length a31 v32_length v32_parts v32_start v32_behind v32_token v32_number a36 x1 = some R → e_C G b yX6_readSum cX6_readSum 5 (some .boolean) D 0 0 [.ref (b + 32), .int x1] (e_ov (kW81) (wW81 G b v30_length a31 v32_clauses v32_length v32_parts v32_start v32_behind v32_token v32_number v32_good a36) c0) n (pD (some (.int R.1)) (e_ov (kW81) (wW81 G b v30_length a31 v32_clauses R.2.1 R.2.2.1 R.2.2.2.1 R.2.2.2.2.1 R.2.2.2.2.2.1 R.2.2.2.2.2.2.1 v32_good R.2.2.2.2.2.2.2) c0) n)) {Fu : Nat} {v30_length : Int32} {a31 : Nat → Int32} {v32_length : Int32} {v32_parts : Int32} {v32_start : Int32} {v32_behind : Int32} {v32_token : Int32} {v32_number : Int32} {a36 : Nat → Int32} {x1 : Int32} {R : Int32 × Int32 × Int32 × Int32 × Int32 × Int32 × Int32 × (Nat → Int32)} (hf : fX6_readBracketedSum Fu kS v30_length a31 v32_length v32_parts v32_start v32_behind v32_token v32_number a36 x1 = some R) : E G b yX6_readBracketedSum cX6_readBracketedSum 2 (some .boolean) (e_rm (D + 1) 0 0) e_X0 (e_Z G b (pD (some (.int R.1)) (e_ov (kW81) (wW81 G b v30_length a31 v32_clauses R.2.1 R.2.2.1 R.2.2.2.1 R.2.2.2.2.1 R.2.2.2.2.2.1 R.2.2.2.2.2.2.1 v32_good R.2.2.2.2.2.2.2) c0) n) 0 0) 0 [(0, .ref (b + 32)), (1, .int x1)] [] (e_ov (kW81) (wW81 G b v30_length a31 v32_clauses v32_length v32_parts v32_start v32_behind v32_token v32_number v32_good a36) c0) n 0 0 := by
  unfold fX6_readBracketedSum at hf
  refine E.iload_n 1 dX6_readBracketedSum_0 rfl ?_
  refine E.bipush (v := 8) dX6_readBracketedSum_1 (by decide) ?_
  refine E.icmp_lt dX6_readBracketedSum_3 (fun h => ?_) (fun h => ?_)
  · have hf := e_ift hf h
    refine E.aload_n 0 dX6_readBracketedSum_8 rfl ?_
    obtain ⟨r1, hc1, hf⟩ := e_bind hf
    refine E.callVDs (es' := (wW81 G b v30_length a31 v32_clauses v32_length v32_parts r1.1 r1.2.1 r1.2.2.1 r1.2.2.2 v32_good a36)) [] [0, 1, 2] 2 32 dX6_readBracketedSum_9 mlX6_47 hw rfl rfl rfl rfl (mX6_advance (hw.pick2 [0, 1, 2] rfl (by decide)) hc1) rfl rfl rfl rfl ⟨by show _ ≤ D + 1; omega, by show _ ≤ 64 * (D + 1); omega⟩ rfl rfl (Nat.le_of_ble_eq_true rfl) ⟨Nat.le_refl _, Nat.le_refl _⟩ rfl ?_
    refine E.aload_n 0 dX6_readBracketedSum_12 rfl ?_
    refine E.iload_n 1 dX6_readBracketedSum_13 rfl ?_
    refine E.iconst (v := 1) dX6_readBracketedSum_14 (by decide) ?_
    refine E.iadd dX6_readBracketedSum_15 ?_
    obtain ⟨r2, hc2, hf⟩ := e_bind hf
    refine E.callVD [] dX6_readBracketedSum_16 mlX6_111 ⟨hw.sub (p := 2) rfl, e_ov_get hw.1 (p := 2) rfl rfl⟩ rfl rfl (hS hc2) ⟨by show _ ≤ D + 1; omega, by show _ ≤ 64 * (D + 1); omega⟩ rfl rfl (Nat.le_of_ble_eq_true rfl) ⟨Nat.le_refl _, Nat.le_refl _⟩ rfl ?_
    refine E.if_eq dX6_readBracketedSum_19 (fun h => ?_) (fun h => ?_)
    · have hf := e_ift hf h
      refine E.iconst (v := 0) dX6_readBracketedSum_31 (by decide) ?_
      cases hf
      exact E.zret dX6_readBracketedSum_32 rfl (Nat.le_refl _) (Nat.le_refl _) (pD_rf _ _ _)
    · have hf := e_iff hf h
      refine E.aload_n 0 dX6_readBracketedSum_22 rfl ?_
      refine E.bipush (v := 93) dX6_readBracketedSum_23 (by decide) ?_
      obtain ⟨r3, hc3, hf⟩ := e_bind hf
      refine E.callVDs (es' := (wW81 G b v30_length a31 v32_clauses r2.2.1 r2.2.2.1 r2.2.2.2.1 r2.2.2.2.2.1 r2.2.2.2.2.2.1 r2.2.2.2.2.2.2.1 v32_good r2.2.2.2.2.2.2.2)) [] [0, 1, 2] 2 32 dX6_readBracketedSum_25 mlX6_54 hw rfl rfl rfl rfl (mX6_isSign (hw.pick2 [0, 1, 2] rfl (by decide)) hc3) rfl rfl rfl rfl ⟨by show _ ≤ D + 1; omega, by show _ ≤ 64 * (D + 1); omega⟩ rfl rfl (Nat.le_of_ble_eq_true rfl) ⟨Nat.le_refl _, Nat.le_refl _⟩ rfl ?_
      refine E.if_ne dX6_readBracketedSum_28 (fun h => ?_) (fun h => ?_)
      · have hf := e_iff hf h
        refine E.aload_n 0 dX6_readBracketedSum_33 rfl ?_
        obtain ⟨r4, hc4, hf⟩ := e_bind hf
        refine E.callVDs (es' := (wW81 G b v30_length a31 v32_clauses r2.2.1 r2.2.2.1 r4.1 r4.2.1 r4.2.2.1 r4.2.2.2 v32_good r2.2.2.2.2.2.2.2)) [] [0, 1, 2] 2 32 dX6_readBracketedSum_34 mlX6_47 hw rfl rfl rfl rfl (mX6_advance (hw.pick2 [0, 1, 2] rfl (by decide)) hc4) rfl rfl rfl rfl ⟨by show _ ≤ D + 1; omega, by show _ ≤ 64 * (D + 1); omega⟩ rfl rfl (Nat.le_of_ble_eq_true rfl) ⟨Nat.le_refl _, Nat.le_refl _⟩ rfl ?_
        refine E.iconst (v := 1) dX6_readBracketedSum_37 (by decide) ?_
        cases hf
        exact E.zret dX6_readBracketedSum_38 rfl (Nat.le_refl _) (Nat.le_refl _) (pD_rf _ _ _)
      · have hf := e_ift hf h
        refine E.iconst (v := 0) dX6_readBracketedSum_31 (by decide) ?_
        cases hf
        exact E.zret dX6_readBracketedSum_32 rfl (Nat.le_refl _) (Nat.le_refl _) (pD_rf _ _ _)
  · have hf := e_iff hf h
    refine E.iconst (v := 0) dX6_readBracketedSum_6 (by decide) ?_
    cases hf
    exact E.zret dX6_readBracketedSum_7 rfl (Nat.le_refl _) (Nat.le_refl _) (pD_rf _ _ _)
set_option maxRecDepth 100000 in
theorem mX6_readBracketedSum {G : GT} {b : Nat} {c0 : Hp} {n : Nat} {D : Nat} (hD : 6 ≤ D) (hw : e_wf (kW81) n) {v32_clauses : Int32} {v32_good : Int32} {kS : Int32 → (Nat → Int32) → Int32 → Int32 → Int32 → Int32 → Int32 → Int32 → (Nat → Int32) → Int32 → Option (Int32 × Int32 × Int32 × Int32 × Int32 × Int32 × Int32 × (Nat → Int32))} (hS : ∀ {v30_length : Int32} {a31 : Nat → Int32} {v32_length : Int32} {v32_parts : Int32} {v32_start : Int32} {v32_behind : Int32} {v32_token : Int32} {v32_number : Int32} {a36 : Nat → Int32} {x1 : Int32} {R : Int32 × Int32 × Int32 × Int32 × Int32 × Int32 × Int32 × (Nat → Int32)}, kS v30_length a31 v32_length v32_parts v32_start v32_behind v32_token v32_number a36 x1 = some R → e_C G b yX6_readSum cX6_readSum 5 (some .boolean) D 0 0 [.ref (b + 32), .int x1] (e_ov (kW81) (wW81 G b v30_length a31 v32_clauses v32_length v32_parts v32_start v32_behind v32_token v32_number v32_good a36) c0) n (pD (some (.int R.1)) (e_ov (kW81) (wW81 G b v30_length a31 v32_clauses R.2.1 R.2.2.1 R.2.2.2.1 R.2.2.2.2.1 R.2.2.2.2.2.1 R.2.2.2.2.2.2.1 v32_good R.2.2.2.2.2.2.2) c0) n)) {Fu : Nat} {v30_length : Int32} {a31 : Nat → Int32} {v32_length : Int32} {v32_parts : Int32} {v32_start : Int32} {v32_behind : Int32} {v32_token : Int32} {v32_number : Int32} {a36 : Nat → Int32} {x1 : Int32} {R : Int32 × Int32 × Int32 × Int32 × Int32 × Int32 × Int32 × (Nat → Int32)} (hf : fX6_readBracketedSum Fu kS v30_length a31 v32_length v32_parts v32_start v32_behind v32_token v32_number a36 x1 = some R) : e_C G b yX6_readBracketedSum cX6_readBracketedSum 2 (some .boolean) (D + 1) 0 0 [.ref (b + 32), .int x1] (e_ov (kW81) (wW81 G b v30_length a31 v32_clauses v32_length v32_parts v32_start v32_behind v32_token v32_number v32_good a36) c0) n (pD (some (.int R.1)) (e_ov (kW81) (wW81 G b v30_length a31 v32_clauses R.2.1 R.2.2.1 R.2.2.2.1 R.2.2.2.2.1 R.2.2.2.2.2.1 R.2.2.2.2.2.2.1 v32_good R.2.2.2.2.2.2.2) c0) n) := e_C.of (by decide) (Nat.le_of_ble_eq_true rfl) (tX6_readBracketedSum hD hw hS hf)
abbrev kW83 : List Nat := [30, 31, 32]
abbrev wW83 (G : GT) (b  : Nat) (v30_length : Int32) (a31 : Nat → Int32) (v32_clauses : Int32) (v32_length : Int32) (v32_parts : Int32) (v32_start : Int32) (v32_behind : Int32) (v32_token : Int32) (v32_number : Int32) (v32_good : Int32) : List va_E := [.inr (9, [.ref (b + 31), .int v30_length]), aI G 400 a31, .inr (6, [.ref (b + 30), .ref (b + 33), .ref (b + 34), .ref (b + 35), .ref (b + 36), .int v32_clauses, .int v32_length, .int v32_parts, .int v32_start, .int v32_behind, .int v32_token, .int v32_number, .int v32_good])]
def fX6_isWord_L28 (Fu : Nat) (i : Nat) : Nat → (Nat → Int32) → Int32 → Int32 → Int32 → Int32 → Option (Int32)
  | 0, _, _, _, _, _ => none
  | k + 1, a31, v32_start, v32_behind, v32_token, x2 => if ((Int32.ofNat (e_kL.getD i 0)) : Int32) ≤ (x2 : Int32) then (some (1)) else (gd (v32_start + x2) 400 (gd x2 (e_kL.getD i 0) (if ((a31 ((v32_start + x2) : Int32).toNatClampNeg) : Int32) = ((e_ch i x2) : Int32) then ((fX6_isWord_L28 Fu i k) a31 v32_start v32_behind v32_token (x2 + 1)) else (some (0)))))
set_option maxHeartbeats 4000000 in
set_option maxRecDepth 100000 in
theorem tX6_isWord_L28 {G : GT} {b : Nat} {c0 : Hp} {n : Nat} (hw : e_wf (kW83) n) {v30_length : Int32} {v32_clauses : Int32} {v32_length : Int32} {v32_parts : Int32} {v32_number : Int32} {v32_good : Int32} {i : Nat} (hs : i < 17) {Fu : Nat} : ∀ (k : Nat) {a31 : Nat → Int32} {v32_start : Int32} {v32_behind : Int32} {v32_token : Int32} {x2 : Int32} {R : Int32}, fX6_isWord_L28 Fu i k a31 v32_start v32_behind v32_token x2 = some R → E G b yX6_isWord cX6_isWord 3 (some .boolean) (e_rm 4 0 0) e_X0 (e_Z G b (pD (some (.int R)) (e_ov (kW83) (wW83 G b v30_length a31 v32_clauses v32_length v32_parts v32_start v32_behind v32_token v32_number v32_good) c0) n) 0 0) 28 [(0, .ref (b + 32)), (1, .ref (G.2.2.2.1 i)), (2, .int x2)] [] (e_ov (kW83) (wW83 G b v30_length a31 v32_clauses v32_length v32_parts v32_start v32_behind v32_token v32_number v32_good) c0) n 0 0 := by
  intro k
  induction k with
  | zero =>
    intro _ _ _ _ _ _ hf
    have hf : (none : Option (Int32)) = some _ := hf
    cases hf
  | succ k ih =>
    intro a31 v32_start v32_behind v32_token x2 R hf
    rw [fX6_isWord_L28] at hf
    refine E.iload_n 2 dX6_isWord_28 rfl ?_
    refine E.aload_n 1 dX6_isWord_29 rfl ?_
    refine E.callSt [.int x2] i hs dX6_isWord_30 mlX6_96 rfl (m_length hs) ⟨Nat.le_of_ble_eq_true rfl, Nat.le_of_ble_eq_true rfl⟩ rfl rfl (Nat.le_of_ble_eq_true rfl) ⟨Nat.le_refl _, Nat.le_refl _⟩ rfl ?_
    refine E.icmp_ge dX6_isWord_33 (fun h => ?_) (fun h => ?_)
    · have hf := e_ift hf h
      refine E.iconst (v := 1) dX6_isWord_66 (by decide) ?_
      cases hf
      exact E.zret dX6_isWord_67 rfl (Nat.le_refl _) (Nat.le_refl _) (pD_rf _ _ _)
    · have hf := e_iff hf h
      refine E.aload_n 0 dX6_isWord_36 rfl ?_
      refine E.get hw 2 32 dX6_isWord_37 flX6_9 rfl rfl rfl rfl ?_
      refine E.getN hw 0 30 dX6_isWord_40 fnX6_101 rfl rfl rfl rfl ?_
      refine E.aload_n 0 dX6_isWord_43 rfl ?_
      refine E.get hw 2 32 dX6_isWord_44 flX6_70 rfl rfl rfl rfl ?_
      refine E.iload_n 2 dX6_isWord_47 rfl ?_
      refine E.iadd dX6_isWord_48 ?_
      obtain ⟨g1, hf⟩ := gd_some hf
      refine E.iald hw 1 31 dX6_isWord_49 rfl rfl g1 ?_
      refine E.aload_n 1 dX6_isWord_50 rfl ?_
      refine E.iload_n 2 dX6_isWord_51 rfl ?_
      obtain ⟨g2, hf⟩ := gd_some hf
      refine E.callSt [.int (a31 ((v32_start + x2) : Int32).toNatClampNeg)] i hs dX6_isWord_52 mlX6_104 rfl (m_charAt hs g2) ⟨Nat.le_of_ble_eq_true rfl, Nat.le_of_ble_eq_true rfl⟩ rfl rfl (Nat.le_of_ble_eq_true rfl) ⟨Nat.le_refl _, Nat.le_refl _⟩ rfl ?_
      refine E.icmp_eq dX6_isWord_55 (fun h => ?_) (fun h => ?_)
      · have hf := e_ift hf h
        refine E.iinc (q := 2) (v := (x2 + 1)) (lv' := [(2, .int (x2 + 1)), (0, .ref (b + 32)), (1, .ref (G.2.2.2.1 i))]) dX6_isWord_60 rfl rfl (by decide) rfl ?_
        refine E.goto dX6_isWord_63 ?_
        refine E.locals [1, 2, 0] rfl ?_
        exact ih hf
      · have hf := e_iff hf h
        refine E.iconst (v := 0) dX6_isWord_58 (by decide) ?_
        cases hf
        exact E.zret dX6_isWord_59 rfl (Nat.le_refl _) (Nat.le_refl _) (pD_rf _ _ _)
def fX6_isWord (Fu : Nat) (i : Nat) (a31 : Nat → Int32) (v32_start : Int32) (v32_behind : Int32) (v32_token : Int32) : Option (Int32) := if (v32_token : Int32) = (1 : Int32) then (if ((v32_behind - v32_start) : Int32) = ((Int32.ofNat (e_kL.getD i 0)) : Int32) then (fX6_isWord_L28 Fu i Fu a31 v32_start v32_behind v32_token 0) else (some (0))) else (some (0))
set_option maxHeartbeats 4000000 in
set_option maxRecDepth 100000 in
theorem tX6_isWord {G : GT} {b : Nat} {c0 : Hp} {n : Nat} (hw : e_wf (kW83) n) {v30_length : Int32} {v32_clauses : Int32} {v32_length : Int32} {v32_parts : Int32} {v32_number : Int32} {v32_good : Int32} {i : Nat} (hs : i < 17) {Fu : Nat} {a31 : Nat → Int32} {v32_start : Int32} {v32_behind : Int32} {v32_token : Int32} {R : Int32} (hf : fX6_isWord Fu i a31 v32_start v32_behind v32_token = some R) : E G b yX6_isWord cX6_isWord 3 (some .boolean) (e_rm 4 0 0) e_X0 (e_Z G b (pD (some (.int R)) (e_ov (kW83) (wW83 G b v30_length a31 v32_clauses v32_length v32_parts v32_start v32_behind v32_token v32_number v32_good) c0) n) 0 0) 0 [(0, .ref (b + 32)), (1, .ref (G.2.2.2.1 i))] [] (e_ov (kW83) (wW83 G b v30_length a31 v32_clauses v32_length v32_parts v32_start v32_behind v32_token v32_number v32_good) c0) n 0 0 := by
  unfold fX6_isWord at hf
  refine E.aload_n 0 dX6_isWord_0 rfl ?_
  refine E.get hw 2 32 dX6_isWord_1 flX6_58 rfl rfl rfl rfl ?_
  refine E.iconst (v := 1) dX6_isWord_4 (by decide) ?_
  refine E.icmp_ne dX6_isWord_5 (fun h => ?_) (fun h => ?_)
  · have hf := e_iff hf h
    refine E.iconst (v := 0) dX6_isWord_24 (by decide) ?_
    cases hf
    exact E.zret dX6_isWord_25 rfl (Nat.le_refl _) (Nat.le_refl _) (pD_rf _ _ _)
  · have hf := e_ift hf h
    refine E.aload_n 0 dX6_isWord_8 rfl ?_
    refine E.get hw 2 32 dX6_isWord_9 flX6_44 rfl rfl rfl rfl ?_
    refine E.aload_n 0 dX6_isWord_12 rfl ?_
    refine E.get hw 2 32 dX6_isWord_13 flX6_70 rfl rfl rfl rfl ?_
    refine E.isub dX6_isWord_16 ?_
    refine E.aload_n 1 dX6_isWord_17 rfl ?_
    refine E.callSt [.int (v32_behind - v32_start)] i hs dX6_isWord_18 mlX6_96 rfl (m_length hs) ⟨Nat.le_of_ble_eq_true rfl, Nat.le_of_ble_eq_true rfl⟩ rfl rfl (Nat.le_of_ble_eq_true rfl) ⟨Nat.le_refl _, Nat.le_refl _⟩ rfl ?_
    refine E.icmp_eq dX6_isWord_21 (fun h => ?_) (fun h => ?_)
    · have hf := e_ift hf h
      refine E.iconst (v := 0) dX6_isWord_26 (by decide) ?_
      refine E.istore_n (lv' := [(2, .int 0), (0, .ref (b + 32)), (1, .ref (G.2.2.2.1 i))]) dX6_isWord_27 (by decide) rfl ?_
      refine E.locals [1, 2, 0] rfl ?_
      exact tX6_isWord_L28 hw hs _ hf
    · have hf := e_iff hf h
      refine E.iconst (v := 0) dX6_isWord_24 (by decide) ?_
      cases hf
      exact E.zret dX6_isWord_25 rfl (Nat.le_refl _) (Nat.le_refl _) (pD_rf _ _ _)
set_option maxRecDepth 100000 in
theorem mX6_isWord {G : GT} {b : Nat} {c0 : Hp} {n : Nat} (hw : e_wf (kW83) n) {v30_length : Int32} {v32_clauses : Int32} {v32_length : Int32} {v32_parts : Int32} {v32_number : Int32} {v32_good : Int32} {i : Nat} (hs : i < 17) {Fu : Nat} {a31 : Nat → Int32} {v32_start : Int32} {v32_behind : Int32} {v32_token : Int32} {R : Int32} (hf : fX6_isWord Fu i a31 v32_start v32_behind v32_token = some R) : e_C G b yX6_isWord cX6_isWord 3 (some .boolean) 4 0 0 [.ref (b + 32), .ref (G.2.2.2.1 i)] (e_ov (kW83) (wW83 G b v30_length a31 v32_clauses v32_length v32_parts v32_start v32_behind v32_token v32_number v32_good) c0) n (pD (some (.int R)) (e_ov (kW83) (wW83 G b v30_length a31 v32_clauses v32_length v32_parts v32_start v32_behind v32_token v32_number v32_good) c0) n) := e_C.of (by decide) (Nat.le_of_ble_eq_true rfl) (tX6_isWord hw hs hf)
def fX6_wordRead (Fu : Nat) (a31 : Nat → Int32) (v32_start : Int32) (v32_behind : Int32) (v32_token : Int32) : Option (Int32) := (fX6_isWord Fu 3 a31 v32_start v32_behind v32_token).bind fun r1 => (if (r1 : Int32) = (0 : Int32) then ((fX6_isWord Fu 4 a31 v32_start v32_behind v32_token).bind fun r2 => (if (r2 : Int32) = (0 : Int32) then ((fX6_isWord Fu 5 a31 v32_start v32_behind v32_token).bind fun r3 => (if (r3 : Int32) = (0 : Int32) then ((fX6_isWord Fu 6 a31 v32_start v32_behind v32_token).bind fun r4 => (if (r4 : Int32) = (0 : Int32) then ((fX6_isWord Fu 7 a31 v32_start v32_behind v32_token).bind fun r5 => (if (r5 : Int32) = (0 : Int32) then ((fX6_isWord Fu 8 a31 v32_start v32_behind v32_token).bind fun r6 => (if (r6 : Int32) = (0 : Int32) then ((fX6_isWord Fu 9 a31 v32_start v32_behind v32_token).bind fun r7 => (if (r7 : Int32) = (0 : Int32) then ((fX6_isWord Fu 10 a31 v32_start v32_behind v32_token).bind fun r8 => (if (r8 : Int32) = (0 : Int32) then ((fX6_isWord Fu 11 a31 v32_start v32_behind v32_token).bind fun r9 => (if (r9 : Int32) = (0 : Int32) then ((fX6_isWord Fu 12 a31 v32_start v32_behind v32_token).bind fun r10 => (if (r10 : Int32) = (0 : Int32) then (some ((-1 : Int32))) else (some (9)))) else (some (8)))) else (some (7)))) else (some (6)))) else (some (5)))) else (some (4)))) else (some (3)))) else (some (2)))) else (some (1)))) else (some (0)))
set_option maxHeartbeats 4000000 in
set_option maxRecDepth 100000 in
theorem tX6_wordRead {G : GT} {b : Nat} {c0 : Hp} {n : Nat} (hw : e_wf (kW82) n) {v30_length : Int32} {v32_clauses : Int32} {v32_length : Int32} {v32_parts : Int32} {v32_number : Int32} {v32_good : Int32} {Fu : Nat} {a31 : Nat → Int32} {v32_start : Int32} {v32_behind : Int32} {v32_token : Int32} {R : Int32} (hf : fX6_wordRead Fu a31 v32_start v32_behind v32_token = some R) : E G b yX6_wordRead cX6_wordRead 1 (some .int) (e_rm 5 0 0) e_X0 (e_Z G b (pD (some (.int R)) (e_ov (kW82) (wW82 G b v30_length a31 v32_clauses v32_length v32_parts v32_start v32_behind v32_token v32_number v32_good) c0) n) 0 0) 0 [(0, .ref (b + 32))] [] (e_ov (kW82) (wW82 G b v30_length a31 v32_clauses v32_length v32_parts v32_start v32_behind v32_token v32_number v32_good) c0) n 0 0 := by
  unfold fX6_wordRead at hf
  refine E.aload_n 0 dX6_wordRead_0 rfl ?_
  refine E.ldcS 3 (by decide) dX6_wordRead_1 rfl rfl ?_
  obtain ⟨r1, hc1, hf⟩ := e_bind hf
  refine E.callVDs (es' := (wW82 G b v30_length a31 v32_clauses v32_length v32_parts v32_start v32_behind v32_token v32_number v32_good)) [] [0, 1, 2] 2 32 dX6_wordRead_3 mlX6_116 hw rfl rfl rfl rfl (mX6_isWord (hw.pick2 [0, 1, 2] rfl (by decide)) (by decide) hc1) rfl rfl rfl rfl ⟨Nat.le_of_ble_eq_true rfl, Nat.le_of_ble_eq_true rfl⟩ rfl rfl (Nat.le_of_ble_eq_true rfl) ⟨Nat.le_refl _, Nat.le_refl _⟩ rfl ?_
  refine E.if_eq dX6_wordRead_6 (fun h => ?_) (fun h => ?_)
  · have hf := e_ift hf h
    refine E.aload_n 0 dX6_wordRead_11 rfl ?_
    refine E.ldcS 4 (by decide) dX6_wordRead_12 rfl rfl ?_
    obtain ⟨r2, hc2, hf⟩ := e_bind hf
    refine E.callVDs (es' := (wW82 G b v30_length a31 v32_clauses v32_length v32_parts v32_start v32_behind v32_token v32_number v32_good)) [] [0, 1, 2] 2 32 dX6_wordRead_14 mlX6_116 hw rfl rfl rfl rfl (mX6_isWord (hw.pick2 [0, 1, 2] rfl (by decide)) (by decide) hc2) rfl rfl rfl rfl ⟨Nat.le_of_ble_eq_true rfl, Nat.le_of_ble_eq_true rfl⟩ rfl rfl (Nat.le_of_ble_eq_true rfl) ⟨Nat.le_refl _, Nat.le_refl _⟩ rfl ?_
    refine E.if_eq dX6_wordRead_17 (fun h => ?_) (fun h => ?_)
    · have hf := e_ift hf h
      refine E.aload_n 0 dX6_wordRead_22 rfl ?_
      refine E.ldcS 5 (by decide) dX6_wordRead_23 rfl rfl ?_
      obtain ⟨r3, hc3, hf⟩ := e_bind hf
      refine E.callVDs (es' := (wW82 G b v30_length a31 v32_clauses v32_length v32_parts v32_start v32_behind v32_token v32_number v32_good)) [] [0, 1, 2] 2 32 dX6_wordRead_25 mlX6_116 hw rfl rfl rfl rfl (mX6_isWord (hw.pick2 [0, 1, 2] rfl (by decide)) (by decide) hc3) rfl rfl rfl rfl ⟨Nat.le_of_ble_eq_true rfl, Nat.le_of_ble_eq_true rfl⟩ rfl rfl (Nat.le_of_ble_eq_true rfl) ⟨Nat.le_refl _, Nat.le_refl _⟩ rfl ?_
      refine E.if_eq dX6_wordRead_28 (fun h => ?_) (fun h => ?_)
      · have hf := e_ift hf h
        refine E.aload_n 0 dX6_wordRead_33 rfl ?_
        refine E.ldcS 6 (by decide) dX6_wordRead_34 rfl rfl ?_
        obtain ⟨r4, hc4, hf⟩ := e_bind hf
        refine E.callVDs (es' := (wW82 G b v30_length a31 v32_clauses v32_length v32_parts v32_start v32_behind v32_token v32_number v32_good)) [] [0, 1, 2] 2 32 dX6_wordRead_36 mlX6_116 hw rfl rfl rfl rfl (mX6_isWord (hw.pick2 [0, 1, 2] rfl (by decide)) (by decide) hc4) rfl rfl rfl rfl ⟨Nat.le_of_ble_eq_true rfl, Nat.le_of_ble_eq_true rfl⟩ rfl rfl (Nat.le_of_ble_eq_true rfl) ⟨Nat.le_refl _, Nat.le_refl _⟩ rfl ?_
        refine E.if_eq dX6_wordRead_39 (fun h => ?_) (fun h => ?_)
        · have hf := e_ift hf h
          refine E.aload_n 0 dX6_wordRead_44 rfl ?_
          refine E.ldcS 7 (by decide) dX6_wordRead_45 rfl rfl ?_
          obtain ⟨r5, hc5, hf⟩ := e_bind hf
          refine E.callVDs (es' := (wW82 G b v30_length a31 v32_clauses v32_length v32_parts v32_start v32_behind v32_token v32_number v32_good)) [] [0, 1, 2] 2 32 dX6_wordRead_47 mlX6_116 hw rfl rfl rfl rfl (mX6_isWord (hw.pick2 [0, 1, 2] rfl (by decide)) (by decide) hc5) rfl rfl rfl rfl ⟨Nat.le_of_ble_eq_true rfl, Nat.le_of_ble_eq_true rfl⟩ rfl rfl (Nat.le_of_ble_eq_true rfl) ⟨Nat.le_refl _, Nat.le_refl _⟩ rfl ?_
          refine E.if_eq dX6_wordRead_50 (fun h => ?_) (fun h => ?_)
          · have hf := e_ift hf h
            refine E.aload_n 0 dX6_wordRead_55 rfl ?_
            refine E.ldcS 8 (by decide) dX6_wordRead_56 rfl rfl ?_
            obtain ⟨r6, hc6, hf⟩ := e_bind hf
            refine E.callVDs (es' := (wW82 G b v30_length a31 v32_clauses v32_length v32_parts v32_start v32_behind v32_token v32_number v32_good)) [] [0, 1, 2] 2 32 dX6_wordRead_58 mlX6_116 hw rfl rfl rfl rfl (mX6_isWord (hw.pick2 [0, 1, 2] rfl (by decide)) (by decide) hc6) rfl rfl rfl rfl ⟨Nat.le_of_ble_eq_true rfl, Nat.le_of_ble_eq_true rfl⟩ rfl rfl (Nat.le_of_ble_eq_true rfl) ⟨Nat.le_refl _, Nat.le_refl _⟩ rfl ?_
            refine E.if_eq dX6_wordRead_61 (fun h => ?_) (fun h => ?_)
            · have hf := e_ift hf h
              refine E.aload_n 0 dX6_wordRead_66 rfl ?_
              refine E.ldcS 9 (by decide) dX6_wordRead_67 rfl rfl ?_
              obtain ⟨r7, hc7, hf⟩ := e_bind hf
              refine E.callVDs (es' := (wW82 G b v30_length a31 v32_clauses v32_length v32_parts v32_start v32_behind v32_token v32_number v32_good)) [] [0, 1, 2] 2 32 dX6_wordRead_69 mlX6_116 hw rfl rfl rfl rfl (mX6_isWord (hw.pick2 [0, 1, 2] rfl (by decide)) (by decide) hc7) rfl rfl rfl rfl ⟨Nat.le_of_ble_eq_true rfl, Nat.le_of_ble_eq_true rfl⟩ rfl rfl (Nat.le_of_ble_eq_true rfl) ⟨Nat.le_refl _, Nat.le_refl _⟩ rfl ?_
              refine E.if_eq dX6_wordRead_72 (fun h => ?_) (fun h => ?_)
              · have hf := e_ift hf h
                refine E.aload_n 0 dX6_wordRead_78 rfl ?_
                refine E.ldcS 10 (by decide) dX6_wordRead_79 rfl rfl ?_
                obtain ⟨r8, hc8, hf⟩ := e_bind hf
                refine E.callVDs (es' := (wW82 G b v30_length a31 v32_clauses v32_length v32_parts v32_start v32_behind v32_token v32_number v32_good)) [] [0, 1, 2] 2 32 dX6_wordRead_81 mlX6_116 hw rfl rfl rfl rfl (mX6_isWord (hw.pick2 [0, 1, 2] rfl (by decide)) (by decide) hc8) rfl rfl rfl rfl ⟨Nat.le_of_ble_eq_true rfl, Nat.le_of_ble_eq_true rfl⟩ rfl rfl (Nat.le_of_ble_eq_true rfl) ⟨Nat.le_refl _, Nat.le_refl _⟩ rfl ?_
                refine E.if_eq dX6_wordRead_84 (fun h => ?_) (fun h => ?_)
                · have hf := e_ift hf h
                  refine E.aload_n 0 dX6_wordRead_90 rfl ?_
                  refine E.ldcS 11 (by decide) dX6_wordRead_91 rfl rfl ?_
                  obtain ⟨r9, hc9, hf⟩ := e_bind hf
                  refine E.callVDs (es' := (wW82 G b v30_length a31 v32_clauses v32_length v32_parts v32_start v32_behind v32_token v32_number v32_good)) [] [0, 1, 2] 2 32 dX6_wordRead_93 mlX6_116 hw rfl rfl rfl rfl (mX6_isWord (hw.pick2 [0, 1, 2] rfl (by decide)) (by decide) hc9) rfl rfl rfl rfl ⟨Nat.le_of_ble_eq_true rfl, Nat.le_of_ble_eq_true rfl⟩ rfl rfl (Nat.le_of_ble_eq_true rfl) ⟨Nat.le_refl _, Nat.le_refl _⟩ rfl ?_
                  refine E.if_eq dX6_wordRead_96 (fun h => ?_) (fun h => ?_)
                  · have hf := e_ift hf h
                    refine E.aload_n 0 dX6_wordRead_102 rfl ?_
                    refine E.ldcS 12 (by decide) dX6_wordRead_103 rfl rfl ?_
                    obtain ⟨r10, hc10, hf⟩ := e_bind hf
                    refine E.callVDs (es' := (wW82 G b v30_length a31 v32_clauses v32_length v32_parts v32_start v32_behind v32_token v32_number v32_good)) [] [0, 1, 2] 2 32 dX6_wordRead_105 mlX6_116 hw rfl rfl rfl rfl (mX6_isWord (hw.pick2 [0, 1, 2] rfl (by decide)) (by decide) hc10) rfl rfl rfl rfl ⟨Nat.le_of_ble_eq_true rfl, Nat.le_of_ble_eq_true rfl⟩ rfl rfl (Nat.le_of_ble_eq_true rfl) ⟨Nat.le_refl _, Nat.le_refl _⟩ rfl ?_
                    refine E.if_eq dX6_wordRead_108 (fun h => ?_) (fun h => ?_)
                    · have hf := e_ift hf h
                      refine E.iconst (v := -1) dX6_wordRead_116 (by decide) ?_
                      cases hf
                      exact E.iret dX6_wordRead_117 (Nat.le_refl _) (Nat.le_refl _) (pD_rf _ _ _)
                    · have hf := e_iff hf h
                      refine E.bipush (v := 9) dX6_wordRead_111 (by decide) ?_
                      refine E.goto dX6_wordRead_113 ?_
                      cases hf
                      exact E.iret dX6_wordRead_117 (Nat.le_refl _) (Nat.le_refl _) (pD_rf _ _ _)
                  · have hf := e_iff hf h
                    refine E.bipush (v := 8) dX6_wordRead_99 (by decide) ?_
                    cases hf
                    exact E.iret dX6_wordRead_101 (Nat.le_refl _) (Nat.le_refl _) (pD_rf _ _ _)
                · have hf := e_iff hf h
                  refine E.bipush (v := 7) dX6_wordRead_87 (by decide) ?_
                  cases hf
                  exact E.iret dX6_wordRead_89 (Nat.le_refl _) (Nat.le_refl _) (pD_rf _ _ _)
              · have hf := e_iff hf h
                refine E.bipush (v := 6) dX6_wordRead_75 (by decide) ?_
                cases hf
                exact E.iret dX6_wordRead_77 (Nat.le_refl _) (Nat.le_refl _) (pD_rf _ _ _)
            · have hf := e_iff hf h
              refine E.iconst (v := 5) dX6_wordRead_64 (by decide) ?_
              cases hf
              exact E.iret dX6_wordRead_65 (Nat.le_refl _) (Nat.le_refl _) (pD_rf _ _ _)
          · have hf := e_iff hf h
            refine E.iconst (v := 4) dX6_wordRead_53 (by decide) ?_
            cases hf
            exact E.iret dX6_wordRead_54 (Nat.le_refl _) (Nat.le_refl _) (pD_rf _ _ _)
        · have hf := e_iff hf h
          refine E.iconst (v := 3) dX6_wordRead_42 (by decide) ?_
          cases hf
          exact E.iret dX6_wordRead_43 (Nat.le_refl _) (Nat.le_refl _) (pD_rf _ _ _)
      · have hf := e_iff hf h
        refine E.iconst (v := 2) dX6_wordRead_31 (by decide) ?_
        cases hf
        exact E.iret dX6_wordRead_32 (Nat.le_refl _) (Nat.le_refl _) (pD_rf _ _ _)
    · have hf := e_iff hf h
      refine E.iconst (v := 1) dX6_wordRead_20 (by decide) ?_
      cases hf
      exact E.iret dX6_wordRead_21 (Nat.le_refl _) (Nat.le_refl _) (pD_rf _ _ _)
  · have hf := e_iff hf h
    refine E.iconst (v := 0) dX6_wordRead_9 (by decide) ?_
    cases hf
    exact E.iret dX6_wordRead_10 (Nat.le_refl _) (Nat.le_refl _) (pD_rf _ _ _)
set_option maxRecDepth 100000 in
theorem mX6_wordRead {G : GT} {b : Nat} {c0 : Hp} {n : Nat} (hw : e_wf (kW82) n) {v30_length : Int32} {v32_clauses : Int32} {v32_length : Int32} {v32_parts : Int32} {v32_number : Int32} {v32_good : Int32} {Fu : Nat} {a31 : Nat → Int32} {v32_start : Int32} {v32_behind : Int32} {v32_token : Int32} {R : Int32} (hf : fX6_wordRead Fu a31 v32_start v32_behind v32_token = some R) : e_C G b yX6_wordRead cX6_wordRead 1 (some .int) 5 0 0 [.ref (b + 32)] (e_ov (kW82) (wW82 G b v30_length a31 v32_clauses v32_length v32_parts v32_start v32_behind v32_token v32_number v32_good) c0) n (pD (some (.int R)) (e_ov (kW82) (wW82 G b v30_length a31 v32_clauses v32_length v32_parts v32_start v32_behind v32_token v32_number v32_good) c0) n) := e_C.of (by decide) (Nat.le_of_ble_eq_true rfl) (tX6_wordRead hw hf)
abbrev kW84 : List Nat := [32, 36]
abbrev wW84 (G : GT) (b  : Nat) (v32_clauses : Int32) (v32_length : Int32) (v32_parts : Int32) (v32_start : Int32) (v32_behind : Int32) (v32_token : Int32) (v32_number : Int32) (v32_good : Int32) (a36 : Nat → Int32) : List va_E := [.inr (6, [.ref (b + 30), .ref (b + 33), .ref (b + 34), .ref (b + 35), .ref (b + 36), .int v32_clauses, .int v32_length, .int v32_parts, .int v32_start, .int v32_behind, .int v32_token, .int v32_number, .int v32_good]), aI G 400 a36]
def fX6_emit (v32_length : Int32) (a36 : Nat → Int32) (x1 : Int32) (x2 : Int32) : Option (Int32 × (Nat → Int32)) := if (400 : Int32) ≤ (v32_length : Int32) then (some (v32_length, a36)) else (gd v32_length 400 (some ((v32_length + 1), (va_up a36 (v32_length : Int32).toNatClampNeg ((x1 * 1024) + x2)))))
set_option maxHeartbeats 4000000 in
set_option maxRecDepth 100000 in
theorem tX6_emit {G : GT} {b : Nat} {c0 : Hp} {n : Nat} (hw : e_wf (kW84) n) {v32_clauses : Int32} {v32_parts : Int32} {v32_start : Int32} {v32_behind : Int32} {v32_token : Int32} {v32_number : Int32} {v32_good : Int32} {v32_length : Int32} {a36 : Nat → Int32} {x1 : Int32} {x2 : Int32} {R : Int32 × (Nat → Int32)} (hf : fX6_emit v32_length a36 x1 x2 = some R) : E G b yX6_emit cX6_emit 3 none (e_rm 0 0 0) e_X0 (e_Z G b (pD none (e_ov (kW84) (wW84 G b v32_clauses R.1 v32_parts v32_start v32_behind v32_token v32_number v32_good R.2) c0) n) 0 0) 0 [(0, .ref (b + 32)), (1, .int x1), (2, .int x2)] [] (e_ov (kW84) (wW84 G b v32_clauses v32_length v32_parts v32_start v32_behind v32_token v32_number v32_good a36) c0) n 0 0 := by
  unfold fX6_emit at hf
  refine E.aload_n 0 dX6_emit_0 rfl ?_
  refine E.get hw 0 32 dX6_emit_1 flX6_38 rfl rfl rfl rfl ?_
  refine E.sipush (v := 400) dX6_emit_4 (by decide) ?_
  refine E.icmp_ge dX6_emit_7 (fun h => ?_) (fun h => ?_)
  · have hf := e_ift hf h
    cases hf
    exact E.vret dX6_emit_36 (Nat.le_refl _) (Nat.le_refl _) (pD_rf _ _ _)
  · have hf := e_iff hf h
    refine E.aload_n 0 dX6_emit_10 rfl ?_
    refine E.get hw 0 32 dX6_emit_11 flX6_27 rfl rfl rfl rfl ?_
    refine E.aload_n 0 dX6_emit_14 rfl ?_
    refine E.get hw 0 32 dX6_emit_15 flX6_38 rfl rfl rfl rfl ?_
    refine E.iload_n 1 dX6_emit_18 rfl ?_
    refine E.sipush (v := 1024) dX6_emit_19 (by decide) ?_
    refine E.imul dX6_emit_22 ?_
    refine E.iload_n 2 dX6_emit_23 rfl ?_
    refine E.iadd dX6_emit_24 ?_
    obtain ⟨g1, hf⟩ := gd_some hf
    refine E.iast (es' := (wW84 G b v32_clauses v32_length v32_parts v32_start v32_behind v32_token v32_number v32_good (va_up a36 (v32_length : Int32).toNatClampNeg ((x1 * 1024) + x2)))) hw 1 36 dX6_emit_25 rfl rfl g1 rfl ?_
    refine E.aload_n 0 dX6_emit_26 rfl ?_
    refine E.dup dX6_emit_27 rfl ?_
    refine E.get hw 0 32 dX6_emit_28 flX6_38 rfl rfl rfl rfl ?_
    refine E.iconst (v := 1) dX6_emit_31 (by decide) ?_
    refine E.iadd dX6_emit_32 ?_
    refine E.put (es' := (wW84 G b v32_clauses (v32_length + 1) v32_parts v32_start v32_behind v32_token v32_number v32_good (va_up a36 (v32_length : Int32).toNatClampNeg ((x1 * 1024) + x2)))) hw 0 32 dX6_emit_33 flX6_38 ftX6 rfl rfl rfl rfl rfl rfl (Nat.le_of_ble_eq_true rfl) rfl ?_
    cases hf
    exact E.vret dX6_emit_36 (Nat.le_refl _) (Nat.le_refl _) (pD_rf _ _ _)
set_option maxRecDepth 100000 in
theorem mX6_emit {G : GT} {b : Nat} {c0 : Hp} {n : Nat} (hw : e_wf (kW84) n) {v32_clauses : Int32} {v32_parts : Int32} {v32_start : Int32} {v32_behind : Int32} {v32_token : Int32} {v32_number : Int32} {v32_good : Int32} {v32_length : Int32} {a36 : Nat → Int32} {x1 : Int32} {x2 : Int32} {R : Int32 × (Nat → Int32)} (hf : fX6_emit v32_length a36 x1 x2 = some R) : e_C G b yX6_emit cX6_emit 3 none 0 0 0 [.ref (b + 32), .int x1, .int x2] (e_ov (kW84) (wW84 G b v32_clauses v32_length v32_parts v32_start v32_behind v32_token v32_number v32_good a36) c0) n (pD none (e_ov (kW84) (wW84 G b v32_clauses R.1 v32_parts v32_start v32_behind v32_token v32_number v32_good R.2) c0) n) := e_C.of (by decide) (Nat.le_of_ble_eq_true rfl) (tX6_emit hw hf)
def fX6_readPart_L96 (Fu : Nat) (kS : Int32 → (Nat → Int32) → Int32 → Int32 → Int32 → Int32 → Int32 → Int32 → (Nat → Int32) → Int32 → Option (Int32 × Int32 × Int32 × Int32 × Int32 × Int32 × Int32 × (Nat → Int32))) (v30_length : Int32) (a31 : Nat → Int32) (v32_length : Int32) (v32_parts : Int32) (v32_start : Int32) (v32_behind : Int32) (v32_token : Int32) (v32_number : Int32) (a36 : Nat → Int32) (s0 : Int32) (s1 : Int32) : Option (Int32 × Int32 × Int32 × Int32 × Int32 × Int32 × Int32 × (Nat → Int32)) := (fX6_emit v32_length a36 s1 s0).bind fun r5 => ((fX6_advance Fu v30_length a31 v32_start v32_behind v32_token v32_number).bind fun r6 => (some (1, r5.1, v32_parts, r6.1, r6.2.1, r6.2.2.1, r6.2.2.2, r5.2)))
set_option maxHeartbeats 4000000 in
set_option maxRecDepth 100000 in
theorem tX6_readPart_L96 {G : GT} {b : Nat} {c0 : Hp} {n : Nat} {D : Nat} (hD : 6 ≤ D) (hw : e_wf (kW81) n) {v32_clauses : Int32} {v32_good : Int32} {kS : Int32 → (Nat → Int32) → Int32 → Int32 → Int32 → Int32 → Int32 → Int32 → (Nat → Int32) → Int32 → Option (Int32 × Int32 × Int32 × Int32 × Int32 × Int32 × Int32 × (Nat → Int32))} (hS : ∀ {v30_length : Int32} {a31 : Nat → Int32} {v32_length : Int32} {v32_parts : Int32} {v32_start : Int32} {v32_behind : Int32} {v32_token : Int32} {v32_number : Int32} {a36 : Nat → Int32} {x1 : Int32} {R : Int32 × Int32 × Int32 × Int32 × Int32 × Int32 × Int32 × (Nat → Int32)}, kS v30_length a31 v32_length v32_parts v32_start v32_behind v32_token v32_number a36 x1 = some R → e_C G b yX6_readSum cX6_readSum 5 (some .boolean) D 0 0 [.ref (b + 32), .int x1] (e_ov (kW81) (wW81 G b v30_length a31 v32_clauses v32_length v32_parts v32_start v32_behind v32_token v32_number v32_good a36) c0) n (pD (some (.int R.1)) (e_ov (kW81) (wW81 G b v30_length a31 v32_clauses R.2.1 R.2.2.1 R.2.2.2.1 R.2.2.2.2.1 R.2.2.2.2.2.1 R.2.2.2.2.2.2.1 v32_good R.2.2.2.2.2.2.2) c0) n)) {Fu : Nat} {v30_length : Int32} {a31 : Nat → Int32} {v32_length : Int32} {v32_parts : Int32} {v32_start : Int32} {v32_behind : Int32} {v32_token : Int32} {v32_number : Int32} {a36 : Nat → Int32} {s0 : Int32} {s1 : Int32} {R : Int32 × Int32 × Int32 × Int32 × Int32 × Int32 × Int32 × (Nat → Int32)} (hf : fX6_readPart_L96 Fu kS v30_length a31 v32_length v32_parts v32_start v32_behind v32_token v32_number a36 s0 s1 = some R) : E G b yX6_readPart cX6_readPart 4 (some .boolean) (e_rm (D + 2) 0 0) e_X0 (e_Z G b (pD (some (.int R.1)) (e_ov (kW81) (wW81 G b v30_length a31 v32_clauses R.2.1 R.2.2.1 R.2.2.2.1 R.2.2.2.2.1 R.2.2.2.2.2.1 R.2.2.2.2.2.2.1 v32_good R.2.2.2.2.2.2.2) c0) n) 0 0) 96 [(0, .ref (b + 32))] [.int s0, .int s1, .ref (b + 32)] (e_ov (kW81) (wW81 G b v30_length a31 v32_clauses v32_length v32_parts v32_start v32_behind v32_token v32_number v32_good a36) c0) n 0 0 := by
  unfold fX6_readPart_L96 at hf
  obtain ⟨r5, hc5, hf⟩ := e_bind hf
  refine E.callVDs (es' := (wW81 G b v30_length a31 v32_clauses r5.1 v32_parts v32_start v32_behind v32_token v32_number v32_good r5.2)) [] [2, 3] 2 32 dX6_readPart_96 mlX6_134 hw rfl rfl rfl rfl (mX6_emit (hw.pick2 [2, 3] rfl (by decide)) hc5) rfl rfl rfl rfl ⟨by show _ ≤ D + 2; omega, by show _ ≤ 64 * (D + 2); omega⟩ rfl rfl (Nat.le_of_ble_eq_true rfl) ⟨Nat.le_refl _, Nat.le_refl _⟩ rfl ?_
  refine E.aload_n 0 dX6_readPart_99 rfl ?_
  obtain ⟨r6, hc6, hf⟩ := e_bind hf
  refine E.callVDs (es' := (wW81 G b v30_length a31 v32_clauses r5.1 v32_parts r6.1 r6.2.1 r6.2.2.1 r6.2.2.2 v32_good r5.2)) [] [0, 1, 2] 2 32 dX6_readPart_100 mlX6_47 hw rfl rfl rfl rfl (mX6_advance (hw.pick2 [0, 1, 2] rfl (by decide)) hc6) rfl rfl rfl rfl ⟨by show _ ≤ D + 2; omega, by show _ ≤ 64 * (D + 2); omega⟩ rfl rfl (Nat.le_of_ble_eq_true rfl) ⟨Nat.le_refl _, Nat.le_refl _⟩ rfl ?_
  refine E.iconst (v := 1) dX6_readPart_103 (by decide) ?_
  cases hf
  exact E.zret dX6_readPart_104 rfl (Nat.le_refl _) (Nat.le_refl _) (pD_rf _ _ _)
def fX6_readPart_L84 (Fu : Nat) (kS : Int32 → (Nat → Int32) → Int32 → Int32 → Int32 → Int32 → Int32 → Int32 → (Nat → Int32) → Int32 → Option (Int32 × Int32 × Int32 × Int32 × Int32 × Int32 × Int32 × (Nat → Int32))) (v30_length : Int32) (a31 : Nat → Int32) (v32_length : Int32) (v32_parts : Int32) (v32_start : Int32) (v32_behind : Int32) (v32_token : Int32) (v32_number : Int32) (a36 : Nat → Int32) (x2 : Int32) (x3 : Int32) (s0 : Int32) : Option (Int32 × Int32 × Int32 × Int32 × Int32 × Int32 × Int32 × (Nat → Int32)) := if (x3 : Int32) = (0 : Int32) then (fX6_readPart_L96 Fu kS v30_length a31 v32_length v32_parts v32_start v32_behind v32_token v32_number a36 x2 s0) else (fX6_readPart_L96 Fu kS v30_length a31 v32_length v32_parts v32_start v32_behind v32_token v32_number a36 v32_number s0)
set_option maxHeartbeats 4000000 in
set_option maxRecDepth 100000 in
theorem tX6_readPart_L84 {G : GT} {b : Nat} {c0 : Hp} {n : Nat} {D : Nat} (hD : 6 ≤ D) (hw : e_wf (kW81) n) {v32_clauses : Int32} {v32_good : Int32} {kS : Int32 → (Nat → Int32) → Int32 → Int32 → Int32 → Int32 → Int32 → Int32 → (Nat → Int32) → Int32 → Option (Int32 × Int32 × Int32 × Int32 × Int32 × Int32 × Int32 × (Nat → Int32))} (hS : ∀ {v30_length : Int32} {a31 : Nat → Int32} {v32_length : Int32} {v32_parts : Int32} {v32_start : Int32} {v32_behind : Int32} {v32_token : Int32} {v32_number : Int32} {a36 : Nat → Int32} {x1 : Int32} {R : Int32 × Int32 × Int32 × Int32 × Int32 × Int32 × Int32 × (Nat → Int32)}, kS v30_length a31 v32_length v32_parts v32_start v32_behind v32_token v32_number a36 x1 = some R → e_C G b yX6_readSum cX6_readSum 5 (some .boolean) D 0 0 [.ref (b + 32), .int x1] (e_ov (kW81) (wW81 G b v30_length a31 v32_clauses v32_length v32_parts v32_start v32_behind v32_token v32_number v32_good a36) c0) n (pD (some (.int R.1)) (e_ov (kW81) (wW81 G b v30_length a31 v32_clauses R.2.1 R.2.2.1 R.2.2.2.1 R.2.2.2.2.1 R.2.2.2.2.2.1 R.2.2.2.2.2.2.1 v32_good R.2.2.2.2.2.2.2) c0) n)) {Fu : Nat} {v30_length : Int32} {a31 : Nat → Int32} {v32_length : Int32} {v32_parts : Int32} {v32_start : Int32} {v32_behind : Int32} {v32_token : Int32} {v32_number : Int32} {a36 : Nat → Int32} {x2 : Int32} {x3 : Int32} {s0 : Int32} {R : Int32 × Int32 × Int32 × Int32 × Int32 × Int32 × Int32 × (Nat → Int32)} (hf : fX6_readPart_L84 Fu kS v30_length a31 v32_length v32_parts v32_start v32_behind v32_token v32_number a36 x2 x3 s0 = some R) : E G b yX6_readPart cX6_readPart 4 (some .boolean) (e_rm (D + 2) 0 0) e_X0 (e_Z G b (pD (some (.int R.1)) (e_ov (kW81) (wW81 G b v30_length a31 v32_clauses R.2.1 R.2.2.1 R.2.2.2.1 R.2.2.2.2.1 R.2.2.2.2.2.1 R.2.2.2.2.2.2.1 v32_good R.2.2.2.2.2.2.2) c0) n) 0 0) 84 [(0, .ref (b + 32)), (2, .int x2), (3, .int x3)] [.int s0, .ref (b + 32)] (e_ov (kW81) (wW81 G b v30_length a31 v32_clauses v32_length v32_parts v32_start v32_behind v32_token v32_number v32_good a36) c0) n 0 0 := by
  unfold fX6_readPart_L84 at hf
  refine E.iload_n 2 dX6_readPart_84 rfl ?_
  refine E.if_eq dX6_readPart_85 (fun h => ?_) (fun h => ?_)
  · have hf := e_ift hf h
    refine E.iload_n 1 dX6_readPart_95 rfl ?_
    refine E.locals [0] rfl ?_
    exact tX6_readPart_L96 hD hw hS hf
  · have hf := e_iff hf h
    refine E.aload_n 0 dX6_readPart_88 rfl ?_
    refine E.get hw 2 32 dX6_readPart_89 flX6_80 rfl rfl rfl rfl ?_
    refine E.goto dX6_readPart_92 ?_
    refine E.locals [0] rfl ?_
    exact tX6_readPart_L96 hD hw hS hf
def fX6_readPart_L53 (Fu : Nat) (kS : Int32 → (Nat → Int32) → Int32 → Int32 → Int32 → Int32 → Int32 → Int32 → (Nat → Int32) → Int32 → Option (Int32 × Int32 × Int32 × Int32 × Int32 × Int32 × Int32 × (Nat → Int32))) (v30_length : Int32) (a31 : Nat → Int32) (v32_length : Int32) (v32_parts : Int32) (v32_start : Int32) (v32_behind : Int32) (v32_token : Int32) (v32_number : Int32) (a36 : Nat → Int32) (x2 : Int32) (x3 : Int32) : Option (Int32 × Int32 × Int32 × Int32 × Int32 × Int32 × Int32 × (Nat → Int32)) := if (v32_parts : Int32) < (50 : Int32) then (if (x3 : Int32) = (0 : Int32) then (fX6_readPart_L84 Fu kS v30_length a31 v32_length (v32_parts + 1) v32_start v32_behind v32_token v32_number a36 x2 x3 1) else (fX6_readPart_L84 Fu kS v30_length a31 v32_length (v32_parts + 1) v32_start v32_behind v32_token v32_number a36 x2 x3 0)) else (some (0, v32_length, v32_parts, v32_start, v32_behind, v32_token, v32_number, a36))
set_option maxHeartbeats 4000000 in
set_option maxRecDepth 100000 in
theorem tX6_readPart_L53 {G : GT} {b : Nat} {c0 : Hp} {n : Nat} {D : Nat} (hD : 6 ≤ D) (hw : e_wf (kW81) n) {v32_clauses : Int32} {v32_good : Int32} {kS : Int32 → (Nat → Int32) → Int32 → Int32 → Int32 → Int32 → Int32 → Int32 → (Nat → Int32) → Int32 → Option (Int32 × Int32 × Int32 × Int32 × Int32 × Int32 × Int32 × (Nat → Int32))} (hS : ∀ {v30_length : Int32} {a31 : Nat → Int32} {v32_length : Int32} {v32_parts : Int32} {v32_start : Int32} {v32_behind : Int32} {v32_token : Int32} {v32_number : Int32} {a36 : Nat → Int32} {x1 : Int32} {R : Int32 × Int32 × Int32 × Int32 × Int32 × Int32 × Int32 × (Nat → Int32)}, kS v30_length a31 v32_length v32_parts v32_start v32_behind v32_token v32_number a36 x1 = some R → e_C G b yX6_readSum cX6_readSum 5 (some .boolean) D 0 0 [.ref (b + 32), .int x1] (e_ov (kW81) (wW81 G b v30_length a31 v32_clauses v32_length v32_parts v32_start v32_behind v32_token v32_number v32_good a36) c0) n (pD (some (.int R.1)) (e_ov (kW81) (wW81 G b v30_length a31 v32_clauses R.2.1 R.2.2.1 R.2.2.2.1 R.2.2.2.2.1 R.2.2.2.2.2.1 R.2.2.2.2.2.2.1 v32_good R.2.2.2.2.2.2.2) c0) n)) {Fu : Nat} {v30_length : Int32} {a31 : Nat → Int32} {v32_length : Int32} {v32_parts : Int32} {v32_start : Int32} {v32_behind : Int32} {v32_token : Int32} {v32_number : Int32} {a36 : Nat → Int32} {x2 : Int32} {x3 : Int32} {R : Int32 × Int32 × Int32 × Int32 × Int32 × Int32 × Int32 × (Nat → Int32)} (hf : fX6_readPart_L53 Fu kS v30_length a31 v32_length v32_parts v32_start v32_behind v32_token v32_number a36 x2 x3 = some R) : E G b yX6_readPart cX6_readPart 4 (some .boolean) (e_rm (D + 2) 0 0) e_X0 (e_Z G b (pD (some (.int R.1)) (e_ov (kW81) (wW81 G b v30_length a31 v32_clauses R.2.1 R.2.2.1 R.2.2.2.1 R.2.2.2.2.1 R.2.2.2.2.2.1 R.2.2.2.2.2.2.1 v32_good R.2.2.2.2.2.2.2) c0) n) 0 0) 53 [(0, .ref (b + 32)), (2, .int x2), (3, .int x3)] [] (e_ov (kW81) (wW81 G b v30_length a31 v32_clauses v32_length v32_parts v32_start v32_behind v32_token v32_number v32_good a36) c0) n 0 0 := by
  unfold fX6_readPart_L53 at hf
  refine E.aload_n 0 dX6_readPart_53 rfl ?_
  refine E.get hw 2 32 dX6_readPart_54 flX6_41 rfl rfl rfl rfl ?_
  refine E.bipush (v := 50) dX6_readPart_57 (by decide) ?_
  refine E.icmp_lt dX6_readPart_59 (fun h => ?_) (fun h => ?_)
  · have hf := e_ift hf h
    refine E.aload_n 0 dX6_readPart_64 rfl ?_
    refine E.dup dX6_readPart_65 rfl ?_
    refine E.get hw 2 32 dX6_readPart_66 flX6_41 rfl rfl rfl rfl ?_
    refine E.iconst (v := 1) dX6_readPart_69 (by decide) ?_
    refine E.iadd dX6_readPart_70 ?_
    refine E.put (es' := (wW81 G b v30_length a31 v32_clauses v32_length (v32_parts + 1) v32_start v32_behind v32_token v32_number v32_good a36)) hw 2 32 dX6_readPart_71 flX6_41 ftX6 rfl rfl rfl rfl rfl rfl (Nat.le_of_ble_eq_true rfl) rfl ?_
    refine E.aload_n 0 dX6_readPart_74 rfl ?_
    refine E.iload_n 2 dX6_readPart_75 rfl ?_
    refine E.if_eq dX6_readPart_76 (fun h => ?_) (fun h => ?_)
    · have hf := e_ift hf h
      refine E.iconst (v := 1) dX6_readPart_83 (by decide) ?_
      exact tX6_readPart_L84 hD hw hS hf
    · have hf := e_iff hf h
      refine E.iconst (v := 0) dX6_readPart_79 (by decide) ?_
      refine E.goto dX6_readPart_80 ?_
      exact tX6_readPart_L84 hD hw hS hf
  · have hf := e_iff hf h
    refine E.iconst (v := 0) dX6_readPart_62 (by decide) ?_
    cases hf
    exact E.zret dX6_readPart_63 rfl (Nat.le_refl _) (Nat.le_refl _) (pD_rf _ _ _)
def fX6_readPart_L43 (Fu : Nat) (kS : Int32 → (Nat → Int32) → Int32 → Int32 → Int32 → Int32 → Int32 → Int32 → (Nat → Int32) → Int32 → Option (Int32 × Int32 × Int32 × Int32 × Int32 × Int32 × Int32 × (Nat → Int32))) (v30_length : Int32) (a31 : Nat → Int32) (v32_length : Int32) (v32_parts : Int32) (v32_start : Int32) (v32_behind : Int32) (v32_token : Int32) (v32_number : Int32) (a36 : Nat → Int32) (x2 : Int32) (s0 : Int32) : Option (Int32 × Int32 × Int32 × Int32 × Int32 × Int32 × Int32 × (Nat → Int32)) := if (x2 : Int32) = ((-1 : Int32) : Int32) then (if (s0 : Int32) = (0 : Int32) then (some (0, v32_length, v32_parts, v32_start, v32_behind, v32_token, v32_number, a36)) else (fX6_readPart_L53 Fu kS v30_length a31 v32_length v32_parts v32_start v32_behind v32_token v32_number a36 x2 s0)) else (fX6_readPart_L53 Fu kS v30_length a31 v32_length v32_parts v32_start v32_behind v32_token v32_number a36 x2 s0)
set_option maxHeartbeats 4000000 in
set_option maxRecDepth 100000 in
theorem tX6_readPart_L43 {G : GT} {b : Nat} {c0 : Hp} {n : Nat} {D : Nat} (hD : 6 ≤ D) (hw : e_wf (kW81) n) {v32_clauses : Int32} {v32_good : Int32} {kS : Int32 → (Nat → Int32) → Int32 → Int32 → Int32 → Int32 → Int32 → Int32 → (Nat → Int32) → Int32 → Option (Int32 × Int32 × Int32 × Int32 × Int32 × Int32 × Int32 × (Nat → Int32))} (hS : ∀ {v30_length : Int32} {a31 : Nat → Int32} {v32_length : Int32} {v32_parts : Int32} {v32_start : Int32} {v32_behind : Int32} {v32_token : Int32} {v32_number : Int32} {a36 : Nat → Int32} {x1 : Int32} {R : Int32 × Int32 × Int32 × Int32 × Int32 × Int32 × Int32 × (Nat → Int32)}, kS v30_length a31 v32_length v32_parts v32_start v32_behind v32_token v32_number a36 x1 = some R → e_C G b yX6_readSum cX6_readSum 5 (some .boolean) D 0 0 [.ref (b + 32), .int x1] (e_ov (kW81) (wW81 G b v30_length a31 v32_clauses v32_length v32_parts v32_start v32_behind v32_token v32_number v32_good a36) c0) n (pD (some (.int R.1)) (e_ov (kW81) (wW81 G b v30_length a31 v32_clauses R.2.1 R.2.2.1 R.2.2.2.1 R.2.2.2.2.1 R.2.2.2.2.2.1 R.2.2.2.2.2.2.1 v32_good R.2.2.2.2.2.2.2) c0) n)) {Fu : Nat} {v30_length : Int32} {a31 : Nat → Int32} {v32_length : Int32} {v32_parts : Int32} {v32_start : Int32} {v32_behind : Int32} {v32_token : Int32} {v32_number : Int32} {a36 : Nat → Int32} {x2 : Int32} {s0 : Int32} {R : Int32 × Int32 × Int32 × Int32 × Int32 × Int32 × Int32 × (Nat → Int32)} (hf : fX6_readPart_L43 Fu kS v30_length a31 v32_length v32_parts v32_start v32_behind v32_token v32_number a36 x2 s0 = some R) : E G b yX6_readPart cX6_readPart 4 (some .boolean) (e_rm (D + 2) 0 0) e_X0 (e_Z G b (pD (some (.int R.1)) (e_ov (kW81) (wW81 G b v30_length a31 v32_clauses R.2.1 R.2.2.1 R.2.2.2.1 R.2.2.2.2.1 R.2.2.2.2.2.1 R.2.2.2.2.2.2.1 v32_good R.2.2.2.2.2.2.2) c0) n) 0 0) 43 [(0, .ref (b + 32)), (2, .int x2)] [.int s0] (e_ov (kW81) (wW81 G b v30_length a31 v32_clauses v32_length v32_parts v32_start v32_behind v32_token v32_number v32_good a36) c0) n 0 0 := by
  unfold fX6_readPart_L43 at hf
  refine E.istore_n (lv' := [(3, .int s0), (0, .ref (b + 32)), (2, .int x2)]) dX6_readPart_43 (by decide) rfl ?_
  refine E.iload_n 2 dX6_readPart_44 rfl ?_
  refine E.iconst (v := -1) dX6_readPart_45 (by decide) ?_
  refine E.icmp_ne dX6_readPart_46 (fun h => ?_) (fun h => ?_)
  · have hf := e_iff hf h
    refine E.locals [1, 2, 0] rfl ?_
    exact tX6_readPart_L53 hD hw hS hf
  · have hf := e_ift hf h
    refine E.iload_n 0 dX6_readPart_49 rfl ?_
    refine E.if_eq dX6_readPart_50 (fun h => ?_) (fun h => ?_)
    · have hf := e_ift hf h
      refine E.iconst (v := 0) dX6_readPart_62 (by decide) ?_
      cases hf
      exact E.zret dX6_readPart_63 rfl (Nat.le_refl _) (Nat.le_refl _) (pD_rf _ _ _)
    · have hf := e_iff hf h
      refine E.locals [1, 2, 0] rfl ?_
      exact tX6_readPart_L53 hD hw hS hf
def fX6_readPart_L42 (Fu : Nat) (kS : Int32 → (Nat → Int32) → Int32 → Int32 → Int32 → Int32 → Int32 → Int32 → (Nat → Int32) → Int32 → Option (Int32 × Int32 × Int32 × Int32 × Int32 × Int32 × Int32 × (Nat → Int32))) (v30_length : Int32) (a31 : Nat → Int32) (v32_length : Int32) (v32_parts : Int32) (v32_start : Int32) (v32_behind : Int32) (v32_token : Int32) (v32_number : Int32) (a36 : Nat → Int32) (x2 : Int32) : Option (Int32 × Int32 × Int32 × Int32 × Int32 × Int32 × Int32 × (Nat → Int32)) := fX6_readPart_L43 Fu kS v30_length a31 v32_length v32_parts v32_start v32_behind v32_token v32_number a36 x2 0
set_option maxHeartbeats 4000000 in
set_option maxRecDepth 100000 in
theorem tX6_readPart_L42 {G : GT} {b : Nat} {c0 : Hp} {n : Nat} {D : Nat} (hD : 6 ≤ D) (hw : e_wf (kW81) n) {v32_clauses : Int32} {v32_good : Int32} {kS : Int32 → (Nat → Int32) → Int32 → Int32 → Int32 → Int32 → Int32 → Int32 → (Nat → Int32) → Int32 → Option (Int32 × Int32 × Int32 × Int32 × Int32 × Int32 × Int32 × (Nat → Int32))} (hS : ∀ {v30_length : Int32} {a31 : Nat → Int32} {v32_length : Int32} {v32_parts : Int32} {v32_start : Int32} {v32_behind : Int32} {v32_token : Int32} {v32_number : Int32} {a36 : Nat → Int32} {x1 : Int32} {R : Int32 × Int32 × Int32 × Int32 × Int32 × Int32 × Int32 × (Nat → Int32)}, kS v30_length a31 v32_length v32_parts v32_start v32_behind v32_token v32_number a36 x1 = some R → e_C G b yX6_readSum cX6_readSum 5 (some .boolean) D 0 0 [.ref (b + 32), .int x1] (e_ov (kW81) (wW81 G b v30_length a31 v32_clauses v32_length v32_parts v32_start v32_behind v32_token v32_number v32_good a36) c0) n (pD (some (.int R.1)) (e_ov (kW81) (wW81 G b v30_length a31 v32_clauses R.2.1 R.2.2.1 R.2.2.2.1 R.2.2.2.2.1 R.2.2.2.2.2.1 R.2.2.2.2.2.2.1 v32_good R.2.2.2.2.2.2.2) c0) n)) {Fu : Nat} {v30_length : Int32} {a31 : Nat → Int32} {v32_length : Int32} {v32_parts : Int32} {v32_start : Int32} {v32_behind : Int32} {v32_token : Int32} {v32_number : Int32} {a36 : Nat → Int32} {x2 : Int32} {R : Int32 × Int32 × Int32 × Int32 × Int32 × Int32 × Int32 × (Nat → Int32)} (hf : fX6_readPart_L42 Fu kS v30_length a31 v32_length v32_parts v32_start v32_behind v32_token v32_number a36 x2 = some R) : E G b yX6_readPart cX6_readPart 4 (some .boolean) (e_rm (D + 2) 0 0) e_X0 (e_Z G b (pD (some (.int R.1)) (e_ov (kW81) (wW81 G b v30_length a31 v32_clauses R.2.1 R.2.2.1 R.2.2.2.1 R.2.2.2.2.1 R.2.2.2.2.2.1 R.2.2.2.2.2.2.1 v32_good R.2.2.2.2.2.2.2) c0) n) 0 0) 42 [(0, .ref (b + 32)), (2, .int x2)] [] (e_ov (kW81) (wW81 G b v30_length a31 v32_clauses v32_length v32_parts v32_start v32_behind v32_token v32_number v32_good a36) c0) n 0 0 := by
  unfold fX6_readPart_L42 at hf
  refine E.iconst (v := 0) dX6_readPart_42 (by decide) ?_
  exact tX6_readPart_L43 hD hw hS hf
def fX6_readPart (Fu : Nat) (kS : Int32 → (Nat → Int32) → Int32 → Int32 → Int32 → Int32 → Int32 → Int32 → (Nat → Int32) → Int32 → Option (Int32 × Int32 × Int32 × Int32 × Int32 × Int32 × Int32 × (Nat → Int32))) (v30_length : Int32) (a31 : Nat → Int32) (v32_length : Int32) (v32_parts : Int32) (v32_start : Int32) (v32_behind : Int32) (v32_token : Int32) (v32_number : Int32) (a36 : Nat → Int32) (x1 : Int32) : Option (Int32 × Int32 × Int32 × Int32 × Int32 × Int32 × Int32 × (Nat → Int32)) := (fX6_isSign v30_length a31 v32_start v32_token 91).bind fun r1 => (if (r1 : Int32) = (0 : Int32) then ((fX6_wordRead Fu a31 v32_start v32_behind v32_token).bind fun r2 => (if (v32_token : Int32) = (2 : Int32) then (if (1000 : Int32) < (v32_number : Int32) then (fX6_readPart_L42 Fu kS v30_length a31 v32_length v32_parts v32_start v32_behind v32_token v32_number a36 r2) else (fX6_readPart_L43 Fu kS v30_length a31 v32_length v32_parts v32_start v32_behind v32_token v32_number a36 r2 1)) else (fX6_readPart_L42 Fu kS v30_length a31 v32_length v32_parts v32_start v32_behind v32_token v32_number a36 r2))) else ((fX6_readBracketedSum Fu kS v30_length a31 v32_length v32_parts v32_start v32_behind v32_token v32_number a36 x1).bind fun r3 => (gb r3.1 (some (r3.1, r3.2.1, r3.2.2.1, r3.2.2.2.1, r3.2.2.2.2.1, r3.2.2.2.2.2.1, r3.2.2.2.2.2.2.1, r3.2.2.2.2.2.2.2)))))
set_option maxHeartbeats 4000000 in
set_option maxRecDepth 100000 in
theorem tX6_readPart {G : GT} {b : Nat} {c0 : Hp} {n : Nat} {D : Nat} (hD : 6 ≤ D) (hw : e_wf (kW81) n) {v32_clauses : Int32} {v32_good : Int32} {kS : Int32 → (Nat → Int32) → Int32 → Int32 → Int32 → Int32 → Int32 → Int32 → (Nat → Int32) → Int32 → Option (Int32 × Int32 × Int32 × Int32 × Int32 × Int32 × Int32 × (Nat → Int32))} (hS : ∀ {v30_length : Int32} {a31 : Nat → Int32} {v32_length : Int32} {v32_parts : Int32} {v32_start : Int32} {v32_behind : Int32} {v32_token : Int32} {v32_number : Int32} {a36 : Nat → Int32} {x1 : Int32} {R : Int32 × Int32 × Int32 × Int32 × Int32 × Int32 × Int32 × (Nat → Int32)}, kS v30_length a31 v32_length v32_parts v32_start v32_behind v32_token v32_number a36 x1 = some R → e_C G b yX6_readSum cX6_readSum 5 (some .boolean) D 0 0 [.ref (b + 32), .int x1] (e_ov (kW81) (wW81 G b v30_length a31 v32_clauses v32_length v32_parts v32_start v32_behind v32_token v32_number v32_good a36) c0) n (pD (some (.int R.1)) (e_ov (kW81) (wW81 G b v30_length a31 v32_clauses R.2.1 R.2.2.1 R.2.2.2.1 R.2.2.2.2.1 R.2.2.2.2.2.1 R.2.2.2.2.2.2.1 v32_good R.2.2.2.2.2.2.2) c0) n)) {Fu : Nat} {v30_length : Int32} {a31 : Nat → Int32} {v32_length : Int32} {v32_parts : Int32} {v32_start : Int32} {v32_behind : Int32} {v32_token : Int32} {v32_number : Int32} {a36 : Nat → Int32} {x1 : Int32} {R : Int32 × Int32 × Int32 × Int32 × Int32 × Int32 × Int32 × (Nat → Int32)} (hf : fX6_readPart Fu kS v30_length a31 v32_length v32_parts v32_start v32_behind v32_token v32_number a36 x1 = some R) : E G b yX6_readPart cX6_readPart 4 (some .boolean) (e_rm (D + 2) 0 0) e_X0 (e_Z G b (pD (some (.int R.1)) (e_ov (kW81) (wW81 G b v30_length a31 v32_clauses R.2.1 R.2.2.1 R.2.2.2.1 R.2.2.2.2.1 R.2.2.2.2.2.1 R.2.2.2.2.2.2.1 v32_good R.2.2.2.2.2.2.2) c0) n) 0 0) 0 [(0, .ref (b + 32)), (1, .int x1)] [] (e_ov (kW81) (wW81 G b v30_length a31 v32_clauses v32_length v32_parts v32_start v32_behind v32_token v32_number v32_good a36) c0) n 0 0 := by
  unfold fX6_readPart at hf
  refine E.aload_n 0 dX6_readPart_0 rfl ?_
  refine E.bipush (v := 91) dX6_readPart_1 (by decide) ?_
  obtain ⟨r1, hc1, hf⟩ := e_bind hf
  refine E.callVDs (es' := (wW81 G b v30_length a31 v32_clauses v32_length v32_parts v32_start v32_behind v32_token v32_number v32_good a36)) [] [0, 1, 2] 2 32 dX6_readPart_3 mlX6_54 hw rfl rfl rfl rfl (mX6_isSign (hw.pick2 [0, 1, 2] rfl (by decide)) hc1) rfl rfl rfl rfl ⟨by show _ ≤ D + 2; omega, by show _ ≤ 64 * (D + 2); omega⟩ rfl rfl (Nat.le_of_ble_eq_true rfl) ⟨Nat.le_refl _, Nat.le_refl _⟩ rfl ?_
  refine E.if_eq dX6_readPart_6 (fun h => ?_) (fun h => ?_)
  · have hf := e_ift hf h
    refine E.aload_n 0 dX6_readPart_15 rfl ?_
    obtain ⟨r2, hc2, hf⟩ := e_bind hf
    refine E.callVDs (es' := (wW81 G b v30_length a31 v32_clauses v32_length v32_parts v32_start v32_behind v32_token v32_number v32_good a36)) [] [0, 1, 2] 2 32 dX6_readPart_16 mlX6_164 hw rfl rfl rfl rfl (mX6_wordRead (hw.pick2 [0, 1, 2] rfl (by decide)) hc2) rfl rfl rfl rfl ⟨by show _ ≤ D + 2; omega, by show _ ≤ 64 * (D + 2); omega⟩ rfl rfl (Nat.le_of_ble_eq_true rfl) ⟨Nat.le_refl _, Nat.le_refl _⟩ rfl ?_
    refine E.istore_n (lv' := [(2, .int r2), (0, .ref (b + 32)), (1, .int x1)]) dX6_readPart_19 (by decide) rfl ?_
    refine E.aload_n 1 dX6_readPart_20 rfl ?_
    refine E.get hw 2 32 dX6_readPart_21 flX6_58 rfl rfl rfl rfl ?_
    refine E.iconst (v := 2) dX6_readPart_24 (by decide) ?_
    refine E.icmp_ne dX6_readPart_25 (fun h => ?_) (fun h => ?_)
    · have hf := e_iff hf h
      refine E.locals [1, 0] rfl ?_
      exact tX6_readPart_L42 hD hw hS hf
    · have hf := e_ift hf h
      refine E.aload_n 1 dX6_readPart_28 rfl ?_
      refine E.get hw 2 32 dX6_readPart_29 flX6_80 rfl rfl rfl rfl ?_
      refine E.sipush (v := 1000) dX6_readPart_32 (by decide) ?_
      refine E.icmp_gt dX6_readPart_35 (fun h => ?_) (fun h => ?_)
      · have hf := e_ift hf h
        refine E.locals [1, 0] rfl ?_
        exact tX6_readPart_L42 hD hw hS hf
      · have hf := e_iff hf h
        refine E.iconst (v := 1) dX6_readPart_38 (by decide) ?_
        refine E.goto dX6_readPart_39 ?_
        refine E.locals [1, 0] rfl ?_
        exact tX6_readPart_L43 hD hw hS hf
  · have hf := e_iff hf h
    refine E.aload_n 0 dX6_readPart_9 rfl ?_
    refine E.iload_n 1 dX6_readPart_10 rfl ?_
    obtain ⟨r3, hc3, hf⟩ := e_bind hf
    refine E.callVD [] dX6_readPart_11 mlX6_161 ⟨hw.sub (p := 2) rfl, e_ov_get hw.1 (p := 2) rfl rfl⟩ rfl rfl (mX6_readBracketedSum (by omega) hw hS hc3) ⟨by show _ ≤ D + 2; omega, by show _ ≤ 64 * (D + 2); omega⟩ rfl rfl (Nat.le_of_ble_eq_true rfl) ⟨Nat.le_refl _, Nat.le_refl _⟩ rfl ?_
    obtain ⟨g4, hf⟩ := gb_some hf
    cases hf
    exact E.zret dX6_readPart_14 (nb01 g4) (Nat.le_refl _) (Nat.le_refl _) (pD_rf _ _ _)
set_option maxRecDepth 100000 in
theorem mX6_readPart {G : GT} {b : Nat} {c0 : Hp} {n : Nat} {D : Nat} (hD : 6 ≤ D) (hw : e_wf (kW81) n) {v32_clauses : Int32} {v32_good : Int32} {kS : Int32 → (Nat → Int32) → Int32 → Int32 → Int32 → Int32 → Int32 → Int32 → (Nat → Int32) → Int32 → Option (Int32 × Int32 × Int32 × Int32 × Int32 × Int32 × Int32 × (Nat → Int32))} (hS : ∀ {v30_length : Int32} {a31 : Nat → Int32} {v32_length : Int32} {v32_parts : Int32} {v32_start : Int32} {v32_behind : Int32} {v32_token : Int32} {v32_number : Int32} {a36 : Nat → Int32} {x1 : Int32} {R : Int32 × Int32 × Int32 × Int32 × Int32 × Int32 × Int32 × (Nat → Int32)}, kS v30_length a31 v32_length v32_parts v32_start v32_behind v32_token v32_number a36 x1 = some R → e_C G b yX6_readSum cX6_readSum 5 (some .boolean) D 0 0 [.ref (b + 32), .int x1] (e_ov (kW81) (wW81 G b v30_length a31 v32_clauses v32_length v32_parts v32_start v32_behind v32_token v32_number v32_good a36) c0) n (pD (some (.int R.1)) (e_ov (kW81) (wW81 G b v30_length a31 v32_clauses R.2.1 R.2.2.1 R.2.2.2.1 R.2.2.2.2.1 R.2.2.2.2.2.1 R.2.2.2.2.2.2.1 v32_good R.2.2.2.2.2.2.2) c0) n)) {Fu : Nat} {v30_length : Int32} {a31 : Nat → Int32} {v32_length : Int32} {v32_parts : Int32} {v32_start : Int32} {v32_behind : Int32} {v32_token : Int32} {v32_number : Int32} {a36 : Nat → Int32} {x1 : Int32} {R : Int32 × Int32 × Int32 × Int32 × Int32 × Int32 × Int32 × (Nat → Int32)} (hf : fX6_readPart Fu kS v30_length a31 v32_length v32_parts v32_start v32_behind v32_token v32_number a36 x1 = some R) : e_C G b yX6_readPart cX6_readPart 4 (some .boolean) (D + 2) 0 0 [.ref (b + 32), .int x1] (e_ov (kW81) (wW81 G b v30_length a31 v32_clauses v32_length v32_parts v32_start v32_behind v32_token v32_number v32_good a36) c0) n (pD (some (.int R.1)) (e_ov (kW81) (wW81 G b v30_length a31 v32_clauses R.2.1 R.2.2.1 R.2.2.2.1 R.2.2.2.2.1 R.2.2.2.2.2.1 R.2.2.2.2.2.2.1 v32_good R.2.2.2.2.2.2.2) c0) n) := e_C.of (by decide) (Nat.le_of_ble_eq_true rfl) (tX6_readPart hD hw hS hf)
def fX6_readTerm_L51 (Fu : Nat) (kS : Int32 → (Nat → Int32) → Int32 → Int32 → Int32 → Int32 → Int32 → Int32 → (Nat → Int32) → Int32 → Option (Int32 × Int32 × Int32 × Int32 × Int32 × Int32 × Int32 × (Nat → Int32))) (k8 : Int32 → (Nat → Int32) → Int32 → Int32 → Int32 → Int32 → Int32 → Int32 → (Nat → Int32) → Int32 → Int32 → Int32 → Option (Int32 × Int32 × Int32 × Int32 × Int32 × Int32 × Int32 × (Nat → Int32))) (v30_length : Int32) (a31 : Nat → Int32) (v32_length : Int32) (v32_parts : Int32) (v32_start : Int32) (v32_behind : Int32) (v32_token : Int32) (v32_number : Int32) (a36 : Nat → Int32) (x1 : Int32) (x3 : Int32) (s0 : Int32) : Option (Int32 × Int32 × Int32 × Int32 × Int32 × Int32 × Int32 × (Nat → Int32)) := (fX6_advance Fu v30_length a31 v32_start v32_behind v32_token v32_number).bind fun r8 => ((fX6_readPart Fu kS v30_length a31 v32_length v32_parts r8.1 r8.2.1 r8.2.2.1 r8.2.2.2 a36 x1).bind fun r9 => ((fX6_emit r9.2.1 r9.2.2.2.2.2.2.2 s0 0).bind fun r10 => (k8 v30_length a31 r10.1 r9.2.2.1 r9.2.2.2.1 r9.2.2.2.2.1 r9.2.2.2.2.2.1 r9.2.2.2.2.2.2.1 r10.2 x1 r9.1 (x3 + 1))))
set_option maxHeartbeats 4000000 in
set_option maxRecDepth 100000 in
theorem tX6_readTerm_L51 {G : GT} {b : Nat} {c0 : Hp} {n : Nat} {D : Nat} (hD : 6 ≤ D) (hw : e_wf (kW81) n) {v32_clauses : Int32} {v32_good : Int32} {kS : Int32 → (Nat → Int32) → Int32 → Int32 → Int32 → Int32 → Int32 → Int32 → (Nat → Int32) → Int32 → Option (Int32 × Int32 × Int32 × Int32 × Int32 × Int32 × Int32 × (Nat → Int32))} (hS : ∀ {v30_length : Int32} {a31 : Nat → Int32} {v32_length : Int32} {v32_parts : Int32} {v32_start : Int32} {v32_behind : Int32} {v32_token : Int32} {v32_number : Int32} {a36 : Nat → Int32} {x1 : Int32} {R : Int32 × Int32 × Int32 × Int32 × Int32 × Int32 × Int32 × (Nat → Int32)}, kS v30_length a31 v32_length v32_parts v32_start v32_behind v32_token v32_number a36 x1 = some R → e_C G b yX6_readSum cX6_readSum 5 (some .boolean) D 0 0 [.ref (b + 32), .int x1] (e_ov (kW81) (wW81 G b v30_length a31 v32_clauses v32_length v32_parts v32_start v32_behind v32_token v32_number v32_good a36) c0) n (pD (some (.int R.1)) (e_ov (kW81) (wW81 G b v30_length a31 v32_clauses R.2.1 R.2.2.1 R.2.2.2.1 R.2.2.2.2.1 R.2.2.2.2.2.1 R.2.2.2.2.2.2.1 v32_good R.2.2.2.2.2.2.2) c0) n)) {Fu : Nat} {k8 : Int32 → (Nat → Int32) → Int32 → Int32 → Int32 → Int32 → Int32 → Int32 → (Nat → Int32) → Int32 → Int32 → Int32 → Option (Int32 × Int32 × Int32 × Int32 × Int32 × Int32 × Int32 × (Nat → Int32))} (hk8 : ∀ {v30_length : Int32} {a31 : Nat → Int32} {v32_length : Int32} {v32_parts : Int32} {v32_start : Int32} {v32_behind : Int32} {v32_token : Int32} {v32_number : Int32} {a36 : Nat → Int32} {x1 : Int32} {x2 : Int32} {x3 : Int32} {R : Int32 × Int32 × Int32 × Int32 × Int32 × Int32 × Int32 × (Nat → Int32)}, k8 v30_length a31 v32_length v32_parts v32_start v32_behind v32_token v32_number a36 x1 x2 x3 = some R → E G b yX6_readTerm cX6_readTerm 5 (some .boolean) (e_rm (D + 3) 0 0) e_X0 (e_Z G b (pD (some (.int R.1)) (e_ov (kW81) (wW81 G b v30_length a31 v32_clauses R.2.1 R.2.2.1 R.2.2.2.1 R.2.2.2.2.1 R.2.2.2.2.2.1 R.2.2.2.2.2.2.1 v32_good R.2.2.2.2.2.2.2) c0) n) 0 0) 8 [(0, .ref (b + 32)), (1, .int x1), (2, .int x2), (3, .int x3)] [] (e_ov (kW81) (wW81 G b v30_length a31 v32_clauses v32_length v32_parts v32_start v32_behind v32_token v32_number v32_good a36) c0) n 0 0) {v30_length : Int32} {a31 : Nat → Int32} {v32_length : Int32} {v32_parts : Int32} {v32_start : Int32} {v32_behind : Int32} {v32_token : Int32} {v32_number : Int32} {a36 : Nat → Int32} {x1 : Int32} {x3 : Int32} {s0 : Int32} {R : Int32 × Int32 × Int32 × Int32 × Int32 × Int32 × Int32 × (Nat → Int32)} (hf : fX6_readTerm_L51 Fu kS k8 v30_length a31 v32_length v32_parts v32_start v32_behind v32_token v32_number a36 x1 x3 s0 = some R) : E G b yX6_readTerm cX6_readTerm 5 (some .boolean) (e_rm (D + 3) 0 0) e_X0 (e_Z G b (pD (some (.int R.1)) (e_ov (kW81) (wW81 G b v30_length a31 v32_clauses R.2.1 R.2.2.1 R.2.2.2.1 R.2.2.2.2.1 R.2.2.2.2.2.1 R.2.2.2.2.2.2.1 v32_good R.2.2.2.2.2.2.2) c0) n) 0 0) 51 [(0, .ref (b + 32)), (1, .int x1), (3, .int x3)] [.int s0] (e_ov (kW81) (wW81 G b v30_length a31 v32_clauses v32_length v32_parts v32_start v32_behind v32_token v32_number v32_good a36) c0) n 0 0 := by
  unfold fX6_readTerm_L51 at hf
  refine E.istore (lv' := [(4, .int s0), (0, .ref (b + 32)), (1, .int x1), (3, .int x3)]) dX6_readTerm_51 (by decide) rfl ?_
  refine E.aload_n 1 dX6_readTerm_53 rfl ?_
  obtain ⟨r8, hc8, hf⟩ := e_bind hf
  refine E.callVDs (es' := (wW81 G b v30_length a31 v32_clauses v32_length v32_parts r8.1 r8.2.1 r8.2.2.1 r8.2.2.2 v32_good a36)) [] [0, 1, 2] 2 32 dX6_readTerm_54 mlX6_47 hw rfl rfl rfl rfl (mX6_advance (hw.pick2 [0, 1, 2] rfl (by decide)) hc8) rfl rfl rfl rfl ⟨by show _ ≤ D + 3; omega, by show _ ≤ 64 * (D + 3); omega⟩ rfl rfl (Nat.le_of_ble_eq_true rfl) ⟨Nat.le_refl _, Nat.le_refl _⟩ rfl ?_
  refine E.aload_n 1 dX6_readTerm_57 rfl ?_
  refine E.iload_n 2 dX6_readTerm_58 rfl ?_
  obtain ⟨r9, hc9, hf⟩ := e_bind hf
  refine E.callVD [] dX6_readTerm_59 mlX6_158 ⟨hw.sub (p := 2) rfl, e_ov_get hw.1 (p := 2) rfl rfl⟩ rfl rfl (mX6_readPart (by omega) hw hS hc9) ⟨by show _ ≤ D + 3; omega, by show _ ≤ 64 * (D + 3); omega⟩ rfl rfl (Nat.le_of_ble_eq_true rfl) ⟨Nat.le_refl _, Nat.le_refl _⟩ rfl ?_
  refine E.istore_n (lv' := [(2, .int r9.1), (4, .int s0), (0, .ref (b + 32)), (1, .int x1), (3, .int x3)]) dX6_readTerm_62 (by decide) rfl ?_
  refine E.aload_n 2 dX6_readTerm_63 rfl ?_
  refine E.iload 1 dX6_readTerm_64 rfl ?_
  refine E.iconst (v := 0) dX6_readTerm_66 (by decide) ?_
  obtain ⟨r10, hc10, hf⟩ := e_bind hf
  refine E.callVDs (es' := (wW81 G b v30_length a31 v32_clauses r10.1 r9.2.2.1 r9.2.2.2.1 r9.2.2.2.2.1 r9.2.2.2.2.2.1 r9.2.2.2.2.2.2.1 v32_good r10.2)) [] [2, 3] 2 32 dX6_readTerm_67 mlX6_134 hw rfl rfl rfl rfl (mX6_emit (hw.pick2 [2, 3] rfl (by decide)) hc10) rfl rfl rfl rfl ⟨by show _ ≤ D + 3; omega, by show _ ≤ 64 * (D + 3); omega⟩ rfl rfl (Nat.le_of_ble_eq_true rfl) ⟨Nat.le_refl _, Nat.le_refl _⟩ rfl ?_
  refine E.iinc (q := 4) (v := (x3 + 1)) (lv' := [(3, .int (x3 + 1)), (2, .int r9.1), (4, .int s0), (0, .ref (b + 32)), (1, .int x1)]) dX6_readTerm_70 rfl rfl (by decide) rfl ?_
  refine E.goto dX6_readTerm_73 ?_
  refine E.locals [3, 4, 1, 0] rfl ?_
  exact hk8 hf
def fX6_readTerm_L37 (Fu : Nat) (kS : Int32 → (Nat → Int32) → Int32 → Int32 → Int32 → Int32 → Int32 → Int32 → (Nat → Int32) → Int32 → Option (Int32 × Int32 × Int32 × Int32 × Int32 × Int32 × Int32 × (Nat → Int32))) (k8 : Int32 → (Nat → Int32) → Int32 → Int32 → Int32 → Int32 → Int32 → Int32 → (Nat → Int32) → Int32 → Int32 → Int32 → Option (Int32 × Int32 × Int32 × Int32 × Int32 × Int32 × Int32 × (Nat → Int32))) (v30_length : Int32) (a31 : Nat → Int32) (v32_length : Int32) (v32_parts : Int32) (v32_start : Int32) (v32_behind : Int32) (v32_token : Int32) (v32_number : Int32) (a36 : Nat → Int32) (x1 : Int32) (x3 : Int32) : Option (Int32 × Int32 × Int32 × Int32 × Int32 × Int32 × Int32 × (Nat → Int32)) := (fX6_isSign v30_length a31 v32_start v32_token 42).bind fun r7 => (if (r7 : Int32) = (0 : Int32) then (fX6_readTerm_L51 Fu kS k8 v30_length a31 v32_length v32_parts v32_start v32_behind v32_token v32_number a36 x1 x3 5) else (fX6_readTerm_L51 Fu kS k8 v30_length a31 v32_length v32_parts v32_start v32_behind v32_token v32_number a36 x1 x3 4))
set_option maxHeartbeats 4000000 in
set_option maxRecDepth 100000 in
theorem tX6_readTerm_L37 {G : GT} {b : Nat} {c0 : Hp} {n : Nat} {D : Nat} (hD : 6 ≤ D) (hw : e_wf (kW81) n) {v32_clauses : Int32} {v32_good : Int32} {kS : Int32 → (Nat → Int32) → Int32 → Int32 → Int32 → Int32 → Int32 → Int32 → (Nat → Int32) → Int32 → Option (Int32 × Int32 × Int32 × Int32 × Int32 × Int32 × Int32 × (Nat → Int32))} (hS : ∀ {v30_length : Int32} {a31 : Nat → Int32} {v32_length : Int32} {v32_parts : Int32} {v32_start : Int32} {v32_behind : Int32} {v32_token : Int32} {v32_number : Int32} {a36 : Nat → Int32} {x1 : Int32} {R : Int32 × Int32 × Int32 × Int32 × Int32 × Int32 × Int32 × (Nat → Int32)}, kS v30_length a31 v32_length v32_parts v32_start v32_behind v32_token v32_number a36 x1 = some R → e_C G b yX6_readSum cX6_readSum 5 (some .boolean) D 0 0 [.ref (b + 32), .int x1] (e_ov (kW81) (wW81 G b v30_length a31 v32_clauses v32_length v32_parts v32_start v32_behind v32_token v32_number v32_good a36) c0) n (pD (some (.int R.1)) (e_ov (kW81) (wW81 G b v30_length a31 v32_clauses R.2.1 R.2.2.1 R.2.2.2.1 R.2.2.2.2.1 R.2.2.2.2.2.1 R.2.2.2.2.2.2.1 v32_good R.2.2.2.2.2.2.2) c0) n)) {Fu : Nat} {k8 : Int32 → (Nat → Int32) → Int32 → Int32 → Int32 → Int32 → Int32 → Int32 → (Nat → Int32) → Int32 → Int32 → Int32 → Option (Int32 × Int32 × Int32 × Int32 × Int32 × Int32 × Int32 × (Nat → Int32))} (hk8 : ∀ {v30_length : Int32} {a31 : Nat → Int32} {v32_length : Int32} {v32_parts : Int32} {v32_start : Int32} {v32_behind : Int32} {v32_token : Int32} {v32_number : Int32} {a36 : Nat → Int32} {x1 : Int32} {x2 : Int32} {x3 : Int32} {R : Int32 × Int32 × Int32 × Int32 × Int32 × Int32 × Int32 × (Nat → Int32)}, k8 v30_length a31 v32_length v32_parts v32_start v32_behind v32_token v32_number a36 x1 x2 x3 = some R → E G b yX6_readTerm cX6_readTerm 5 (some .boolean) (e_rm (D + 3) 0 0) e_X0 (e_Z G b (pD (some (.int R.1)) (e_ov (kW81) (wW81 G b v30_length a31 v32_clauses R.2.1 R.2.2.1 R.2.2.2.1 R.2.2.2.2.1 R.2.2.2.2.2.1 R.2.2.2.2.2.2.1 v32_good R.2.2.2.2.2.2.2) c0) n) 0 0) 8 [(0, .ref (b + 32)), (1, .int x1), (2, .int x2), (3, .int x3)] [] (e_ov (kW81) (wW81 G b v30_length a31 v32_clauses v32_length v32_parts v32_start v32_behind v32_token v32_number v32_good a36) c0) n 0 0) {v30_length : Int32} {a31 : Nat → Int32} {v32_length : Int32} {v32_parts : Int32} {v32_start : Int32} {v32_behind : Int32} {v32_token : Int32} {v32_number : Int32} {a36 : Nat → Int32} {x1 : Int32} {x3 : Int32} {R : Int32 × Int32 × Int32 × Int32 × Int32 × Int32 × Int32 × (Nat → Int32)} (hf : fX6_readTerm_L37 Fu kS k8 v30_length a31 v32_length v32_parts v32_start v32_behind v32_token v32_number a36 x1 x3 = some R) : E G b yX6_readTerm cX6_readTerm 5 (some .boolean) (e_rm (D + 3) 0 0) e_X0 (e_Z G b (pD (some (.int R.1)) (e_ov (kW81) (wW81 G b v30_length a31 v32_clauses R.2.1 R.2.2.1 R.2.2.2.1 R.2.2.2.2.1 R.2.2.2.2.2.1 R.2.2.2.2.2.2.1 v32_good R.2.2.2.2.2.2.2) c0) n) 0 0) 37 [(0, .ref (b + 32)), (1, .int x1), (3, .int x3)] [] (e_ov (kW81) (wW81 G b v30_length a31 v32_clauses v32_length v32_parts v32_start v32_behind v32_token v32_number v32_good a36) c0) n 0 0 := by
  unfold fX6_readTerm_L37 at hf
  refine E.aload_n 0 dX6_readTerm_37 rfl ?_
  refine E.bipush (v := 42) dX6_readTerm_38 (by decide) ?_
  obtain ⟨r7, hc7, hf⟩ := e_bind hf
  refine E.callVDs (es' := (wW81 G b v30_length a31 v32_clauses v32_length v32_parts v32_start v32_behind v32_token v32_number v32_good a36)) [] [0, 1, 2] 2 32 dX6_readTerm_40 mlX6_54 hw rfl rfl rfl rfl (mX6_isSign (hw.pick2 [0, 1, 2] rfl (by decide)) hc7) rfl rfl rfl rfl ⟨by show _ ≤ D + 3; omega, by show _ ≤ 64 * (D + 3); omega⟩ rfl rfl (Nat.le_of_ble_eq_true rfl) ⟨Nat.le_refl _, Nat.le_refl _⟩ rfl ?_
  refine E.if_eq dX6_readTerm_43 (fun h => ?_) (fun h => ?_)
  · have hf := e_ift hf h
    refine E.iconst (v := 5) dX6_readTerm_50 (by decide) ?_
    exact tX6_readTerm_L51 hD hw hS hk8 hf
  · have hf := e_iff hf h
    refine E.iconst (v := 4) dX6_readTerm_46 (by decide) ?_
    refine E.goto dX6_readTerm_47 ?_
    exact tX6_readTerm_L51 hD hw hS hk8 hf
def fX6_readTerm_L8 (Fu : Nat) (kS : Int32 → (Nat → Int32) → Int32 → Int32 → Int32 → Int32 → Int32 → Int32 → (Nat → Int32) → Int32 → Option (Int32 × Int32 × Int32 × Int32 × Int32 × Int32 × Int32 × (Nat → Int32))) : Nat → Int32 → (Nat → Int32) → Int32 → Int32 → Int32 → Int32 → Int32 → Int32 → (Nat → Int32) → Int32 → Int32 → Int32 → Option (Int32 × Int32 × Int32 × Int32 × Int32 × Int32 × Int32 × (Nat → Int32))
  | 0, _, _, _, _, _, _, _, _, _, _, _, _ => none
  | k + 1, v30_length, a31, v32_length, v32_parts, v32_start, v32_behind, v32_token, v32_number, a36, x1, x2, x3 => if (400 : Int32) ≤ (x3 : Int32) then (gb x2 (some (x2, v32_length, v32_parts, v32_start, v32_behind, v32_token, v32_number, a36))) else (if (x2 : Int32) = (0 : Int32) then (gb x2 (some (x2, v32_length, v32_parts, v32_start, v32_behind, v32_token, v32_number, a36))) else ((fX6_isSign v30_length a31 v32_start v32_token 42).bind fun r4 => (if (r4 : Int32) = (0 : Int32) then ((fX6_isSign v30_length a31 v32_start v32_token 47).bind fun r5 => (if (r5 : Int32) = (0 : Int32) then (gb x2 (some (x2, v32_length, v32_parts, v32_start, v32_behind, v32_token, v32_number, a36))) else (fX6_readTerm_L37 Fu kS (fX6_readTerm_L8 Fu kS k) v30_length a31 v32_length v32_parts v32_start v32_behind v32_token v32_number a36 x1 x3))) else (fX6_readTerm_L37 Fu kS (fX6_readTerm_L8 Fu kS k) v30_length a31 v32_length v32_parts v32_start v32_behind v32_token v32_number a36 x1 x3))))
set_option maxHeartbeats 4000000 in
set_option maxRecDepth 100000 in
theorem tX6_readTerm_L8 {G : GT} {b : Nat} {c0 : Hp} {n : Nat} {D : Nat} (hD : 6 ≤ D) (hw : e_wf (kW81) n) {v32_clauses : Int32} {v32_good : Int32} {kS : Int32 → (Nat → Int32) → Int32 → Int32 → Int32 → Int32 → Int32 → Int32 → (Nat → Int32) → Int32 → Option (Int32 × Int32 × Int32 × Int32 × Int32 × Int32 × Int32 × (Nat → Int32))} (hS : ∀ {v30_length : Int32} {a31 : Nat → Int32} {v32_length : Int32} {v32_parts : Int32} {v32_start : Int32} {v32_behind : Int32} {v32_token : Int32} {v32_number : Int32} {a36 : Nat → Int32} {x1 : Int32} {R : Int32 × Int32 × Int32 × Int32 × Int32 × Int32 × Int32 × (Nat → Int32)}, kS v30_length a31 v32_length v32_parts v32_start v32_behind v32_token v32_number a36 x1 = some R → e_C G b yX6_readSum cX6_readSum 5 (some .boolean) D 0 0 [.ref (b + 32), .int x1] (e_ov (kW81) (wW81 G b v30_length a31 v32_clauses v32_length v32_parts v32_start v32_behind v32_token v32_number v32_good a36) c0) n (pD (some (.int R.1)) (e_ov (kW81) (wW81 G b v30_length a31 v32_clauses R.2.1 R.2.2.1 R.2.2.2.1 R.2.2.2.2.1 R.2.2.2.2.2.1 R.2.2.2.2.2.2.1 v32_good R.2.2.2.2.2.2.2) c0) n)) {Fu : Nat} : ∀ (k : Nat) {v30_length : Int32} {a31 : Nat → Int32} {v32_length : Int32} {v32_parts : Int32} {v32_start : Int32} {v32_behind : Int32} {v32_token : Int32} {v32_number : Int32} {a36 : Nat → Int32} {x1 : Int32} {x2 : Int32} {x3 : Int32} {R : Int32 × Int32 × Int32 × Int32 × Int32 × Int32 × Int32 × (Nat → Int32)}, fX6_readTerm_L8 Fu kS k v30_length a31 v32_length v32_parts v32_start v32_behind v32_token v32_number a36 x1 x2 x3 = some R → E G b yX6_readTerm cX6_readTerm 5 (some .boolean) (e_rm (D + 3) 0 0) e_X0 (e_Z G b (pD (some (.int R.1)) (e_ov (kW81) (wW81 G b v30_length a31 v32_clauses R.2.1 R.2.2.1 R.2.2.2.1 R.2.2.2.2.1 R.2.2.2.2.2.1 R.2.2.2.2.2.2.1 v32_good R.2.2.2.2.2.2.2) c0) n) 0 0) 8 [(0, .ref (b + 32)), (1, .int x1), (2, .int x2), (3, .int x3)] [] (e_ov (kW81) (wW81 G b v30_length a31 v32_clauses v32_length v32_parts v32_start v32_behind v32_token v32_number v32_good a36) c0) n 0 0 := by
  intro k
  induction k with
  | zero =>
    intro _ _ _ _ _ _ _ _ _ _ _ _ _ hf
    have hf : (none : Option (Int32 × Int32 × Int32 × Int32 × Int32 × Int32 × Int32 × (Nat → Int32))) = some _ := hf
    cases hf
  | succ k ih =>
    intro v30_length a31 v32_length v32_parts v32_start v32_behind v32_token v32_number a36 x1 x2 x3 R hf
    rw [fX6_readTerm_L8] at hf
    refine E.iload_n 3 dX6_readTerm_8 rfl ?_
    refine E.sipush (v := 400) dX6_readTerm_9 (by decide) ?_
    refine E.icmp_ge dX6_readTerm_12 (fun h => ?_) (fun h => ?_)
    · have hf := e_ift hf h
      refine E.iload_n 2 dX6_readTerm_76 rfl ?_
      obtain ⟨g2, hf⟩ := gb_some hf
      cases hf
      exact E.zret dX6_readTerm_77 (nb01 g2) (Nat.le_refl _) (Nat.le_refl _) (pD_rf _ _ _)
    · have hf := e_iff hf h
      refine E.iload_n 2 dX6_readTerm_15 rfl ?_
      refine E.if_eq dX6_readTerm_16 (fun h => ?_) (fun h => ?_)
      · have hf := e_ift hf h
        refine E.iload_n 2 dX6_readTerm_76 rfl ?_
        obtain ⟨g3, hf⟩ := gb_some hf
        cases hf
        exact E.zret dX6_readTerm_77 (nb01 g3) (Nat.le_refl _) (Nat.le_refl _) (pD_rf _ _ _)
      · have hf := e_iff hf h
        refine E.aload_n 0 dX6_readTerm_19 rfl ?_
        refine E.bipush (v := 42) dX6_readTerm_20 (by decide) ?_
        obtain ⟨r4, hc4, hf⟩ := e_bind hf
        refine E.callVDs (es' := (wW81 G b v30_length a31 v32_clauses v32_length v32_parts v32_start v32_behind v32_token v32_number v32_good a36)) [] [0, 1, 2] 2 32 dX6_readTerm_22 mlX6_54 hw rfl rfl rfl rfl (mX6_isSign (hw.pick2 [0, 1, 2] rfl (by decide)) hc4) rfl rfl rfl rfl ⟨by show _ ≤ D + 3; omega, by show _ ≤ 64 * (D + 3); omega⟩ rfl rfl (Nat.le_of_ble_eq_true rfl) ⟨Nat.le_refl _, Nat.le_refl _⟩ rfl ?_
        refine E.if_ne dX6_readTerm_25 (fun h => ?_) (fun h => ?_)
        · have hf := e_iff hf h
          refine E.locals [0, 1, 3] rfl ?_
          exact tX6_readTerm_L37 hD hw hS ih hf
        · have hf := e_ift hf h
          refine E.aload_n 0 dX6_readTerm_28 rfl ?_
          refine E.bipush (v := 47) dX6_readTerm_29 (by decide) ?_
          obtain ⟨r5, hc5, hf⟩ := e_bind hf
          refine E.callVDs (es' := (wW81 G b v30_length a31 v32_clauses v32_length v32_parts v32_start v32_behind v32_token v32_number v32_good a36)) [] [0, 1, 2] 2 32 dX6_readTerm_31 mlX6_54 hw rfl rfl rfl rfl (mX6_isSign (hw.pick2 [0, 1, 2] rfl (by decide)) hc5) rfl rfl rfl rfl ⟨by show _ ≤ D + 3; omega, by show _ ≤ 64 * (D + 3); omega⟩ rfl rfl (Nat.le_of_ble_eq_true rfl) ⟨Nat.le_refl _, Nat.le_refl _⟩ rfl ?_
          refine E.if_eq dX6_readTerm_34 (fun h => ?_) (fun h => ?_)
          · have hf := e_ift hf h
            refine E.iload_n 2 dX6_readTerm_76 rfl ?_
            obtain ⟨g6, hf⟩ := gb_some hf
            cases hf
            exact E.zret dX6_readTerm_77 (nb01 g6) (Nat.le_refl _) (Nat.le_refl _) (pD_rf _ _ _)
          · have hf := e_iff hf h
            refine E.locals [0, 1, 3] rfl ?_
            exact tX6_readTerm_L37 hD hw hS ih hf
def fX6_readTerm (Fu : Nat) (kS : Int32 → (Nat → Int32) → Int32 → Int32 → Int32 → Int32 → Int32 → Int32 → (Nat → Int32) → Int32 → Option (Int32 × Int32 × Int32 × Int32 × Int32 × Int32 × Int32 × (Nat → Int32))) (v30_length : Int32) (a31 : Nat → Int32) (v32_length : Int32) (v32_parts : Int32) (v32_start : Int32) (v32_behind : Int32) (v32_token : Int32) (v32_number : Int32) (a36 : Nat → Int32) (x1 : Int32) : Option (Int32 × Int32 × Int32 × Int32 × Int32 × Int32 × Int32 × (Nat → Int32)) := (fX6_readPart Fu kS v30_length a31 v32_length v32_parts v32_start v32_behind v32_token v32_number a36 x1).bind fun r1 => (fX6_readTerm_L8 Fu kS Fu v30_length a31 r1.2.1 r1.2.2.1 r1.2.2.2.1 r1.2.2.2.2.1 r1.2.2.2.2.2.1 r1.2.2.2.2.2.2.1 r1.2.2.2.2.2.2.2 x1 r1.1 0)
set_option maxHeartbeats 4000000 in
set_option maxRecDepth 100000 in
theorem tX6_readTerm {G : GT} {b : Nat} {c0 : Hp} {n : Nat} {D : Nat} (hD : 6 ≤ D) (hw : e_wf (kW81) n) {v32_clauses : Int32} {v32_good : Int32} {kS : Int32 → (Nat → Int32) → Int32 → Int32 → Int32 → Int32 → Int32 → Int32 → (Nat → Int32) → Int32 → Option (Int32 × Int32 × Int32 × Int32 × Int32 × Int32 × Int32 × (Nat → Int32))} (hS : ∀ {v30_length : Int32} {a31 : Nat → Int32} {v32_length : Int32} {v32_parts : Int32} {v32_start : Int32} {v32_behind : Int32} {v32_token : Int32} {v32_number : Int32} {a36 : Nat → Int32} {x1 : Int32} {R : Int32 × Int32 × Int32 × Int32 × Int32 × Int32 × Int32 × (Nat → Int32)}, kS v30_length a31 v32_length v32_parts v32_start v32_behind v32_token v32_number a36 x1 = some R → e_C G b yX6_readSum cX6_readSum 5 (some .boolean) D 0 0 [.ref (b + 32), .int x1] (e_ov (kW81) (wW81 G b v30_length a31 v32_clauses v32_length v32_parts v32_start v32_behind v32_token v32_number v32_good a36) c0) n (pD (some (.int R.1)) (e_ov (kW81) (wW81 G b v30_length a31 v32_clauses R.2.1 R.2.2.1 R.2.2.2.1 R.2.2.2.2.1 R.2.2.2.2.2.1 R.2.2.2.2.2.2.1 v32_good R.2.2.2.2.2.2.2) c0) n)) {Fu : Nat} {v30_length : Int32} {a31 : Nat → Int32} {v32_length : Int32} {v32_parts : Int32} {v32_start : Int32} {v32_behind : Int32} {v32_token : Int32} {v32_number : Int32} {a36 : Nat → Int32} {x1 : Int32} {R : Int32 × Int32 × Int32 × Int32 × Int32 × Int32 × Int32 × (Nat → Int32)} (hf : fX6_readTerm Fu kS v30_length a31 v32_length v32_parts v32_start v32_behind v32_token v32_number a36 x1 = some R) : E G b yX6_readTerm cX6_readTerm 5 (some .boolean) (e_rm (D + 3) 0 0) e_X0 (e_Z G b (pD (some (.int R.1)) (e_ov (kW81) (wW81 G b v30_length a31 v32_clauses R.2.1 R.2.2.1 R.2.2.2.1 R.2.2.2.2.1 R.2.2.2.2.2.1 R.2.2.2.2.2.2.1 v32_good R.2.2.2.2.2.2.2) c0) n) 0 0) 0 [(0, .ref (b + 32)), (1, .int x1)] [] (e_ov (kW81) (wW81 G b v30_length a31 v32_clauses v32_length v32_parts v32_start v32_behind v32_token v32_number v32_good a36) c0) n 0 0 := by
  unfold fX6_readTerm at hf
  refine E.aload_n 0 dX6_readTerm_0 rfl ?_
  refine E.iload_n 1 dX6_readTerm_1 rfl ?_
  obtain ⟨r1, hc1, hf⟩ := e_bind hf
  refine E.callVD [] dX6_readTerm_2 mlX6_158 ⟨hw.sub (p := 2) rfl, e_ov_get hw.1 (p := 2) rfl rfl⟩ rfl rfl (mX6_readPart (by omega) hw hS hc1) ⟨by show _ ≤ D + 3; omega, by show _ ≤ 64 * (D + 3); omega⟩ rfl rfl (Nat.le_of_ble_eq_true rfl) ⟨Nat.le_refl _, Nat.le_refl _⟩ rfl ?_
  refine E.istore_n (lv' := [(2, .int r1.1), (0, .ref (b + 32)), (1, .int x1)]) dX6_readTerm_5 (by decide) rfl ?_
  refine E.iconst (v := 0) dX6_readTerm_6 (by decide) ?_
  refine E.istore_n (lv' := [(3, .int 0), (2, .int r1.1), (0, .ref (b + 32)), (1, .int x1)]) dX6_readTerm_7 (by decide) rfl ?_
  refine E.locals [2, 3, 1, 0] rfl ?_
  exact tX6_readTerm_L8 hD hw hS _ hf
set_option maxRecDepth 100000 in
theorem mX6_readTerm {G : GT} {b : Nat} {c0 : Hp} {n : Nat} {D : Nat} (hD : 6 ≤ D) (hw : e_wf (kW81) n) {v32_clauses : Int32} {v32_good : Int32} {kS : Int32 → (Nat → Int32) → Int32 → Int32 → Int32 → Int32 → Int32 → Int32 → (Nat → Int32) → Int32 → Option (Int32 × Int32 × Int32 × Int32 × Int32 × Int32 × Int32 × (Nat → Int32))} (hS : ∀ {v30_length : Int32} {a31 : Nat → Int32} {v32_length : Int32} {v32_parts : Int32} {v32_start : Int32} {v32_behind : Int32} {v32_token : Int32} {v32_number : Int32} {a36 : Nat → Int32} {x1 : Int32} {R : Int32 × Int32 × Int32 × Int32 × Int32 × Int32 × Int32 × (Nat → Int32)}, kS v30_length a31 v32_length v32_parts v32_start v32_behind v32_token v32_number a36 x1 = some R → e_C G b yX6_readSum cX6_readSum 5 (some .boolean) D 0 0 [.ref (b + 32), .int x1] (e_ov (kW81) (wW81 G b v30_length a31 v32_clauses v32_length v32_parts v32_start v32_behind v32_token v32_number v32_good a36) c0) n (pD (some (.int R.1)) (e_ov (kW81) (wW81 G b v30_length a31 v32_clauses R.2.1 R.2.2.1 R.2.2.2.1 R.2.2.2.2.1 R.2.2.2.2.2.1 R.2.2.2.2.2.2.1 v32_good R.2.2.2.2.2.2.2) c0) n)) {Fu : Nat} {v30_length : Int32} {a31 : Nat → Int32} {v32_length : Int32} {v32_parts : Int32} {v32_start : Int32} {v32_behind : Int32} {v32_token : Int32} {v32_number : Int32} {a36 : Nat → Int32} {x1 : Int32} {R : Int32 × Int32 × Int32 × Int32 × Int32 × Int32 × Int32 × (Nat → Int32)} (hf : fX6_readTerm Fu kS v30_length a31 v32_length v32_parts v32_start v32_behind v32_token v32_number a36 x1 = some R) : e_C G b yX6_readTerm cX6_readTerm 5 (some .boolean) (D + 3) 0 0 [.ref (b + 32), .int x1] (e_ov (kW81) (wW81 G b v30_length a31 v32_clauses v32_length v32_parts v32_start v32_behind v32_token v32_number v32_good a36) c0) n (pD (some (.int R.1)) (e_ov (kW81) (wW81 G b v30_length a31 v32_clauses R.2.1 R.2.2.1 R.2.2.2.1 R.2.2.2.2.1 R.2.2.2.2.2.1 R.2.2.2.2.2.2.1 v32_good R.2.2.2.2.2.2.2) c0) n) := e_C.of (by decide) (Nat.le_of_ble_eq_true rfl) (tX6_readTerm hD hw hS hf)
