abbrev kM (o : Nat) : List Nat := [o, (o + 1), (o + 2), (o + 3), (o + 4), (o + 5), (o + 6), (o + 7), (o + 8), (o + 9), (o + 10), (o + 11), (o + 12), (o + 13), (o + 14), (o + 15), (o + 16), (o + 17), (o + 18), (o + 19), (o + 20), (o + 21), (o + 22), (o + 23), (o + 24), (o + 25)]
abbrev wM (G : GT) (b o : Nat) (v_thrown : Int32) (v_status : Int32) (a_refusals : Nat → Int32) (a_row : Nat → Int32) (a_images : Nat → Int32) (a_isKept : Nat → Int32) (a_tape : Nat → Int32) (v_taped : Int32) (v_from : Int32) (v_to : Int32) (v_sort : Int32) (v_worth : Int64) (v_fault : Int32) (v_bad : Int32) (v_nClauses : Int32) (a_nClause : Nat → Int32) (v_nCode : Int32) (a_nOp : Nat → Int32) (a_nArg : Nat → Int32) (v_nLeaves : Int32) (a_pile : Nat → Int32) (a_pileAt : Nat → Int32) (v_piled : Int32) (v_opened : Int32) (a_words : Nat → Int64) (a_headWords : Nat → Int64) (v_law : Int32) (a_set : Nat → Int64) (a_rest : Nat → Int64) (v_broken : Int32) (v_value : Int64) (v_sum : Int64) (a_chances : Nat → Int32) (a_votes : Nat → Int64) (a_costs : Nat → Int32) (a_table : Nat → Int64) (a_prices : Nat → Int32) (v_surely : Int64) (a_mostBy : Nat → Int64) (a_leastBy : Nat → Int64) (v_between : Int64) (v_steadyWays : Int32) (v_quashed : Int32) (v_but : Int32) (a_figures : Nat → Int32) (a_all : Nat → Int32) (a_lies : Nat → Int32) (a_since : Nat → Int32) (v_last : Int32) (v_state : Int64) : List va_E := [.inr (12, [.int v_thrown, .int v_status, .ref (b + (o + 1)), .ref (b + (o + 2)), .ref (b + (o + 3)), .ref (b + (o + 4)), .ref (b + (o + 5)), .int v_taped, .int v_from, .int v_to, .int v_sort, .long v_worth, .int v_fault, .int v_bad, .int v_nClauses, .ref (b + (o + 6)), .int v_nCode, .ref (b + (o + 7)), .ref (b + (o + 8)), .int v_nLeaves, .ref (b + (o + 9)), .ref (b + (o + 10)), .int v_piled, .int v_opened, .ref (b + (o + 11)), .ref (b + (o + 12)), .int v_law, .ref (b + (o + 13)), .ref (b + (o + 14)), .int v_broken, .long v_value, .long v_sum, .ref (b + (o + 15)), .ref (b + (o + 16)), .ref (b + (o + 17)), .ref (b + (o + 18)), .ref (b + (o + 19)), .long v_surely, .ref (b + (o + 20)), .ref (b + (o + 21)), .long v_between, .int v_steadyWays, .int v_quashed, .int v_but, .ref (b + (o + 22)), .ref (b + (o + 23)), .ref (b + (o + 24)), .ref (b + (o + 25)), .int v_last, .long v_state]), aI G 7 a_refusals, aI G 5570 a_row, aI G 11140 a_images, aZ G 2 a_isKept, aI G 400 a_tape, aI G 96 a_nClause, aI G 400 a_nOp, aI G 400 a_nArg, aI G 400 a_pile, aI G 400 a_pileAt, aJ G 10 a_words, aJ G 3 a_headWords, aJ G 13 a_set, aJ G 400 a_rest, aI G 32 a_chances, aJ G 10 a_votes, aI G 512 a_costs, aJ G 65536 a_table, aI G 16 a_prices, aJ G 256 a_mostBy, aJ G 256 a_leastBy, aI G 100 a_figures, aI G 100 a_all, aI G 8 a_lies, aI G 8 a_since]
def fX12_in_L17 : Option (Int32) := some (0)
set_option maxHeartbeats 4000000 in
set_option maxRecDepth 100000 in
theorem tX12_in_L17 {G : GT} {b : Nat} {c : Hp} {n : Nat}  {R : Int32} (hf : fX12_in_L17 = some R) : E G b yX12_in cX12_in 6 (some .boolean) (e_rm 0 0 0) e_X0 (e_Z G b (pD (some (.int R)) c n) 0 0) 17 [] [] c n 0 0 := by
  unfold fX12_in_L17 at hf
  refine E.iconst (v := 0) dX12_in_17 (by decide) ?_
  cases hf
  exact E.zret dX12_in_18 rfl (Nat.le_refl _) (Nat.le_refl _) (pD_rf _ _ _)
def fX12_in (x0 : Int64) (x2 : Int64) (x4 : Int64) : Option (Int32) := if x0 < x2 then (fX12_in_L17) else (if x4 < x0 then (fX12_in_L17) else (some (1)))
set_option maxHeartbeats 4000000 in
set_option maxRecDepth 100000 in
theorem tX12_in {G : GT} {b : Nat} {c : Hp} {n : Nat} {x0 : Int64} {x2 : Int64} {x4 : Int64} {R : Int32} (hf : fX12_in x0 x2 x4 = some R) : E G b yX12_in cX12_in 6 (some .boolean) (e_rm 0 0 0) e_X0 (e_Z G b (pD (some (.int R)) c n) 0 0) 0 [(0, .long x0), (2, .long x2), (4, .long x4)] [] c n 0 0 := by
  unfold fX12_in at hf
  refine E.lload_n 0 dX12_in_0 rfl ?_
  refine E.lload_n 1 dX12_in_1 rfl ?_
  refine E.lc_lt dX12_in_2 dX12_in_3 (fun h => ?_) (fun h => ?_)
  · have hf := e_ift hf h
    refine E.locals [] rfl ?_
    exact tX12_in_L17 hf
  · have hf := e_iff hf h
    refine E.lload_n 0 dX12_in_6 rfl ?_
    refine E.lload 2 dX12_in_7 rfl ?_
    refine E.lc_gt dX12_in_9 dX12_in_10 (fun h => ?_) (fun h => ?_)
    · have hf := e_ift hf h
      refine E.locals [] rfl ?_
      exact tX12_in_L17 hf
    · have hf := e_iff hf h
      refine E.iconst (v := 1) dX12_in_13 (by decide) ?_
      refine E.goto dX12_in_14 ?_
      cases hf
      exact E.zret dX12_in_18 rfl (Nat.le_refl _) (Nat.le_refl _) (pD_rf _ _ _)
set_option maxRecDepth 100000 in
theorem mX12_in {G : GT} {b : Nat} {c : Hp} {n : Nat} {x0 : Int64} {x2 : Int64} {x4 : Int64} {R : Int32} (hf : fX12_in x0 x2 x4 = some R) : e_C G b yX12_in cX12_in 6 (some .boolean) 0 0 0 [.long x0, .long x2, .long x4] c n (pD (some (.int R)) c n) := e_C.of (by decide) (Nat.le_of_ble_eq_true rfl) (tX12_in hf)
def fX12_is (x0 : Int32) (x1 : Int32) : Option (Int32) := if (((x0 >>> (x1 &&& 31)) &&& 1) : Int32) = (1 : Int32) then (some (1)) else (some (0))
set_option maxHeartbeats 4000000 in
set_option maxRecDepth 100000 in
theorem tX12_is {G : GT} {b : Nat} {c : Hp} {n : Nat} {x0 : Int32} {x1 : Int32} {R : Int32} (hf : fX12_is x0 x1 = some R) : E G b yX12_is cX12_is 2 (some .boolean) (e_rm 0 0 0) e_X0 (e_Z G b (pD (some (.int R)) c n) 0 0) 0 [(0, .int x0), (1, .int x1)] [] c n 0 0 := by
  unfold fX12_is at hf
  refine E.iload_n 0 dX12_is_0 rfl ?_
  refine E.iload_n 1 dX12_is_1 rfl ?_
  refine E.ishr dX12_is_2 ?_
  refine E.iconst (v := 1) dX12_is_3 (by decide) ?_
  refine E.iand dX12_is_4 ?_
  refine E.iconst (v := 1) dX12_is_5 (by decide) ?_
  refine E.icmp_ne dX12_is_6 (fun h => ?_) (fun h => ?_)
  · have hf := e_iff hf h
    refine E.iconst (v := 0) dX12_is_13 (by decide) ?_
    cases hf
    exact E.zret dX12_is_14 rfl (Nat.le_refl _) (Nat.le_refl _) (pD_rf _ _ _)
  · have hf := e_ift hf h
    refine E.iconst (v := 1) dX12_is_9 (by decide) ?_
    refine E.goto dX12_is_10 ?_
    cases hf
    exact E.zret dX12_is_14 rfl (Nat.le_refl _) (Nat.le_refl _) (pD_rf _ _ _)
set_option maxRecDepth 100000 in
theorem mX12_is {G : GT} {b : Nat} {c : Hp} {n : Nat} {x0 : Int32} {x1 : Int32} {R : Int32} (hf : fX12_is x0 x1 = some R) : e_C G b yX12_is cX12_is 2 (some .boolean) 0 0 0 [.int x0, .int x1] c n (pD (some (.int R)) c n) := e_C.of (by decide) (Nat.le_of_ble_eq_true rfl) (tX12_is hf)
def fX12_bits_L4 (Fu : Nat) : Nat → Int32 → Int32 → Int32 → Option (Int32)
  | 0, _, _, _ => none
  | k + 1, x0, x1, x2 => if (8 : Int32) ≤ (x2 : Int32) then (some (x1)) else ((fX12_bits_L4 Fu k) x0 (x1 + ((x0 >>> (x2 &&& 31)) &&& 1)) (x2 + 1))
set_option maxHeartbeats 4000000 in
set_option maxRecDepth 100000 in
theorem tX12_bits_L4 {G : GT} {b : Nat} {c : Hp} {n : Nat} {Fu : Nat} : ∀ (k : Nat) {x0 : Int32} {x1 : Int32} {x2 : Int32} {R : Int32}, fX12_bits_L4 Fu k x0 x1 x2 = some R → E G b yX12_bits cX12_bits 3 (some .int) (e_rm 0 0 0) e_X0 (e_Z G b (pD (some (.int R)) c n) 0 0) 4 [(0, .int x0), (1, .int x1), (2, .int x2)] [] c n 0 0 := by
  intro k
  induction k with
  | zero =>
    intro _ _ _ _ hf
    have hf : (none : Option (Int32)) = some _ := hf
    cases hf
  | succ k ih =>
    intro x0 x1 x2 R hf
    rw [fX12_bits_L4] at hf
    refine E.iload_n 2 dX12_bits_4 rfl ?_
    refine E.bipush (v := 8) dX12_bits_5 (by decide) ?_
    refine E.icmp_ge dX12_bits_7 (fun h => ?_) (fun h => ?_)
    · have hf := e_ift hf h
      refine E.iload_n 1 dX12_bits_24 rfl ?_
      cases hf
      exact E.iret dX12_bits_25 (Nat.le_refl _) (Nat.le_refl _) (pD_rf _ _ _)
    · have hf := e_iff hf h
      refine E.iload_n 1 dX12_bits_10 rfl ?_
      refine E.iload_n 0 dX12_bits_11 rfl ?_
      refine E.iload_n 2 dX12_bits_12 rfl ?_
      refine E.ishr dX12_bits_13 ?_
      refine E.iconst (v := 1) dX12_bits_14 (by decide) ?_
      refine E.iand dX12_bits_15 ?_
      refine E.iadd dX12_bits_16 ?_
      refine E.istore_n (lv' := [(1, .int (x1 + ((x0 >>> (x2 &&& 31)) &&& 1))), (0, .int x0), (2, .int x2)]) dX12_bits_17 (by decide) rfl ?_
      refine E.iinc (q := 2) (v := (x2 + 1)) (lv' := [(2, .int (x2 + 1)), (1, .int (x1 + ((x0 >>> (x2 &&& 31)) &&& 1))), (0, .int x0)]) dX12_bits_18 rfl rfl (by decide) rfl ?_
      refine E.goto dX12_bits_21 ?_
      refine E.locals [2, 1, 0] rfl ?_
      exact ih hf
def fX12_bits (Fu : Nat) (x0 : Int32) : Option (Int32) := fX12_bits_L4 Fu Fu x0 0 0
set_option maxHeartbeats 4000000 in
set_option maxRecDepth 100000 in
theorem tX12_bits {G : GT} {b : Nat} {c : Hp} {n : Nat} {Fu : Nat} {x0 : Int32} {R : Int32} (hf : fX12_bits Fu x0 = some R) : E G b yX12_bits cX12_bits 3 (some .int) (e_rm 0 0 0) e_X0 (e_Z G b (pD (some (.int R)) c n) 0 0) 0 [(0, .int x0)] [] c n 0 0 := by
  unfold fX12_bits at hf
  refine E.iconst (v := 0) dX12_bits_0 (by decide) ?_
  refine E.istore_n (lv' := [(1, .int 0), (0, .int x0)]) dX12_bits_1 (by decide) rfl ?_
  refine E.iconst (v := 0) dX12_bits_2 (by decide) ?_
  refine E.istore_n (lv' := [(2, .int 0), (1, .int 0), (0, .int x0)]) dX12_bits_3 (by decide) rfl ?_
  refine E.locals [2, 1, 0] rfl ?_
  exact tX12_bits_L4 _ hf
set_option maxRecDepth 100000 in
theorem mX12_bits {G : GT} {b : Nat} {c : Hp} {n : Nat} {Fu : Nat} {x0 : Int32} {R : Int32} (hf : fX12_bits Fu x0 = some R) : e_C G b yX12_bits cX12_bits 3 (some .int) 0 0 0 [.int x0] c n (pD (some (.int R)) c n) := e_C.of (by decide) (Nat.le_of_ble_eq_true rfl) (tX12_bits hf)
def fX12_tell_L10 (v_status : Int32) (a_refusals : Nat → Int32) (x1 : Int32) (s0 : Int32) : Option (Int32 × Int32 × (Nat → Int32)) := if 0 ≤ (x1 : Int32) then (some (x1, s0, a_refusals)) else (gd (-x1) 7 (gd (-x1) 7 (some (x1, s0, (va_up a_refusals ((-x1) : Int32).toNatClampNeg ((a_refusals ((-x1) : Int32).toNatClampNeg) + 1))))))
set_option maxHeartbeats 4000000 in
set_option maxRecDepth 100000 in
theorem tX12_tell_L10 {G : GT} {b : Nat} {o : Nat} {c0 : Hp} {n : Nat} (hw : e_wf (kM o) n) {v_thrown : Int32} {a_row : Nat → Int32} {a_images : Nat → Int32} {a_isKept : Nat → Int32} {a_tape : Nat → Int32} {v_taped : Int32} {v_from : Int32} {v_to : Int32} {v_sort : Int32} {v_worth : Int64} {v_fault : Int32} {v_bad : Int32} {v_nClauses : Int32} {a_nClause : Nat → Int32} {v_nCode : Int32} {a_nOp : Nat → Int32} {a_nArg : Nat → Int32} {v_nLeaves : Int32} {a_pile : Nat → Int32} {a_pileAt : Nat → Int32} {v_piled : Int32} {v_opened : Int32} {a_words : Nat → Int64} {a_headWords : Nat → Int64} {v_law : Int32} {a_set : Nat → Int64} {a_rest : Nat → Int64} {v_broken : Int32} {v_value : Int64} {v_sum : Int64} {a_chances : Nat → Int32} {a_votes : Nat → Int64} {a_costs : Nat → Int32} {a_table : Nat → Int64} {a_prices : Nat → Int32} {v_surely : Int64} {a_mostBy : Nat → Int64} {a_leastBy : Nat → Int64} {v_between : Int64} {v_steadyWays : Int32} {v_quashed : Int32} {v_but : Int32} {a_figures : Nat → Int32} {a_all : Nat → Int32} {a_lies : Nat → Int32} {a_since : Nat → Int32} {v_last : Int32} {v_state : Int64} {v_status : Int32} {a_refusals : Nat → Int32} {x1 : Int32} {s0 : Int32} {R : Int32 × Int32 × (Nat → Int32)} (hf : fX12_tell_L10 v_status a_refusals x1 s0 = some R) : E G b yX12_tell cX12_tell 2 (some .int) (e_rm 0 0 0) e_X0 (e_Z G b (pD (some (.int R.1)) (e_ov (kM o) (wM G b o v_thrown R.2.1 R.2.2 a_row a_images a_isKept a_tape v_taped v_from v_to v_sort v_worth v_fault v_bad v_nClauses a_nClause v_nCode a_nOp a_nArg v_nLeaves a_pile a_pileAt v_piled v_opened a_words a_headWords v_law a_set a_rest v_broken v_value v_sum a_chances a_votes a_costs a_table a_prices v_surely a_mostBy a_leastBy v_between v_steadyWays v_quashed v_but a_figures a_all a_lies a_since v_last v_state) c0) n) 0 0) 10 [(0, .ref (b + o)), (1, .int x1)] [.int s0, .ref (b + o)] (e_ov (kM o) (wM G b o v_thrown v_status a_refusals a_row a_images a_isKept a_tape v_taped v_from v_to v_sort v_worth v_fault v_bad v_nClauses a_nClause v_nCode a_nOp a_nArg v_nLeaves a_pile a_pileAt v_piled v_opened a_words a_headWords v_law a_set a_rest v_broken v_value v_sum a_chances a_votes a_costs a_table a_prices v_surely a_mostBy a_leastBy v_between v_steadyWays v_quashed v_but a_figures a_all a_lies a_since v_last v_state) c0) n 0 0 := by
  unfold fX12_tell_L10 at hf
  refine E.put (es' := (wM G b o v_thrown s0 a_refusals a_row a_images a_isKept a_tape v_taped v_from v_to v_sort v_worth v_fault v_bad v_nClauses a_nClause v_nCode a_nOp a_nArg v_nLeaves a_pile a_pileAt v_piled v_opened a_words a_headWords v_law a_set a_rest v_broken v_value v_sum a_chances a_votes a_costs a_table a_prices v_surely a_mostBy a_leastBy v_between v_steadyWays v_quashed v_but a_figures a_all a_lies a_since v_last v_state)) hw 0 o dX12_tell_10 flX12_127 ftX12 rfl rfl rfl rfl rfl rfl (Nat.le_of_ble_eq_true rfl) rfl ?_
  refine E.iload_n 1 dX12_tell_13 rfl ?_
  refine E.if_ge dX12_tell_14 (fun h => ?_) (fun h => ?_)
  · have hf := e_ift hf h
    refine E.iload_n 1 dX12_tell_28 rfl ?_
    cases hf
    exact E.iret dX12_tell_29 (Nat.le_refl _) (Nat.le_refl _) (pD_rf _ _ _)
  · have hf := e_iff hf h
    refine E.aload_n 0 dX12_tell_17 rfl ?_
    refine E.get hw 0 o dX12_tell_18 flX12_7 rfl rfl rfl rfl ?_
    refine E.iload_n 1 dX12_tell_21 rfl ?_
    refine E.ineg dX12_tell_22 ?_
    refine E.dup2_11 dX12_tell_23 rfl rfl ?_
    obtain ⟨g1, hf⟩ := gd_some hf
    refine E.iald hw 1 (o + 1) dX12_tell_24 rfl rfl g1 ?_
    refine E.iconst (v := 1) dX12_tell_25 (by decide) ?_
    refine E.iadd dX12_tell_26 ?_
    obtain ⟨g2, hf⟩ := gd_some hf
    refine E.iast (es' := (wM G b o v_thrown s0 (va_up a_refusals ((-x1) : Int32).toNatClampNeg ((a_refusals ((-x1) : Int32).toNatClampNeg) + 1)) a_row a_images a_isKept a_tape v_taped v_from v_to v_sort v_worth v_fault v_bad v_nClauses a_nClause v_nCode a_nOp a_nArg v_nLeaves a_pile a_pileAt v_piled v_opened a_words a_headWords v_law a_set a_rest v_broken v_value v_sum a_chances a_votes a_costs a_table a_prices v_surely a_mostBy a_leastBy v_between v_steadyWays v_quashed v_but a_figures a_all a_lies a_since v_last v_state)) hw 1 (o + 1) dX12_tell_27 rfl rfl g2 rfl ?_
    refine E.iload_n 1 dX12_tell_28 rfl ?_
    cases hf
    exact E.iret dX12_tell_29 (Nat.le_refl _) (Nat.le_refl _) (pD_rf _ _ _)
def fX12_tell (v_status : Int32) (a_refusals : Nat → Int32) (x1 : Int32) : Option (Int32 × Int32 × (Nat → Int32)) := if 0 ≤ (x1 : Int32) then (fX12_tell_L10 v_status a_refusals x1 0) else (fX12_tell_L10 v_status a_refusals x1 x1)
set_option maxHeartbeats 4000000 in
set_option maxRecDepth 100000 in
theorem tX12_tell {G : GT} {b : Nat} {o : Nat} {c0 : Hp} {n : Nat} (hw : e_wf (kM o) n) {v_thrown : Int32} {a_row : Nat → Int32} {a_images : Nat → Int32} {a_isKept : Nat → Int32} {a_tape : Nat → Int32} {v_taped : Int32} {v_from : Int32} {v_to : Int32} {v_sort : Int32} {v_worth : Int64} {v_fault : Int32} {v_bad : Int32} {v_nClauses : Int32} {a_nClause : Nat → Int32} {v_nCode : Int32} {a_nOp : Nat → Int32} {a_nArg : Nat → Int32} {v_nLeaves : Int32} {a_pile : Nat → Int32} {a_pileAt : Nat → Int32} {v_piled : Int32} {v_opened : Int32} {a_words : Nat → Int64} {a_headWords : Nat → Int64} {v_law : Int32} {a_set : Nat → Int64} {a_rest : Nat → Int64} {v_broken : Int32} {v_value : Int64} {v_sum : Int64} {a_chances : Nat → Int32} {a_votes : Nat → Int64} {a_costs : Nat → Int32} {a_table : Nat → Int64} {a_prices : Nat → Int32} {v_surely : Int64} {a_mostBy : Nat → Int64} {a_leastBy : Nat → Int64} {v_between : Int64} {v_steadyWays : Int32} {v_quashed : Int32} {v_but : Int32} {a_figures : Nat → Int32} {a_all : Nat → Int32} {a_lies : Nat → Int32} {a_since : Nat → Int32} {v_last : Int32} {v_state : Int64} {v_status : Int32} {a_refusals : Nat → Int32} {x1 : Int32} {R : Int32 × Int32 × (Nat → Int32)} (hf : fX12_tell v_status a_refusals x1 = some R) : E G b yX12_tell cX12_tell 2 (some .int) (e_rm 0 0 0) e_X0 (e_Z G b (pD (some (.int R.1)) (e_ov (kM o) (wM G b o v_thrown R.2.1 R.2.2 a_row a_images a_isKept a_tape v_taped v_from v_to v_sort v_worth v_fault v_bad v_nClauses a_nClause v_nCode a_nOp a_nArg v_nLeaves a_pile a_pileAt v_piled v_opened a_words a_headWords v_law a_set a_rest v_broken v_value v_sum a_chances a_votes a_costs a_table a_prices v_surely a_mostBy a_leastBy v_between v_steadyWays v_quashed v_but a_figures a_all a_lies a_since v_last v_state) c0) n) 0 0) 0 [(0, .ref (b + o)), (1, .int x1)] [] (e_ov (kM o) (wM G b o v_thrown v_status a_refusals a_row a_images a_isKept a_tape v_taped v_from v_to v_sort v_worth v_fault v_bad v_nClauses a_nClause v_nCode a_nOp a_nArg v_nLeaves a_pile a_pileAt v_piled v_opened a_words a_headWords v_law a_set a_rest v_broken v_value v_sum a_chances a_votes a_costs a_table a_prices v_surely a_mostBy a_leastBy v_between v_steadyWays v_quashed v_but a_figures a_all a_lies a_since v_last v_state) c0) n 0 0 := by
  unfold fX12_tell at hf
  refine E.aload_n 0 dX12_tell_0 rfl ?_
  refine E.iload_n 1 dX12_tell_1 rfl ?_
  refine E.if_ge dX12_tell_2 (fun h => ?_) (fun h => ?_)
  · have hf := e_ift hf h
    refine E.iconst (v := 0) dX12_tell_9 (by decide) ?_
    exact tX12_tell_L10 hw hf
  · have hf := e_iff hf h
    refine E.iload_n 1 dX12_tell_5 rfl ?_
    refine E.goto dX12_tell_6 ?_
    exact tX12_tell_L10 hw hf
set_option maxRecDepth 100000 in
theorem mX12_tell {G : GT} {b : Nat} {o : Nat} {c0 : Hp} {n : Nat} (hw : e_wf (kM o) n) {v_thrown : Int32} {a_row : Nat → Int32} {a_images : Nat → Int32} {a_isKept : Nat → Int32} {a_tape : Nat → Int32} {v_taped : Int32} {v_from : Int32} {v_to : Int32} {v_sort : Int32} {v_worth : Int64} {v_fault : Int32} {v_bad : Int32} {v_nClauses : Int32} {a_nClause : Nat → Int32} {v_nCode : Int32} {a_nOp : Nat → Int32} {a_nArg : Nat → Int32} {v_nLeaves : Int32} {a_pile : Nat → Int32} {a_pileAt : Nat → Int32} {v_piled : Int32} {v_opened : Int32} {a_words : Nat → Int64} {a_headWords : Nat → Int64} {v_law : Int32} {a_set : Nat → Int64} {a_rest : Nat → Int64} {v_broken : Int32} {v_value : Int64} {v_sum : Int64} {a_chances : Nat → Int32} {a_votes : Nat → Int64} {a_costs : Nat → Int32} {a_table : Nat → Int64} {a_prices : Nat → Int32} {v_surely : Int64} {a_mostBy : Nat → Int64} {a_leastBy : Nat → Int64} {v_between : Int64} {v_steadyWays : Int32} {v_quashed : Int32} {v_but : Int32} {a_figures : Nat → Int32} {a_all : Nat → Int32} {a_lies : Nat → Int32} {a_since : Nat → Int32} {v_last : Int32} {v_state : Int64} {v_status : Int32} {a_refusals : Nat → Int32} {x1 : Int32} {R : Int32 × Int32 × (Nat → Int32)} (hf : fX12_tell v_status a_refusals x1 = some R) : e_C G b yX12_tell cX12_tell 2 (some .int) 0 0 0 [.ref (b + o), .int x1] (e_ov (kM o) (wM G b o v_thrown v_status a_refusals a_row a_images a_isKept a_tape v_taped v_from v_to v_sort v_worth v_fault v_bad v_nClauses a_nClause v_nCode a_nOp a_nArg v_nLeaves a_pile a_pileAt v_piled v_opened a_words a_headWords v_law a_set a_rest v_broken v_value v_sum a_chances a_votes a_costs a_table a_prices v_surely a_mostBy a_leastBy v_between v_steadyWays v_quashed v_but a_figures a_all a_lies a_since v_last v_state) c0) n (pD (some (.int R.1)) (e_ov (kM o) (wM G b o v_thrown R.2.1 R.2.2 a_row a_images a_isKept a_tape v_taped v_from v_to v_sort v_worth v_fault v_bad v_nClauses a_nClause v_nCode a_nOp a_nArg v_nLeaves a_pile a_pileAt v_piled v_opened a_words a_headWords v_law a_set a_rest v_broken v_value v_sum a_chances a_votes a_costs a_table a_prices v_surely a_mostBy a_leastBy v_between v_steadyWays v_quashed v_but a_figures a_all a_lies a_since v_last v_state) c0) n) := e_C.of (by decide) (Nat.le_of_ble_eq_true rfl) (tX12_tell hw hf)
def fX12_was (v_status : Int32) (x1 : Int32) : Option (Int32 × Int32) := some (x1, 0)
set_option maxHeartbeats 4000000 in
set_option maxRecDepth 100000 in
theorem tX12_was {G : GT} {b : Nat} {o : Nat} {c0 : Hp} {n : Nat} (hw : e_wf (kM o) n) {v_thrown : Int32} {a_refusals : Nat → Int32} {a_row : Nat → Int32} {a_images : Nat → Int32} {a_isKept : Nat → Int32} {a_tape : Nat → Int32} {v_taped : Int32} {v_from : Int32} {v_to : Int32} {v_sort : Int32} {v_worth : Int64} {v_fault : Int32} {v_bad : Int32} {v_nClauses : Int32} {a_nClause : Nat → Int32} {v_nCode : Int32} {a_nOp : Nat → Int32} {a_nArg : Nat → Int32} {v_nLeaves : Int32} {a_pile : Nat → Int32} {a_pileAt : Nat → Int32} {v_piled : Int32} {v_opened : Int32} {a_words : Nat → Int64} {a_headWords : Nat → Int64} {v_law : Int32} {a_set : Nat → Int64} {a_rest : Nat → Int64} {v_broken : Int32} {v_value : Int64} {v_sum : Int64} {a_chances : Nat → Int32} {a_votes : Nat → Int64} {a_costs : Nat → Int32} {a_table : Nat → Int64} {a_prices : Nat → Int32} {v_surely : Int64} {a_mostBy : Nat → Int64} {a_leastBy : Nat → Int64} {v_between : Int64} {v_steadyWays : Int32} {v_quashed : Int32} {v_but : Int32} {a_figures : Nat → Int32} {a_all : Nat → Int32} {a_lies : Nat → Int32} {a_since : Nat → Int32} {v_last : Int32} {v_state : Int64} {v_status : Int32} {x1 : Int32} {R : Int32 × Int32} (hf : fX12_was v_status x1 = some R) : E G b yX12_was cX12_was 2 (some .int) (e_rm 0 0 0) e_X0 (e_Z G b (pD (some (.int R.1)) (e_ov (kM o) (wM G b o v_thrown R.2 a_refusals a_row a_images a_isKept a_tape v_taped v_from v_to v_sort v_worth v_fault v_bad v_nClauses a_nClause v_nCode a_nOp a_nArg v_nLeaves a_pile a_pileAt v_piled v_opened a_words a_headWords v_law a_set a_rest v_broken v_value v_sum a_chances a_votes a_costs a_table a_prices v_surely a_mostBy a_leastBy v_between v_steadyWays v_quashed v_but a_figures a_all a_lies a_since v_last v_state) c0) n) 0 0) 0 [(0, .ref (b + o)), (1, .int x1)] [] (e_ov (kM o) (wM G b o v_thrown v_status a_refusals a_row a_images a_isKept a_tape v_taped v_from v_to v_sort v_worth v_fault v_bad v_nClauses a_nClause v_nCode a_nOp a_nArg v_nLeaves a_pile a_pileAt v_piled v_opened a_words a_headWords v_law a_set a_rest v_broken v_value v_sum a_chances a_votes a_costs a_table a_prices v_surely a_mostBy a_leastBy v_between v_steadyWays v_quashed v_but a_figures a_all a_lies a_since v_last v_state) c0) n 0 0 := by
  unfold fX12_was at hf
  refine E.aload_n 0 dX12_was_0 rfl ?_
  refine E.iconst (v := 0) dX12_was_1 (by decide) ?_
  refine E.put (es' := (wM G b o v_thrown 0 a_refusals a_row a_images a_isKept a_tape v_taped v_from v_to v_sort v_worth v_fault v_bad v_nClauses a_nClause v_nCode a_nOp a_nArg v_nLeaves a_pile a_pileAt v_piled v_opened a_words a_headWords v_law a_set a_rest v_broken v_value v_sum a_chances a_votes a_costs a_table a_prices v_surely a_mostBy a_leastBy v_between v_steadyWays v_quashed v_but a_figures a_all a_lies a_since v_last v_state)) hw 0 o dX12_was_2 flX12_127 ftX12 rfl rfl rfl rfl rfl rfl (Nat.le_of_ble_eq_true rfl) rfl ?_
  refine E.iload_n 1 dX12_was_5 rfl ?_
  cases hf
  exact E.iret dX12_was_6 (Nat.le_refl _) (Nat.le_refl _) (pD_rf _ _ _)
set_option maxRecDepth 100000 in
theorem mX12_was {G : GT} {b : Nat} {o : Nat} {c0 : Hp} {n : Nat} (hw : e_wf (kM o) n) {v_thrown : Int32} {a_refusals : Nat → Int32} {a_row : Nat → Int32} {a_images : Nat → Int32} {a_isKept : Nat → Int32} {a_tape : Nat → Int32} {v_taped : Int32} {v_from : Int32} {v_to : Int32} {v_sort : Int32} {v_worth : Int64} {v_fault : Int32} {v_bad : Int32} {v_nClauses : Int32} {a_nClause : Nat → Int32} {v_nCode : Int32} {a_nOp : Nat → Int32} {a_nArg : Nat → Int32} {v_nLeaves : Int32} {a_pile : Nat → Int32} {a_pileAt : Nat → Int32} {v_piled : Int32} {v_opened : Int32} {a_words : Nat → Int64} {a_headWords : Nat → Int64} {v_law : Int32} {a_set : Nat → Int64} {a_rest : Nat → Int64} {v_broken : Int32} {v_value : Int64} {v_sum : Int64} {a_chances : Nat → Int32} {a_votes : Nat → Int64} {a_costs : Nat → Int32} {a_table : Nat → Int64} {a_prices : Nat → Int32} {v_surely : Int64} {a_mostBy : Nat → Int64} {a_leastBy : Nat → Int64} {v_between : Int64} {v_steadyWays : Int32} {v_quashed : Int32} {v_but : Int32} {a_figures : Nat → Int32} {a_all : Nat → Int32} {a_lies : Nat → Int32} {a_since : Nat → Int32} {v_last : Int32} {v_state : Int64} {v_status : Int32} {x1 : Int32} {R : Int32 × Int32} (hf : fX12_was v_status x1 = some R) : e_C G b yX12_was cX12_was 2 (some .int) 0 0 0 [.ref (b + o), .int x1] (e_ov (kM o) (wM G b o v_thrown v_status a_refusals a_row a_images a_isKept a_tape v_taped v_from v_to v_sort v_worth v_fault v_bad v_nClauses a_nClause v_nCode a_nOp a_nArg v_nLeaves a_pile a_pileAt v_piled v_opened a_words a_headWords v_law a_set a_rest v_broken v_value v_sum a_chances a_votes a_costs a_table a_prices v_surely a_mostBy a_leastBy v_between v_steadyWays v_quashed v_but a_figures a_all a_lies a_since v_last v_state) c0) n (pD (some (.int R.1)) (e_ov (kM o) (wM G b o v_thrown R.2 a_refusals a_row a_images a_isKept a_tape v_taped v_from v_to v_sort v_worth v_fault v_bad v_nClauses a_nClause v_nCode a_nOp a_nArg v_nLeaves a_pile a_pileAt v_piled v_opened a_words a_headWords v_law a_set a_rest v_broken v_value v_sum a_chances a_votes a_costs a_table a_prices v_surely a_mostBy a_leastBy v_between v_steadyWays v_quashed v_but a_figures a_all a_lies a_since v_last v_state) c0) n) := e_C.of (by decide) (Nat.le_of_ble_eq_true rfl) (tX12_was hw hf)
def fX12_change (v_status : Int32) (a_row : Nat → Int32) (x1 : Int32) (x2 : Int32) : Option (Int32 × Int32 × (Nat → Int32)) := gd x1 5570 (gd x1 5570 ((fX12_was v_status (a_row (x1 : Int32).toNatClampNeg)).bind fun r3 => (some (r3.1, r3.2, (va_up a_row (x1 : Int32).toNatClampNeg x2)))))
set_option maxHeartbeats 4000000 in
set_option maxRecDepth 100000 in
theorem tX12_change {G : GT} {b : Nat} {o : Nat} {c0 : Hp} {n : Nat} (hw : e_wf (kM o) n) {v_thrown : Int32} {a_refusals : Nat → Int32} {a_images : Nat → Int32} {a_isKept : Nat → Int32} {a_tape : Nat → Int32} {v_taped : Int32} {v_from : Int32} {v_to : Int32} {v_sort : Int32} {v_worth : Int64} {v_fault : Int32} {v_bad : Int32} {v_nClauses : Int32} {a_nClause : Nat → Int32} {v_nCode : Int32} {a_nOp : Nat → Int32} {a_nArg : Nat → Int32} {v_nLeaves : Int32} {a_pile : Nat → Int32} {a_pileAt : Nat → Int32} {v_piled : Int32} {v_opened : Int32} {a_words : Nat → Int64} {a_headWords : Nat → Int64} {v_law : Int32} {a_set : Nat → Int64} {a_rest : Nat → Int64} {v_broken : Int32} {v_value : Int64} {v_sum : Int64} {a_chances : Nat → Int32} {a_votes : Nat → Int64} {a_costs : Nat → Int32} {a_table : Nat → Int64} {a_prices : Nat → Int32} {v_surely : Int64} {a_mostBy : Nat → Int64} {a_leastBy : Nat → Int64} {v_between : Int64} {v_steadyWays : Int32} {v_quashed : Int32} {v_but : Int32} {a_figures : Nat → Int32} {a_all : Nat → Int32} {a_lies : Nat → Int32} {a_since : Nat → Int32} {v_last : Int32} {v_state : Int64} {v_status : Int32} {a_row : Nat → Int32} {x1 : Int32} {x2 : Int32} {R : Int32 × Int32 × (Nat → Int32)} (hf : fX12_change v_status a_row x1 x2 = some R) : E G b yX12_change cX12_change 4 (some .int) (e_rm 1 0 0) e_X0 (e_Z G b (pD (some (.int R.1)) (e_ov (kM o) (wM G b o v_thrown R.2.1 a_refusals R.2.2 a_images a_isKept a_tape v_taped v_from v_to v_sort v_worth v_fault v_bad v_nClauses a_nClause v_nCode a_nOp a_nArg v_nLeaves a_pile a_pileAt v_piled v_opened a_words a_headWords v_law a_set a_rest v_broken v_value v_sum a_chances a_votes a_costs a_table a_prices v_surely a_mostBy a_leastBy v_between v_steadyWays v_quashed v_but a_figures a_all a_lies a_since v_last v_state) c0) n) 0 0) 0 [(0, .ref (b + o)), (1, .int x1), (2, .int x2)] [] (e_ov (kM o) (wM G b o v_thrown v_status a_refusals a_row a_images a_isKept a_tape v_taped v_from v_to v_sort v_worth v_fault v_bad v_nClauses a_nClause v_nCode a_nOp a_nArg v_nLeaves a_pile a_pileAt v_piled v_opened a_words a_headWords v_law a_set a_rest v_broken v_value v_sum a_chances a_votes a_costs a_table a_prices v_surely a_mostBy a_leastBy v_between v_steadyWays v_quashed v_but a_figures a_all a_lies a_since v_last v_state) c0) n 0 0 := by
  unfold fX12_change at hf
  refine E.aload_n 0 dX12_change_0 rfl ?_
  refine E.get hw 0 o dX12_change_1 flX12_13 rfl rfl rfl rfl ?_
  refine E.iload_n 1 dX12_change_4 rfl ?_
  obtain ⟨g1, hf⟩ := gd_some hf
  refine E.iald hw 2 (o + 2) dX12_change_5 rfl rfl g1 ?_
  refine E.istore_n (lv' := [(3, .int (a_row (x1 : Int32).toNatClampNeg)), (0, .ref (b + o)), (1, .int x1), (2, .int x2)]) dX12_change_6 (by decide) rfl ?_
  refine E.aload_n 1 dX12_change_7 rfl ?_
  refine E.get hw 0 o dX12_change_8 flX12_13 rfl rfl rfl rfl ?_
  refine E.iload_n 2 dX12_change_11 rfl ?_
  refine E.iload_n 3 dX12_change_12 rfl ?_
  obtain ⟨g2, hf⟩ := gd_some hf
  refine E.iast (es' := (wM G b o v_thrown v_status a_refusals (va_up a_row (x1 : Int32).toNatClampNeg x2) a_images a_isKept a_tape v_taped v_from v_to v_sort v_worth v_fault v_bad v_nClauses a_nClause v_nCode a_nOp a_nArg v_nLeaves a_pile a_pileAt v_piled v_opened a_words a_headWords v_law a_set a_rest v_broken v_value v_sum a_chances a_votes a_costs a_table a_prices v_surely a_mostBy a_leastBy v_between v_steadyWays v_quashed v_but a_figures a_all a_lies a_since v_last v_state)) hw 2 (o + 2) dX12_change_13 rfl rfl g2 rfl ?_
  refine E.aload_n 1 dX12_change_14 rfl ?_
  refine E.iload_n 0 dX12_change_15 rfl ?_
  obtain ⟨r3, hc3, hf⟩ := e_bind hf
  refine E.callVD [] dX12_change_16 mlX12_130 ⟨hw.sub (p := 0) rfl, e_ov_get hw.1 (p := 0) rfl rfl⟩ rfl rfl (mX12_was hw hc3) ⟨Nat.le_of_ble_eq_true rfl, Nat.le_of_ble_eq_true rfl⟩ rfl rfl (Nat.le_of_ble_eq_true rfl) ⟨Nat.le_refl _, Nat.le_refl _⟩ rfl ?_
  cases hf
  exact E.iret dX12_change_19 (Nat.le_refl _) (Nat.le_refl _) (pD_rf _ _ _)
set_option maxRecDepth 100000 in
theorem mX12_change {G : GT} {b : Nat} {o : Nat} {c0 : Hp} {n : Nat} (hw : e_wf (kM o) n) {v_thrown : Int32} {a_refusals : Nat → Int32} {a_images : Nat → Int32} {a_isKept : Nat → Int32} {a_tape : Nat → Int32} {v_taped : Int32} {v_from : Int32} {v_to : Int32} {v_sort : Int32} {v_worth : Int64} {v_fault : Int32} {v_bad : Int32} {v_nClauses : Int32} {a_nClause : Nat → Int32} {v_nCode : Int32} {a_nOp : Nat → Int32} {a_nArg : Nat → Int32} {v_nLeaves : Int32} {a_pile : Nat → Int32} {a_pileAt : Nat → Int32} {v_piled : Int32} {v_opened : Int32} {a_words : Nat → Int64} {a_headWords : Nat → Int64} {v_law : Int32} {a_set : Nat → Int64} {a_rest : Nat → Int64} {v_broken : Int32} {v_value : Int64} {v_sum : Int64} {a_chances : Nat → Int32} {a_votes : Nat → Int64} {a_costs : Nat → Int32} {a_table : Nat → Int64} {a_prices : Nat → Int32} {v_surely : Int64} {a_mostBy : Nat → Int64} {a_leastBy : Nat → Int64} {v_between : Int64} {v_steadyWays : Int32} {v_quashed : Int32} {v_but : Int32} {a_figures : Nat → Int32} {a_all : Nat → Int32} {a_lies : Nat → Int32} {a_since : Nat → Int32} {v_last : Int32} {v_state : Int64} {v_status : Int32} {a_row : Nat → Int32} {x1 : Int32} {x2 : Int32} {R : Int32 × Int32 × (Nat → Int32)} (hf : fX12_change v_status a_row x1 x2 = some R) : e_C G b yX12_change cX12_change 4 (some .int) 1 0 0 [.ref (b + o), .int x1, .int x2] (e_ov (kM o) (wM G b o v_thrown v_status a_refusals a_row a_images a_isKept a_tape v_taped v_from v_to v_sort v_worth v_fault v_bad v_nClauses a_nClause v_nCode a_nOp a_nArg v_nLeaves a_pile a_pileAt v_piled v_opened a_words a_headWords v_law a_set a_rest v_broken v_value v_sum a_chances a_votes a_costs a_table a_prices v_surely a_mostBy a_leastBy v_between v_steadyWays v_quashed v_but a_figures a_all a_lies a_since v_last v_state) c0) n (pD (some (.int R.1)) (e_ov (kM o) (wM G b o v_thrown R.2.1 a_refusals R.2.2 a_images a_isKept a_tape v_taped v_from v_to v_sort v_worth v_fault v_bad v_nClauses a_nClause v_nCode a_nOp a_nArg v_nLeaves a_pile a_pileAt v_piled v_opened a_words a_headWords v_law a_set a_rest v_broken v_value v_sum a_chances a_votes a_costs a_table a_prices v_surely a_mostBy a_leastBy v_between v_steadyWays v_quashed v_but a_figures a_all a_lies a_since v_last v_state) c0) n) := e_C.of (by decide) (Nat.le_of_ble_eq_true rfl) (tX12_change hw hf)
def fX12_image_L23 (Fu : Nat) : Nat → Int32 → Int32 → (Nat → Int32) → (Nat → Int32) → (Nat → Int32) → (Nat → Int32) → Int32 → Int32 → Option (Int32 × Int32 × Int32 × (Nat → Int32) × (Nat → Int32) × (Nat → Int32))
  | 0, _, _, _, _, _, _, _, _ => none
  | k + 1, v_thrown, v_status, a_refusals, a_row, a_images, a_isKept, x1, x2 => if (5570 : Int32) ≤ (x2 : Int32) then (gd x1 2 ((fX12_tell v_status a_refusals 0).bind fun r4 => (some (r4.1, v_thrown, r4.2.1, r4.2.2, a_images, (va_up a_isKept (x1 : Int32).toNatClampNeg (vp_nar .boolean 1)))))) else (gd x2 5570 (gd ((5570 * x1) + x2) 11140 ((fX12_image_L23 Fu k) v_thrown v_status a_refusals a_row (va_up a_images (((5570 * x1) + x2) : Int32).toNatClampNeg (a_row (x2 : Int32).toNatClampNeg)) a_isKept x1 (x2 + 1))))
set_option maxHeartbeats 4000000 in
set_option maxRecDepth 100000 in
theorem tX12_image_L23 {G : GT} {b : Nat} {o : Nat} {c0 : Hp} {n : Nat} (hw : e_wf (kM o) n) {a_tape : Nat → Int32} {v_taped : Int32} {v_from : Int32} {v_to : Int32} {v_sort : Int32} {v_worth : Int64} {v_fault : Int32} {v_bad : Int32} {v_nClauses : Int32} {a_nClause : Nat → Int32} {v_nCode : Int32} {a_nOp : Nat → Int32} {a_nArg : Nat → Int32} {v_nLeaves : Int32} {a_pile : Nat → Int32} {a_pileAt : Nat → Int32} {v_piled : Int32} {v_opened : Int32} {a_words : Nat → Int64} {a_headWords : Nat → Int64} {v_law : Int32} {a_set : Nat → Int64} {a_rest : Nat → Int64} {v_broken : Int32} {v_value : Int64} {v_sum : Int64} {a_chances : Nat → Int32} {a_votes : Nat → Int64} {a_costs : Nat → Int32} {a_table : Nat → Int64} {a_prices : Nat → Int32} {v_surely : Int64} {a_mostBy : Nat → Int64} {a_leastBy : Nat → Int64} {v_between : Int64} {v_steadyWays : Int32} {v_quashed : Int32} {v_but : Int32} {a_figures : Nat → Int32} {a_all : Nat → Int32} {a_lies : Nat → Int32} {a_since : Nat → Int32} {v_last : Int32} {v_state : Int64} {Fu : Nat} : ∀ (k : Nat) {v_thrown : Int32} {v_status : Int32} {a_refusals : Nat → Int32} {a_row : Nat → Int32} {a_images : Nat → Int32} {a_isKept : Nat → Int32} {x1 : Int32} {x2 : Int32} {R : Int32 × Int32 × Int32 × (Nat → Int32) × (Nat → Int32) × (Nat → Int32)}, fX12_image_L23 Fu k v_thrown v_status a_refusals a_row a_images a_isKept x1 x2 = some R → E G b yX12_image cX12_image 3 (some .int) (e_rm 1 0 0) e_X0 (e_Z G b (pD (some (.int R.1)) (e_ov (kM o) (wM G b o R.2.1 R.2.2.1 R.2.2.2.1 a_row R.2.2.2.2.1 R.2.2.2.2.2 a_tape v_taped v_from v_to v_sort v_worth v_fault v_bad v_nClauses a_nClause v_nCode a_nOp a_nArg v_nLeaves a_pile a_pileAt v_piled v_opened a_words a_headWords v_law a_set a_rest v_broken v_value v_sum a_chances a_votes a_costs a_table a_prices v_surely a_mostBy a_leastBy v_between v_steadyWays v_quashed v_but a_figures a_all a_lies a_since v_last v_state) c0) n) 0 0) 23 [(0, .ref (b + o)), (1, .int x1), (2, .int x2)] [] (e_ov (kM o) (wM G b o v_thrown v_status a_refusals a_row a_images a_isKept a_tape v_taped v_from v_to v_sort v_worth v_fault v_bad v_nClauses a_nClause v_nCode a_nOp a_nArg v_nLeaves a_pile a_pileAt v_piled v_opened a_words a_headWords v_law a_set a_rest v_broken v_value v_sum a_chances a_votes a_costs a_table a_prices v_surely a_mostBy a_leastBy v_between v_steadyWays v_quashed v_but a_figures a_all a_lies a_since v_last v_state) c0) n 0 0 := by
  intro k
  induction k with
  | zero =>
    intro _ _ _ _ _ _ _ _ _ hf
    have hf : (none : Option (Int32 × Int32 × Int32 × (Nat → Int32) × (Nat → Int32) × (Nat → Int32))) = some _ := hf
    cases hf
  | succ k ih =>
    intro v_thrown v_status a_refusals a_row a_images a_isKept x1 x2 R hf
    rw [fX12_image_L23] at hf
    refine E.iload_n 2 dX12_image_23 rfl ?_
    refine E.sipush (v := 5570) dX12_image_24 (by decide) ?_
    refine E.icmp_ge dX12_image_27 (fun h => ?_) (fun h => ?_)
    · have hf := e_ift hf h
      refine E.aload_n 0 dX12_image_54 rfl ?_
      refine E.get hw 0 o dX12_image_55 flX12_19 rfl rfl rfl rfl ?_
      refine E.iload_n 1 dX12_image_58 rfl ?_
      refine E.iconst (v := 1) dX12_image_59 (by decide) ?_
      obtain ⟨g3, hf⟩ := gd_some hf
      refine E.zast (es' := (wM G b o v_thrown v_status a_refusals a_row a_images (va_up a_isKept (x1 : Int32).toNatClampNeg (vp_nar .boolean 1)) a_tape v_taped v_from v_to v_sort v_worth v_fault v_bad v_nClauses a_nClause v_nCode a_nOp a_nArg v_nLeaves a_pile a_pileAt v_piled v_opened a_words a_headWords v_law a_set a_rest v_broken v_value v_sum a_chances a_votes a_costs a_table a_prices v_surely a_mostBy a_leastBy v_between v_steadyWays v_quashed v_but a_figures a_all a_lies a_since v_last v_state)) hw 4 (o + 4) dX12_image_60 rfl rfl g3 rfl ?_
      refine E.aload_n 0 dX12_image_61 rfl ?_
      refine E.iconst (v := 0) dX12_image_62 (by decide) ?_
      obtain ⟨r4, hc4, hf⟩ := e_bind hf
      refine E.callVD [] dX12_image_63 mlX12_138 ⟨hw.sub (p := 0) rfl, e_ov_get hw.1 (p := 0) rfl rfl⟩ rfl rfl (mX12_tell hw hc4) ⟨Nat.le_of_ble_eq_true rfl, Nat.le_of_ble_eq_true rfl⟩ rfl rfl (Nat.le_of_ble_eq_true rfl) ⟨Nat.le_refl _, Nat.le_refl _⟩ rfl ?_
      cases hf
      exact E.iret dX12_image_66 (Nat.le_refl _) (Nat.le_refl _) (pD_rf _ _ _)
    · have hf := e_iff hf h
      refine E.aload_n 0 dX12_image_30 rfl ?_
      refine E.get hw 0 o dX12_image_31 flX12_16 rfl rfl rfl rfl ?_
      refine E.sipush (v := 5570) dX12_image_34 (by decide) ?_
      refine E.iload_n 1 dX12_image_37 rfl ?_
      refine E.imul dX12_image_38 ?_
      refine E.iload_n 2 dX12_image_39 rfl ?_
      refine E.iadd dX12_image_40 ?_
      refine E.aload_n 0 dX12_image_41 rfl ?_
      refine E.get hw 0 o dX12_image_42 flX12_13 rfl rfl rfl rfl ?_
      refine E.iload_n 2 dX12_image_45 rfl ?_
      obtain ⟨g5, hf⟩ := gd_some hf
      refine E.iald hw 2 (o + 2) dX12_image_46 rfl rfl g5 ?_
      obtain ⟨g6, hf⟩ := gd_some hf
      refine E.iast (es' := (wM G b o v_thrown v_status a_refusals a_row (va_up a_images (((5570 * x1) + x2) : Int32).toNatClampNeg (a_row (x2 : Int32).toNatClampNeg)) a_isKept a_tape v_taped v_from v_to v_sort v_worth v_fault v_bad v_nClauses a_nClause v_nCode a_nOp a_nArg v_nLeaves a_pile a_pileAt v_piled v_opened a_words a_headWords v_law a_set a_rest v_broken v_value v_sum a_chances a_votes a_costs a_table a_prices v_surely a_mostBy a_leastBy v_between v_steadyWays v_quashed v_but a_figures a_all a_lies a_since v_last v_state)) hw 3 (o + 3) dX12_image_47 rfl rfl g6 rfl ?_
      refine E.iinc (q := 2) (v := (x2 + 1)) (lv' := [(2, .int (x2 + 1)), (0, .ref (b + o)), (1, .int x1)]) dX12_image_48 rfl rfl (by decide) rfl ?_
      refine E.goto dX12_image_51 ?_
      refine E.locals [1, 2, 0] rfl ?_
      exact ih hf
def fX12_image (Fu : Nat) (v_thrown : Int32) (v_status : Int32) (a_refusals : Nat → Int32) (a_row : Nat → Int32) (a_images : Nat → Int32) (a_isKept : Nat → Int32) (x1 : Int32) : Option (Int32 × Int32 × Int32 × (Nat → Int32) × (Nat → Int32) × (Nat → Int32)) := (fX12_in ((x1 : Int32).toInt64) 0 1).bind fun r1 => (if (r1 : Int32) = 0 then ((fX12_tell v_status a_refusals (-1 : Int32)).bind fun r2 => (some (r2.1, 0, r2.2.1, r2.2.2, a_images, a_isKept))) else (fX12_image_L23 Fu Fu 0 v_status a_refusals a_row a_images a_isKept x1 0))
set_option maxHeartbeats 4000000 in
set_option maxRecDepth 100000 in
theorem tX12_image {G : GT} {b : Nat} {o : Nat} {c0 : Hp} {n : Nat} (hw : e_wf (kM o) n) {a_tape : Nat → Int32} {v_taped : Int32} {v_from : Int32} {v_to : Int32} {v_sort : Int32} {v_worth : Int64} {v_fault : Int32} {v_bad : Int32} {v_nClauses : Int32} {a_nClause : Nat → Int32} {v_nCode : Int32} {a_nOp : Nat → Int32} {a_nArg : Nat → Int32} {v_nLeaves : Int32} {a_pile : Nat → Int32} {a_pileAt : Nat → Int32} {v_piled : Int32} {v_opened : Int32} {a_words : Nat → Int64} {a_headWords : Nat → Int64} {v_law : Int32} {a_set : Nat → Int64} {a_rest : Nat → Int64} {v_broken : Int32} {v_value : Int64} {v_sum : Int64} {a_chances : Nat → Int32} {a_votes : Nat → Int64} {a_costs : Nat → Int32} {a_table : Nat → Int64} {a_prices : Nat → Int32} {v_surely : Int64} {a_mostBy : Nat → Int64} {a_leastBy : Nat → Int64} {v_between : Int64} {v_steadyWays : Int32} {v_quashed : Int32} {v_but : Int32} {a_figures : Nat → Int32} {a_all : Nat → Int32} {a_lies : Nat → Int32} {a_since : Nat → Int32} {v_last : Int32} {v_state : Int64} {Fu : Nat} {v_thrown : Int32} {v_status : Int32} {a_refusals : Nat → Int32} {a_row : Nat → Int32} {a_images : Nat → Int32} {a_isKept : Nat → Int32} {x1 : Int32} {R : Int32 × Int32 × Int32 × (Nat → Int32) × (Nat → Int32) × (Nat → Int32)} (hf : fX12_image Fu v_thrown v_status a_refusals a_row a_images a_isKept x1 = some R) : E G b yX12_image cX12_image 3 (some .int) (e_rm 1 0 0) e_X0 (e_Z G b (pD (some (.int R.1)) (e_ov (kM o) (wM G b o R.2.1 R.2.2.1 R.2.2.2.1 a_row R.2.2.2.2.1 R.2.2.2.2.2 a_tape v_taped v_from v_to v_sort v_worth v_fault v_bad v_nClauses a_nClause v_nCode a_nOp a_nArg v_nLeaves a_pile a_pileAt v_piled v_opened a_words a_headWords v_law a_set a_rest v_broken v_value v_sum a_chances a_votes a_costs a_table a_prices v_surely a_mostBy a_leastBy v_between v_steadyWays v_quashed v_but a_figures a_all a_lies a_since v_last v_state) c0) n) 0 0) 0 [(0, .ref (b + o)), (1, .int x1)] [] (e_ov (kM o) (wM G b o v_thrown v_status a_refusals a_row a_images a_isKept a_tape v_taped v_from v_to v_sort v_worth v_fault v_bad v_nClauses a_nClause v_nCode a_nOp a_nArg v_nLeaves a_pile a_pileAt v_piled v_opened a_words a_headWords v_law a_set a_rest v_broken v_value v_sum a_chances a_votes a_costs a_table a_prices v_surely a_mostBy a_leastBy v_between v_steadyWays v_quashed v_but a_figures a_all a_lies a_since v_last v_state) c0) n 0 0 := by
  unfold fX12_image at hf
  refine E.aload_n 0 dX12_image_0 rfl ?_
  refine E.iconst (v := 0) dX12_image_1 (by decide) ?_
  refine E.put (es' := (wM G b o 0 v_status a_refusals a_row a_images a_isKept a_tape v_taped v_from v_to v_sort v_worth v_fault v_bad v_nClauses a_nClause v_nCode a_nOp a_nArg v_nLeaves a_pile a_pileAt v_piled v_opened a_words a_headWords v_law a_set a_rest v_broken v_value v_sum a_chances a_votes a_costs a_table a_prices v_surely a_mostBy a_leastBy v_between v_steadyWays v_quashed v_but a_figures a_all a_lies a_since v_last v_state)) hw 0 o dX12_image_2 flX12_124 ftX12 rfl rfl rfl rfl rfl rfl (Nat.le_of_ble_eq_true rfl) rfl ?_
  refine E.iload_n 1 dX12_image_5 rfl ?_
  refine E.i2l dX12_image_6 ?_
  refine E.lconst (v := 0) dX12_image_7 (by decide) ?_
  refine E.lconst (v := 1) dX12_image_8 (by decide) ?_
  obtain ⟨r1, hc1, hf⟩ := e_bind hf
  refine E.callSD [] dX12_image_9 mlX12_134 (mX12_in hc1) ⟨Nat.le_of_ble_eq_true rfl, Nat.le_of_ble_eq_true rfl⟩ rfl rfl (Nat.le_of_ble_eq_true rfl) ⟨Nat.le_refl _, Nat.le_refl _⟩ rfl ?_
  refine E.if_ne dX12_image_12 (fun h => ?_) (fun h => ?_)
  · have hf := e_iff hf h
    refine E.iconst (v := 0) dX12_image_21 (by decide) ?_
    refine E.istore_n (lv' := [(2, .int 0), (0, .ref (b + o)), (1, .int x1)]) dX12_image_22 (by decide) rfl ?_
    refine E.locals [1, 2, 0] rfl ?_
    exact tX12_image_L23 hw _ hf
  · have hf := e_ift hf h
    refine E.aload_n 0 dX12_image_15 rfl ?_
    refine E.iconst (v := -1) dX12_image_16 (by decide) ?_
    obtain ⟨r2, hc2, hf⟩ := e_bind hf
    refine E.callVD [] dX12_image_17 mlX12_138 ⟨hw.sub (p := 0) rfl, e_ov_get hw.1 (p := 0) rfl rfl⟩ rfl rfl (mX12_tell hw hc2) ⟨Nat.le_of_ble_eq_true rfl, Nat.le_of_ble_eq_true rfl⟩ rfl rfl (Nat.le_of_ble_eq_true rfl) ⟨Nat.le_refl _, Nat.le_refl _⟩ rfl ?_
    cases hf
    exact E.iret dX12_image_20 (Nat.le_refl _) (Nat.le_refl _) (pD_rf _ _ _)
set_option maxRecDepth 100000 in
theorem mX12_image {G : GT} {b : Nat} {o : Nat} {c0 : Hp} {n : Nat} (hw : e_wf (kM o) n) {a_tape : Nat → Int32} {v_taped : Int32} {v_from : Int32} {v_to : Int32} {v_sort : Int32} {v_worth : Int64} {v_fault : Int32} {v_bad : Int32} {v_nClauses : Int32} {a_nClause : Nat → Int32} {v_nCode : Int32} {a_nOp : Nat → Int32} {a_nArg : Nat → Int32} {v_nLeaves : Int32} {a_pile : Nat → Int32} {a_pileAt : Nat → Int32} {v_piled : Int32} {v_opened : Int32} {a_words : Nat → Int64} {a_headWords : Nat → Int64} {v_law : Int32} {a_set : Nat → Int64} {a_rest : Nat → Int64} {v_broken : Int32} {v_value : Int64} {v_sum : Int64} {a_chances : Nat → Int32} {a_votes : Nat → Int64} {a_costs : Nat → Int32} {a_table : Nat → Int64} {a_prices : Nat → Int32} {v_surely : Int64} {a_mostBy : Nat → Int64} {a_leastBy : Nat → Int64} {v_between : Int64} {v_steadyWays : Int32} {v_quashed : Int32} {v_but : Int32} {a_figures : Nat → Int32} {a_all : Nat → Int32} {a_lies : Nat → Int32} {a_since : Nat → Int32} {v_last : Int32} {v_state : Int64} {Fu : Nat} {v_thrown : Int32} {v_status : Int32} {a_refusals : Nat → Int32} {a_row : Nat → Int32} {a_images : Nat → Int32} {a_isKept : Nat → Int32} {x1 : Int32} {R : Int32 × Int32 × Int32 × (Nat → Int32) × (Nat → Int32) × (Nat → Int32)} (hf : fX12_image Fu v_thrown v_status a_refusals a_row a_images a_isKept x1 = some R) : e_C G b yX12_image cX12_image 3 (some .int) 1 0 0 [.ref (b + o), .int x1] (e_ov (kM o) (wM G b o v_thrown v_status a_refusals a_row a_images a_isKept a_tape v_taped v_from v_to v_sort v_worth v_fault v_bad v_nClauses a_nClause v_nCode a_nOp a_nArg v_nLeaves a_pile a_pileAt v_piled v_opened a_words a_headWords v_law a_set a_rest v_broken v_value v_sum a_chances a_votes a_costs a_table a_prices v_surely a_mostBy a_leastBy v_between v_steadyWays v_quashed v_but a_figures a_all a_lies a_since v_last v_state) c0) n (pD (some (.int R.1)) (e_ov (kM o) (wM G b o R.2.1 R.2.2.1 R.2.2.2.1 a_row R.2.2.2.2.1 R.2.2.2.2.2 a_tape v_taped v_from v_to v_sort v_worth v_fault v_bad v_nClauses a_nClause v_nCode a_nOp a_nArg v_nLeaves a_pile a_pileAt v_piled v_opened a_words a_headWords v_law a_set a_rest v_broken v_value v_sum a_chances a_votes a_costs a_table a_prices v_surely a_mostBy a_leastBy v_between v_steadyWays v_quashed v_but a_figures a_all a_lies a_since v_last v_state) c0) n) := e_C.of (by decide) (Nat.le_of_ble_eq_true rfl) (tX12_image hw hf)
def fX12_back_L39 (Fu : Nat) : Nat → Int32 → Int32 → (Nat → Int32) → (Nat → Int32) → (Nat → Int32) → (Nat → Int32) → Int32 → Int32 → Option (Int32 × Int32 × Int32 × (Nat → Int32) × (Nat → Int32))
  | 0, _, _, _, _, _, _, _, _ => none
  | k + 1, v_thrown, v_status, a_refusals, a_row, a_images, a_isKept, x1, x2 => if (5570 : Int32) ≤ (x2 : Int32) then ((fX12_tell v_status a_refusals 0).bind fun r5 => (some (r5.1, v_thrown, r5.2.1, r5.2.2, a_row))) else (gd ((5570 * x1) + x2) 11140 (gd x2 5570 ((fX12_back_L39 Fu k) v_thrown v_status a_refusals (va_up a_row (x2 : Int32).toNatClampNeg (a_images (((5570 * x1) + x2) : Int32).toNatClampNeg)) a_images a_isKept x1 (x2 + 1))))
set_option maxHeartbeats 4000000 in
set_option maxRecDepth 100000 in
theorem tX12_back_L39 {G : GT} {b : Nat} {o : Nat} {c0 : Hp} {n : Nat} (hw : e_wf (kM o) n) {a_tape : Nat → Int32} {v_taped : Int32} {v_from : Int32} {v_to : Int32} {v_sort : Int32} {v_worth : Int64} {v_fault : Int32} {v_bad : Int32} {v_nClauses : Int32} {a_nClause : Nat → Int32} {v_nCode : Int32} {a_nOp : Nat → Int32} {a_nArg : Nat → Int32} {v_nLeaves : Int32} {a_pile : Nat → Int32} {a_pileAt : Nat → Int32} {v_piled : Int32} {v_opened : Int32} {a_words : Nat → Int64} {a_headWords : Nat → Int64} {v_law : Int32} {a_set : Nat → Int64} {a_rest : Nat → Int64} {v_broken : Int32} {v_value : Int64} {v_sum : Int64} {a_chances : Nat → Int32} {a_votes : Nat → Int64} {a_costs : Nat → Int32} {a_table : Nat → Int64} {a_prices : Nat → Int32} {v_surely : Int64} {a_mostBy : Nat → Int64} {a_leastBy : Nat → Int64} {v_between : Int64} {v_steadyWays : Int32} {v_quashed : Int32} {v_but : Int32} {a_figures : Nat → Int32} {a_all : Nat → Int32} {a_lies : Nat → Int32} {a_since : Nat → Int32} {v_last : Int32} {v_state : Int64} {Fu : Nat} : ∀ (k : Nat) {v_thrown : Int32} {v_status : Int32} {a_refusals : Nat → Int32} {a_row : Nat → Int32} {a_images : Nat → Int32} {a_isKept : Nat → Int32} {x1 : Int32} {x2 : Int32} {R : Int32 × Int32 × Int32 × (Nat → Int32) × (Nat → Int32)}, fX12_back_L39 Fu k v_thrown v_status a_refusals a_row a_images a_isKept x1 x2 = some R → E G b yX12_back cX12_back 3 (some .int) (e_rm 1 0 0) e_X0 (e_Z G b (pD (some (.int R.1)) (e_ov (kM o) (wM G b o R.2.1 R.2.2.1 R.2.2.2.1 R.2.2.2.2 a_images a_isKept a_tape v_taped v_from v_to v_sort v_worth v_fault v_bad v_nClauses a_nClause v_nCode a_nOp a_nArg v_nLeaves a_pile a_pileAt v_piled v_opened a_words a_headWords v_law a_set a_rest v_broken v_value v_sum a_chances a_votes a_costs a_table a_prices v_surely a_mostBy a_leastBy v_between v_steadyWays v_quashed v_but a_figures a_all a_lies a_since v_last v_state) c0) n) 0 0) 39 [(0, .ref (b + o)), (1, .int x1), (2, .int x2)] [] (e_ov (kM o) (wM G b o v_thrown v_status a_refusals a_row a_images a_isKept a_tape v_taped v_from v_to v_sort v_worth v_fault v_bad v_nClauses a_nClause v_nCode a_nOp a_nArg v_nLeaves a_pile a_pileAt v_piled v_opened a_words a_headWords v_law a_set a_rest v_broken v_value v_sum a_chances a_votes a_costs a_table a_prices v_surely a_mostBy a_leastBy v_between v_steadyWays v_quashed v_but a_figures a_all a_lies a_since v_last v_state) c0) n 0 0 := by
  intro k
  induction k with
  | zero =>
    intro _ _ _ _ _ _ _ _ _ hf
    have hf : (none : Option (Int32 × Int32 × Int32 × (Nat → Int32) × (Nat → Int32))) = some _ := hf
    cases hf
  | succ k ih =>
    intro v_thrown v_status a_refusals a_row a_images a_isKept x1 x2 R hf
    rw [fX12_back_L39] at hf
    refine E.iload_n 2 dX12_back_39 rfl ?_
    refine E.sipush (v := 5570) dX12_back_40 (by decide) ?_
    refine E.icmp_ge dX12_back_43 (fun h => ?_) (fun h => ?_)
    · have hf := e_ift hf h
      refine E.aload_n 0 dX12_back_70 rfl ?_
      refine E.iconst (v := 0) dX12_back_71 (by decide) ?_
      obtain ⟨r5, hc5, hf⟩ := e_bind hf
      refine E.callVD [] dX12_back_72 mlX12_138 ⟨hw.sub (p := 0) rfl, e_ov_get hw.1 (p := 0) rfl rfl⟩ rfl rfl (mX12_tell hw hc5) ⟨Nat.le_of_ble_eq_true rfl, Nat.le_of_ble_eq_true rfl⟩ rfl rfl (Nat.le_of_ble_eq_true rfl) ⟨Nat.le_refl _, Nat.le_refl _⟩ rfl ?_
      cases hf
      exact E.iret dX12_back_75 (Nat.le_refl _) (Nat.le_refl _) (pD_rf _ _ _)
    · have hf := e_iff hf h
      refine E.aload_n 0 dX12_back_46 rfl ?_
      refine E.get hw 0 o dX12_back_47 flX12_13 rfl rfl rfl rfl ?_
      refine E.iload_n 2 dX12_back_50 rfl ?_
      refine E.aload_n 0 dX12_back_51 rfl ?_
      refine E.get hw 0 o dX12_back_52 flX12_16 rfl rfl rfl rfl ?_
      refine E.sipush (v := 5570) dX12_back_55 (by decide) ?_
      refine E.iload_n 1 dX12_back_58 rfl ?_
      refine E.imul dX12_back_59 ?_
      refine E.iload_n 2 dX12_back_60 rfl ?_
      refine E.iadd dX12_back_61 ?_
      obtain ⟨g6, hf⟩ := gd_some hf
      refine E.iald hw 3 (o + 3) dX12_back_62 rfl rfl g6 ?_
      obtain ⟨g7, hf⟩ := gd_some hf
      refine E.iast (es' := (wM G b o v_thrown v_status a_refusals (va_up a_row (x2 : Int32).toNatClampNeg (a_images (((5570 * x1) + x2) : Int32).toNatClampNeg)) a_images a_isKept a_tape v_taped v_from v_to v_sort v_worth v_fault v_bad v_nClauses a_nClause v_nCode a_nOp a_nArg v_nLeaves a_pile a_pileAt v_piled v_opened a_words a_headWords v_law a_set a_rest v_broken v_value v_sum a_chances a_votes a_costs a_table a_prices v_surely a_mostBy a_leastBy v_between v_steadyWays v_quashed v_but a_figures a_all a_lies a_since v_last v_state)) hw 2 (o + 2) dX12_back_63 rfl rfl g7 rfl ?_
      refine E.iinc (q := 2) (v := (x2 + 1)) (lv' := [(2, .int (x2 + 1)), (0, .ref (b + o)), (1, .int x1)]) dX12_back_64 rfl rfl (by decide) rfl ?_
      refine E.goto dX12_back_67 ?_
      refine E.locals [1, 2, 0] rfl ?_
      exact ih hf
def fX12_back (Fu : Nat) (v_thrown : Int32) (v_status : Int32) (a_refusals : Nat → Int32) (a_row : Nat → Int32) (a_images : Nat → Int32) (a_isKept : Nat → Int32) (x1 : Int32) : Option (Int32 × Int32 × Int32 × (Nat → Int32) × (Nat → Int32)) := (fX12_in ((x1 : Int32).toInt64) 0 1).bind fun r1 => (if (r1 : Int32) = 0 then ((fX12_tell v_status a_refusals (-1 : Int32)).bind fun r4 => (some (r4.1, 0, r4.2.1, r4.2.2, a_row))) else (gd x1 2 (if ((a_isKept (x1 : Int32).toNatClampNeg) : Int32) = 0 then ((fX12_tell v_status a_refusals (-2 : Int32)).bind fun r3 => (some (r3.1, 0, r3.2.1, r3.2.2, a_row))) else (fX12_back_L39 Fu Fu 0 v_status a_refusals a_row a_images a_isKept x1 0))))
set_option maxHeartbeats 4000000 in
set_option maxRecDepth 100000 in
theorem tX12_back {G : GT} {b : Nat} {o : Nat} {c0 : Hp} {n : Nat} (hw : e_wf (kM o) n) {a_tape : Nat → Int32} {v_taped : Int32} {v_from : Int32} {v_to : Int32} {v_sort : Int32} {v_worth : Int64} {v_fault : Int32} {v_bad : Int32} {v_nClauses : Int32} {a_nClause : Nat → Int32} {v_nCode : Int32} {a_nOp : Nat → Int32} {a_nArg : Nat → Int32} {v_nLeaves : Int32} {a_pile : Nat → Int32} {a_pileAt : Nat → Int32} {v_piled : Int32} {v_opened : Int32} {a_words : Nat → Int64} {a_headWords : Nat → Int64} {v_law : Int32} {a_set : Nat → Int64} {a_rest : Nat → Int64} {v_broken : Int32} {v_value : Int64} {v_sum : Int64} {a_chances : Nat → Int32} {a_votes : Nat → Int64} {a_costs : Nat → Int32} {a_table : Nat → Int64} {a_prices : Nat → Int32} {v_surely : Int64} {a_mostBy : Nat → Int64} {a_leastBy : Nat → Int64} {v_between : Int64} {v_steadyWays : Int32} {v_quashed : Int32} {v_but : Int32} {a_figures : Nat → Int32} {a_all : Nat → Int32} {a_lies : Nat → Int32} {a_since : Nat → Int32} {v_last : Int32} {v_state : Int64} {Fu : Nat} {v_thrown : Int32} {v_status : Int32} {a_refusals : Nat → Int32} {a_row : Nat → Int32} {a_images : Nat → Int32} {a_isKept : Nat → Int32} {x1 : Int32} {R : Int32 × Int32 × Int32 × (Nat → Int32) × (Nat → Int32)} (hf : fX12_back Fu v_thrown v_status a_refusals a_row a_images a_isKept x1 = some R) : E G b yX12_back cX12_back 3 (some .int) (e_rm 1 0 0) e_X0 (e_Z G b (pD (some (.int R.1)) (e_ov (kM o) (wM G b o R.2.1 R.2.2.1 R.2.2.2.1 R.2.2.2.2 a_images a_isKept a_tape v_taped v_from v_to v_sort v_worth v_fault v_bad v_nClauses a_nClause v_nCode a_nOp a_nArg v_nLeaves a_pile a_pileAt v_piled v_opened a_words a_headWords v_law a_set a_rest v_broken v_value v_sum a_chances a_votes a_costs a_table a_prices v_surely a_mostBy a_leastBy v_between v_steadyWays v_quashed v_but a_figures a_all a_lies a_since v_last v_state) c0) n) 0 0) 0 [(0, .ref (b + o)), (1, .int x1)] [] (e_ov (kM o) (wM G b o v_thrown v_status a_refusals a_row a_images a_isKept a_tape v_taped v_from v_to v_sort v_worth v_fault v_bad v_nClauses a_nClause v_nCode a_nOp a_nArg v_nLeaves a_pile a_pileAt v_piled v_opened a_words a_headWords v_law a_set a_rest v_broken v_value v_sum a_chances a_votes a_costs a_table a_prices v_surely a_mostBy a_leastBy v_between v_steadyWays v_quashed v_but a_figures a_all a_lies a_since v_last v_state) c0) n 0 0 := by
  unfold fX12_back at hf
  refine E.aload_n 0 dX12_back_0 rfl ?_
  refine E.iconst (v := 0) dX12_back_1 (by decide) ?_
  refine E.put (es' := (wM G b o 0 v_status a_refusals a_row a_images a_isKept a_tape v_taped v_from v_to v_sort v_worth v_fault v_bad v_nClauses a_nClause v_nCode a_nOp a_nArg v_nLeaves a_pile a_pileAt v_piled v_opened a_words a_headWords v_law a_set a_rest v_broken v_value v_sum a_chances a_votes a_costs a_table a_prices v_surely a_mostBy a_leastBy v_between v_steadyWays v_quashed v_but a_figures a_all a_lies a_since v_last v_state)) hw 0 o dX12_back_2 flX12_124 ftX12 rfl rfl rfl rfl rfl rfl (Nat.le_of_ble_eq_true rfl) rfl ?_
  refine E.iload_n 1 dX12_back_5 rfl ?_
  refine E.i2l dX12_back_6 ?_
  refine E.lconst (v := 0) dX12_back_7 (by decide) ?_
  refine E.lconst (v := 1) dX12_back_8 (by decide) ?_
  obtain ⟨r1, hc1, hf⟩ := e_bind hf
  refine E.callSD [] dX12_back_9 mlX12_134 (mX12_in hc1) ⟨Nat.le_of_ble_eq_true rfl, Nat.le_of_ble_eq_true rfl⟩ rfl rfl (Nat.le_of_ble_eq_true rfl) ⟨Nat.le_refl _, Nat.le_refl _⟩ rfl ?_
  refine E.if_ne dX12_back_12 (fun h => ?_) (fun h => ?_)
  · have hf := e_iff hf h
    refine E.aload_n 0 dX12_back_21 rfl ?_
    refine E.get hw 0 o dX12_back_22 flX12_19 rfl rfl rfl rfl ?_
    refine E.iload_n 1 dX12_back_25 rfl ?_
    obtain ⟨g2, hf⟩ := gd_some hf
    refine E.zald hw 4 (o + 4) dX12_back_26 rfl rfl g2 ?_
    refine E.if_ne dX12_back_27 (fun h => ?_) (fun h => ?_)
    · have hf := e_iff hf h
      refine E.iconst (v := 0) dX12_back_37 (by decide) ?_
      refine E.istore_n (lv' := [(2, .int 0), (0, .ref (b + o)), (1, .int x1)]) dX12_back_38 (by decide) rfl ?_
      refine E.locals [1, 2, 0] rfl ?_
      exact tX12_back_L39 hw _ hf
    · have hf := e_ift hf h
      refine E.aload_n 0 dX12_back_30 rfl ?_
      refine E.bipush (v := -2) dX12_back_31 (by decide) ?_
      obtain ⟨r3, hc3, hf⟩ := e_bind hf
      refine E.callVD [] dX12_back_33 mlX12_138 ⟨hw.sub (p := 0) rfl, e_ov_get hw.1 (p := 0) rfl rfl⟩ rfl rfl (mX12_tell hw hc3) ⟨Nat.le_of_ble_eq_true rfl, Nat.le_of_ble_eq_true rfl⟩ rfl rfl (Nat.le_of_ble_eq_true rfl) ⟨Nat.le_refl _, Nat.le_refl _⟩ rfl ?_
      cases hf
      exact E.iret dX12_back_36 (Nat.le_refl _) (Nat.le_refl _) (pD_rf _ _ _)
  · have hf := e_ift hf h
    refine E.aload_n 0 dX12_back_15 rfl ?_
    refine E.iconst (v := -1) dX12_back_16 (by decide) ?_
    obtain ⟨r4, hc4, hf⟩ := e_bind hf
    refine E.callVD [] dX12_back_17 mlX12_138 ⟨hw.sub (p := 0) rfl, e_ov_get hw.1 (p := 0) rfl rfl⟩ rfl rfl (mX12_tell hw hc4) ⟨Nat.le_of_ble_eq_true rfl, Nat.le_of_ble_eq_true rfl⟩ rfl rfl (Nat.le_of_ble_eq_true rfl) ⟨Nat.le_refl _, Nat.le_refl _⟩ rfl ?_
    cases hf
    exact E.iret dX12_back_20 (Nat.le_refl _) (Nat.le_refl _) (pD_rf _ _ _)
set_option maxRecDepth 100000 in
theorem mX12_back {G : GT} {b : Nat} {o : Nat} {c0 : Hp} {n : Nat} (hw : e_wf (kM o) n) {a_tape : Nat → Int32} {v_taped : Int32} {v_from : Int32} {v_to : Int32} {v_sort : Int32} {v_worth : Int64} {v_fault : Int32} {v_bad : Int32} {v_nClauses : Int32} {a_nClause : Nat → Int32} {v_nCode : Int32} {a_nOp : Nat → Int32} {a_nArg : Nat → Int32} {v_nLeaves : Int32} {a_pile : Nat → Int32} {a_pileAt : Nat → Int32} {v_piled : Int32} {v_opened : Int32} {a_words : Nat → Int64} {a_headWords : Nat → Int64} {v_law : Int32} {a_set : Nat → Int64} {a_rest : Nat → Int64} {v_broken : Int32} {v_value : Int64} {v_sum : Int64} {a_chances : Nat → Int32} {a_votes : Nat → Int64} {a_costs : Nat → Int32} {a_table : Nat → Int64} {a_prices : Nat → Int32} {v_surely : Int64} {a_mostBy : Nat → Int64} {a_leastBy : Nat → Int64} {v_between : Int64} {v_steadyWays : Int32} {v_quashed : Int32} {v_but : Int32} {a_figures : Nat → Int32} {a_all : Nat → Int32} {a_lies : Nat → Int32} {a_since : Nat → Int32} {v_last : Int32} {v_state : Int64} {Fu : Nat} {v_thrown : Int32} {v_status : Int32} {a_refusals : Nat → Int32} {a_row : Nat → Int32} {a_images : Nat → Int32} {a_isKept : Nat → Int32} {x1 : Int32} {R : Int32 × Int32 × Int32 × (Nat → Int32) × (Nat → Int32)} (hf : fX12_back Fu v_thrown v_status a_refusals a_row a_images a_isKept x1 = some R) : e_C G b yX12_back cX12_back 3 (some .int) 1 0 0 [.ref (b + o), .int x1] (e_ov (kM o) (wM G b o v_thrown v_status a_refusals a_row a_images a_isKept a_tape v_taped v_from v_to v_sort v_worth v_fault v_bad v_nClauses a_nClause v_nCode a_nOp a_nArg v_nLeaves a_pile a_pileAt v_piled v_opened a_words a_headWords v_law a_set a_rest v_broken v_value v_sum a_chances a_votes a_costs a_table a_prices v_surely a_mostBy a_leastBy v_between v_steadyWays v_quashed v_but a_figures a_all a_lies a_since v_last v_state) c0) n (pD (some (.int R.1)) (e_ov (kM o) (wM G b o R.2.1 R.2.2.1 R.2.2.2.1 R.2.2.2.2 a_images a_isKept a_tape v_taped v_from v_to v_sort v_worth v_fault v_bad v_nClauses a_nClause v_nCode a_nOp a_nArg v_nLeaves a_pile a_pileAt v_piled v_opened a_words a_headWords v_law a_set a_rest v_broken v_value v_sum a_chances a_votes a_costs a_table a_prices v_surely a_mostBy a_leastBy v_between v_steadyWays v_quashed v_but a_figures a_all a_lies a_since v_last v_state) c0) n) := e_C.of (by decide) (Nat.le_of_ble_eq_true rfl) (tX12_back hw hf)
def fX12_isBeast (a_row : Nat → Int32) (x1 : Int32) : Option (Int32) := gd 0 5570 ((fX12_in ((x1 : Int32).toInt64) 0 ((((a_row (0 : Int32).toNatClampNeg) : Int32).toInt64) - 1)).bind fun r2 => (gb r2 (some (r2))))
set_option maxHeartbeats 4000000 in
set_option maxRecDepth 100000 in
theorem tX12_isBeast {G : GT} {b : Nat} {o : Nat} {c0 : Hp} {n : Nat} (hw : e_wf (kM o) n) {v_thrown : Int32} {v_status : Int32} {a_refusals : Nat → Int32} {a_images : Nat → Int32} {a_isKept : Nat → Int32} {a_tape : Nat → Int32} {v_taped : Int32} {v_from : Int32} {v_to : Int32} {v_sort : Int32} {v_worth : Int64} {v_fault : Int32} {v_bad : Int32} {v_nClauses : Int32} {a_nClause : Nat → Int32} {v_nCode : Int32} {a_nOp : Nat → Int32} {a_nArg : Nat → Int32} {v_nLeaves : Int32} {a_pile : Nat → Int32} {a_pileAt : Nat → Int32} {v_piled : Int32} {v_opened : Int32} {a_words : Nat → Int64} {a_headWords : Nat → Int64} {v_law : Int32} {a_set : Nat → Int64} {a_rest : Nat → Int64} {v_broken : Int32} {v_value : Int64} {v_sum : Int64} {a_chances : Nat → Int32} {a_votes : Nat → Int64} {a_costs : Nat → Int32} {a_table : Nat → Int64} {a_prices : Nat → Int32} {v_surely : Int64} {a_mostBy : Nat → Int64} {a_leastBy : Nat → Int64} {v_between : Int64} {v_steadyWays : Int32} {v_quashed : Int32} {v_but : Int32} {a_figures : Nat → Int32} {a_all : Nat → Int32} {a_lies : Nat → Int32} {a_since : Nat → Int32} {v_last : Int32} {v_state : Int64} {a_row : Nat → Int32} {x1 : Int32} {R : Int32} (hf : fX12_isBeast a_row x1 = some R) : E G b yX12_isBeast cX12_isBeast 2 (some .boolean) (e_rm 1 0 0) e_X0 (e_Z G b (pD (some (.int R)) (e_ov (kM o) (wM G b o v_thrown v_status a_refusals a_row a_images a_isKept a_tape v_taped v_from v_to v_sort v_worth v_fault v_bad v_nClauses a_nClause v_nCode a_nOp a_nArg v_nLeaves a_pile a_pileAt v_piled v_opened a_words a_headWords v_law a_set a_rest v_broken v_value v_sum a_chances a_votes a_costs a_table a_prices v_surely a_mostBy a_leastBy v_between v_steadyWays v_quashed v_but a_figures a_all a_lies a_since v_last v_state) c0) n) 0 0) 0 [(0, .ref (b + o)), (1, .int x1)] [] (e_ov (kM o) (wM G b o v_thrown v_status a_refusals a_row a_images a_isKept a_tape v_taped v_from v_to v_sort v_worth v_fault v_bad v_nClauses a_nClause v_nCode a_nOp a_nArg v_nLeaves a_pile a_pileAt v_piled v_opened a_words a_headWords v_law a_set a_rest v_broken v_value v_sum a_chances a_votes a_costs a_table a_prices v_surely a_mostBy a_leastBy v_between v_steadyWays v_quashed v_but a_figures a_all a_lies a_since v_last v_state) c0) n 0 0 := by
  unfold fX12_isBeast at hf
  refine E.iload_n 1 dX12_isBeast_0 rfl ?_
  refine E.i2l dX12_isBeast_1 ?_
  refine E.lconst (v := 0) dX12_isBeast_2 (by decide) ?_
  refine E.aload_n 0 dX12_isBeast_3 rfl ?_
  refine E.get hw 0 o dX12_isBeast_4 flX12_13 rfl rfl rfl rfl ?_
  refine E.iconst (v := 0) dX12_isBeast_7 (by decide) ?_
  obtain ⟨g1, hf⟩ := gd_some hf
  refine E.iald hw 2 (o + 2) dX12_isBeast_8 rfl rfl g1 ?_
  refine E.i2l dX12_isBeast_9 ?_
  refine E.lconst (v := 1) dX12_isBeast_10 (by decide) ?_
  refine E.lsub dX12_isBeast_11 ?_
  obtain ⟨r2, hc2, hf⟩ := e_bind hf
  refine E.callSD [] dX12_isBeast_12 mlX12_134 (mX12_in hc2) ⟨Nat.le_of_ble_eq_true rfl, Nat.le_of_ble_eq_true rfl⟩ rfl rfl (Nat.le_of_ble_eq_true rfl) ⟨Nat.le_refl _, Nat.le_refl _⟩ rfl ?_
  obtain ⟨g3, hf⟩ := gb_some hf
  cases hf
  exact E.zret dX12_isBeast_15 (nb01 g3) (Nat.le_refl _) (Nat.le_refl _) (pD_rf _ _ _)
set_option maxRecDepth 100000 in
theorem mX12_isBeast {G : GT} {b : Nat} {o : Nat} {c0 : Hp} {n : Nat} (hw : e_wf (kM o) n) {v_thrown : Int32} {v_status : Int32} {a_refusals : Nat → Int32} {a_images : Nat → Int32} {a_isKept : Nat → Int32} {a_tape : Nat → Int32} {v_taped : Int32} {v_from : Int32} {v_to : Int32} {v_sort : Int32} {v_worth : Int64} {v_fault : Int32} {v_bad : Int32} {v_nClauses : Int32} {a_nClause : Nat → Int32} {v_nCode : Int32} {a_nOp : Nat → Int32} {a_nArg : Nat → Int32} {v_nLeaves : Int32} {a_pile : Nat → Int32} {a_pileAt : Nat → Int32} {v_piled : Int32} {v_opened : Int32} {a_words : Nat → Int64} {a_headWords : Nat → Int64} {v_law : Int32} {a_set : Nat → Int64} {a_rest : Nat → Int64} {v_broken : Int32} {v_value : Int64} {v_sum : Int64} {a_chances : Nat → Int32} {a_votes : Nat → Int64} {a_costs : Nat → Int32} {a_table : Nat → Int64} {a_prices : Nat → Int32} {v_surely : Int64} {a_mostBy : Nat → Int64} {a_leastBy : Nat → Int64} {v_between : Int64} {v_steadyWays : Int32} {v_quashed : Int32} {v_but : Int32} {a_figures : Nat → Int32} {a_all : Nat → Int32} {a_lies : Nat → Int32} {a_since : Nat → Int32} {v_last : Int32} {v_state : Int64} {a_row : Nat → Int32} {x1 : Int32} {R : Int32} (hf : fX12_isBeast a_row x1 = some R) : e_C G b yX12_isBeast cX12_isBeast 2 (some .boolean) 1 0 0 [.ref (b + o), .int x1] (e_ov (kM o) (wM G b o v_thrown v_status a_refusals a_row a_images a_isKept a_tape v_taped v_from v_to v_sort v_worth v_fault v_bad v_nClauses a_nClause v_nCode a_nOp a_nArg v_nLeaves a_pile a_pileAt v_piled v_opened a_words a_headWords v_law a_set a_rest v_broken v_value v_sum a_chances a_votes a_costs a_table a_prices v_surely a_mostBy a_leastBy v_between v_steadyWays v_quashed v_but a_figures a_all a_lies a_since v_last v_state) c0) n (pD (some (.int R)) (e_ov (kM o) (wM G b o v_thrown v_status a_refusals a_row a_images a_isKept a_tape v_taped v_from v_to v_sort v_worth v_fault v_bad v_nClauses a_nClause v_nCode a_nOp a_nArg v_nLeaves a_pile a_pileAt v_piled v_opened a_words a_headWords v_law a_set a_rest v_broken v_value v_sum a_chances a_votes a_costs a_table a_prices v_surely a_mostBy a_leastBy v_between v_steadyWays v_quashed v_but a_figures a_all a_lies a_since v_last v_state) c0) n) := e_C.of (by decide) (Nat.le_of_ble_eq_true rfl) (tX12_isBeast hw hf)
def fX12_isHour (x0 : Int32) : Option (Int32) := (fX12_in ((x0 : Int32).toInt64) 0 23).bind fun r1 => (gb r1 (some (r1)))
set_option maxHeartbeats 4000000 in
set_option maxRecDepth 100000 in
theorem tX12_isHour {G : GT} {b : Nat} {c : Hp} {n : Nat} {x0 : Int32} {R : Int32} (hf : fX12_isHour x0 = some R) : E G b yX12_isHour cX12_isHour 1 (some .boolean) (e_rm 1 0 0) e_X0 (e_Z G b (pD (some (.int R)) c n) 0 0) 0 [(0, .int x0)] [] c n 0 0 := by
  unfold fX12_isHour at hf
  refine E.iload_n 0 dX12_isHour_0 rfl ?_
  refine E.i2l dX12_isHour_1 ?_
  refine E.lconst (v := 0) dX12_isHour_2 (by decide) ?_
  refine E.ldc2 dX12_isHour_3 kX12_141 ?_
  obtain ⟨r1, hc1, hf⟩ := e_bind hf
  refine E.callSD [] dX12_isHour_6 mlX12_134 (mX12_in hc1) ⟨Nat.le_of_ble_eq_true rfl, Nat.le_of_ble_eq_true rfl⟩ rfl rfl (Nat.le_of_ble_eq_true rfl) ⟨Nat.le_refl _, Nat.le_refl _⟩ rfl ?_
  obtain ⟨g2, hf⟩ := gb_some hf
  cases hf
  exact E.zret dX12_isHour_9 (nb01 g2) (Nat.le_refl _) (Nat.le_refl _) (pD_rf _ _ _)
set_option maxRecDepth 100000 in
theorem mX12_isHour {G : GT} {b : Nat} {c : Hp} {n : Nat} {x0 : Int32} {R : Int32} (hf : fX12_isHour x0 = some R) : e_C G b yX12_isHour cX12_isHour 1 (some .boolean) 1 0 0 [.int x0] c n (pD (some (.int R)) c n) := e_C.of (by decide) (Nat.le_of_ble_eq_true rfl) (tX12_isHour hf)
def fX12_isSide (x0 : Int32) : Option (Int32) := (fX12_in ((x0 : Int32).toInt64) 0 1).bind fun r1 => (gb r1 (some (r1)))
set_option maxHeartbeats 4000000 in
set_option maxRecDepth 100000 in
theorem tX12_isSide {G : GT} {b : Nat} {c : Hp} {n : Nat} {x0 : Int32} {R : Int32} (hf : fX12_isSide x0 = some R) : E G b yX12_isSide cX12_isSide 1 (some .boolean) (e_rm 1 0 0) e_X0 (e_Z G b (pD (some (.int R)) c n) 0 0) 0 [(0, .int x0)] [] c n 0 0 := by
  unfold fX12_isSide at hf
  refine E.iload_n 0 dX12_isSide_0 rfl ?_
  refine E.i2l dX12_isSide_1 ?_
  refine E.lconst (v := 0) dX12_isSide_2 (by decide) ?_
  refine E.lconst (v := 1) dX12_isSide_3 (by decide) ?_
  obtain ⟨r1, hc1, hf⟩ := e_bind hf
  refine E.callSD [] dX12_isSide_4 mlX12_134 (mX12_in hc1) ⟨Nat.le_of_ble_eq_true rfl, Nat.le_of_ble_eq_true rfl⟩ rfl rfl (Nat.le_of_ble_eq_true rfl) ⟨Nat.le_refl _, Nat.le_refl _⟩ rfl ?_
  obtain ⟨g2, hf⟩ := gb_some hf
  cases hf
  exact E.zret dX12_isSide_7 (nb01 g2) (Nat.le_refl _) (Nat.le_refl _) (pD_rf _ _ _)
set_option maxRecDepth 100000 in
theorem mX12_isSide {G : GT} {b : Nat} {c : Hp} {n : Nat} {x0 : Int32} {R : Int32} (hf : fX12_isSide x0 = some R) : e_C G b yX12_isSide cX12_isSide 1 (some .boolean) 1 0 0 [.int x0] c n (pD (some (.int R)) c n) := e_C.of (by decide) (Nat.le_of_ble_eq_true rfl) (tX12_isSide hf)
def fX12_ofBeast (a_row : Nat → Int32) (x1 : Int32) (x2 : Int32) : Option (Int32) := gd ((12 + (6 * x1)) + x2) 5570 (some ((a_row (((12 + (6 * x1)) + x2) : Int32).toNatClampNeg)))
set_option maxHeartbeats 4000000 in
set_option maxRecDepth 100000 in
theorem tX12_ofBeast {G : GT} {b : Nat} {o : Nat} {c0 : Hp} {n : Nat} (hw : e_wf (kM o) n) {v_thrown : Int32} {v_status : Int32} {a_refusals : Nat → Int32} {a_images : Nat → Int32} {a_isKept : Nat → Int32} {a_tape : Nat → Int32} {v_taped : Int32} {v_from : Int32} {v_to : Int32} {v_sort : Int32} {v_worth : Int64} {v_fault : Int32} {v_bad : Int32} {v_nClauses : Int32} {a_nClause : Nat → Int32} {v_nCode : Int32} {a_nOp : Nat → Int32} {a_nArg : Nat → Int32} {v_nLeaves : Int32} {a_pile : Nat → Int32} {a_pileAt : Nat → Int32} {v_piled : Int32} {v_opened : Int32} {a_words : Nat → Int64} {a_headWords : Nat → Int64} {v_law : Int32} {a_set : Nat → Int64} {a_rest : Nat → Int64} {v_broken : Int32} {v_value : Int64} {v_sum : Int64} {a_chances : Nat → Int32} {a_votes : Nat → Int64} {a_costs : Nat → Int32} {a_table : Nat → Int64} {a_prices : Nat → Int32} {v_surely : Int64} {a_mostBy : Nat → Int64} {a_leastBy : Nat → Int64} {v_between : Int64} {v_steadyWays : Int32} {v_quashed : Int32} {v_but : Int32} {a_figures : Nat → Int32} {a_all : Nat → Int32} {a_lies : Nat → Int32} {a_since : Nat → Int32} {v_last : Int32} {v_state : Int64} {a_row : Nat → Int32} {x1 : Int32} {x2 : Int32} {R : Int32} (hf : fX12_ofBeast a_row x1 x2 = some R) : E G b yX12_ofBeast cX12_ofBeast 3 (some .int) (e_rm 0 0 0) e_X0 (e_Z G b (pD (some (.int R)) (e_ov (kM o) (wM G b o v_thrown v_status a_refusals a_row a_images a_isKept a_tape v_taped v_from v_to v_sort v_worth v_fault v_bad v_nClauses a_nClause v_nCode a_nOp a_nArg v_nLeaves a_pile a_pileAt v_piled v_opened a_words a_headWords v_law a_set a_rest v_broken v_value v_sum a_chances a_votes a_costs a_table a_prices v_surely a_mostBy a_leastBy v_between v_steadyWays v_quashed v_but a_figures a_all a_lies a_since v_last v_state) c0) n) 0 0) 0 [(0, .ref (b + o)), (1, .int x1), (2, .int x2)] [] (e_ov (kM o) (wM G b o v_thrown v_status a_refusals a_row a_images a_isKept a_tape v_taped v_from v_to v_sort v_worth v_fault v_bad v_nClauses a_nClause v_nCode a_nOp a_nArg v_nLeaves a_pile a_pileAt v_piled v_opened a_words a_headWords v_law a_set a_rest v_broken v_value v_sum a_chances a_votes a_costs a_table a_prices v_surely a_mostBy a_leastBy v_between v_steadyWays v_quashed v_but a_figures a_all a_lies a_since v_last v_state) c0) n 0 0 := by
  unfold fX12_ofBeast at hf
  refine E.aload_n 0 dX12_ofBeast_0 rfl ?_
  refine E.get hw 0 o dX12_ofBeast_1 flX12_13 rfl rfl rfl rfl ?_
  refine E.bipush (v := 12) dX12_ofBeast_4 (by decide) ?_
  refine E.bipush (v := 6) dX12_ofBeast_6 (by decide) ?_
  refine E.iload_n 1 dX12_ofBeast_8 rfl ?_
  refine E.imul dX12_ofBeast_9 ?_
  refine E.iadd dX12_ofBeast_10 ?_
  refine E.iload_n 2 dX12_ofBeast_11 rfl ?_
  refine E.iadd dX12_ofBeast_12 ?_
  obtain ⟨g1, hf⟩ := gd_some hf
  refine E.iald hw 2 (o + 2) dX12_ofBeast_13 rfl rfl g1 ?_
  cases hf
  exact E.iret dX12_ofBeast_14 (Nat.le_refl _) (Nat.le_refl _) (pD_rf _ _ _)
set_option maxRecDepth 100000 in
theorem mX12_ofBeast {G : GT} {b : Nat} {o : Nat} {c0 : Hp} {n : Nat} (hw : e_wf (kM o) n) {v_thrown : Int32} {v_status : Int32} {a_refusals : Nat → Int32} {a_images : Nat → Int32} {a_isKept : Nat → Int32} {a_tape : Nat → Int32} {v_taped : Int32} {v_from : Int32} {v_to : Int32} {v_sort : Int32} {v_worth : Int64} {v_fault : Int32} {v_bad : Int32} {v_nClauses : Int32} {a_nClause : Nat → Int32} {v_nCode : Int32} {a_nOp : Nat → Int32} {a_nArg : Nat → Int32} {v_nLeaves : Int32} {a_pile : Nat → Int32} {a_pileAt : Nat → Int32} {v_piled : Int32} {v_opened : Int32} {a_words : Nat → Int64} {a_headWords : Nat → Int64} {v_law : Int32} {a_set : Nat → Int64} {a_rest : Nat → Int64} {v_broken : Int32} {v_value : Int64} {v_sum : Int64} {a_chances : Nat → Int32} {a_votes : Nat → Int64} {a_costs : Nat → Int32} {a_table : Nat → Int64} {a_prices : Nat → Int32} {v_surely : Int64} {a_mostBy : Nat → Int64} {a_leastBy : Nat → Int64} {v_between : Int64} {v_steadyWays : Int32} {v_quashed : Int32} {v_but : Int32} {a_figures : Nat → Int32} {a_all : Nat → Int32} {a_lies : Nat → Int32} {a_since : Nat → Int32} {v_last : Int32} {v_state : Int64} {a_row : Nat → Int32} {x1 : Int32} {x2 : Int32} {R : Int32} (hf : fX12_ofBeast a_row x1 x2 = some R) : e_C G b yX12_ofBeast cX12_ofBeast 3 (some .int) 0 0 0 [.ref (b + o), .int x1, .int x2] (e_ov (kM o) (wM G b o v_thrown v_status a_refusals a_row a_images a_isKept a_tape v_taped v_from v_to v_sort v_worth v_fault v_bad v_nClauses a_nClause v_nCode a_nOp a_nArg v_nLeaves a_pile a_pileAt v_piled v_opened a_words a_headWords v_law a_set a_rest v_broken v_value v_sum a_chances a_votes a_costs a_table a_prices v_surely a_mostBy a_leastBy v_between v_steadyWays v_quashed v_but a_figures a_all a_lies a_since v_last v_state) c0) n (pD (some (.int R)) (e_ov (kM o) (wM G b o v_thrown v_status a_refusals a_row a_images a_isKept a_tape v_taped v_from v_to v_sort v_worth v_fault v_bad v_nClauses a_nClause v_nCode a_nOp a_nArg v_nLeaves a_pile a_pileAt v_piled v_opened a_words a_headWords v_law a_set a_rest v_broken v_value v_sum a_chances a_votes a_costs a_table a_prices v_surely a_mostBy a_leastBy v_between v_steadyWays v_quashed v_but a_figures a_all a_lies a_since v_last v_state) c0) n) := e_C.of (by decide) (Nat.le_of_ble_eq_true rfl) (tX12_ofBeast hw hf)
def fX12_fits (x0 : Int32) (x1 : Int32) : Option (Int32) := if (x0 : Int32) = 0 then ((fX12_in ((x1 : Int32).toInt64) 0 9).bind fun r1 => (gb r1 (some (r1)))) else (if (x0 : Int32) = 1 then ((fX12_in ((x1 : Int32).toInt64) 0 99).bind fun r3 => (gb r3 (some (r3)))) else (if (x0 : Int32) = 2 then ((fX12_in ((x1 : Int32).toInt64) 0 9).bind fun r5 => (gb r5 (some (r5)))) else (if (x0 : Int32) = 3 then ((fX12_in ((x1 : Int32).toInt64) 0 9).bind fun r7 => (gb r7 (some (r7)))) else (if (x0 : Int32) = 4 then ((fX12_in ((x1 : Int32).toInt64) 0 9).bind fun r9 => (gb r9 (some (r9)))) else (if (x0 : Int32) = 5 then ((fX12_in ((x1 : Int32).toInt64) 0 3).bind fun r11 => (gb r11 (some (r11)))) else (some (0)))))))
set_option maxHeartbeats 4000000 in
set_option maxRecDepth 100000 in
theorem tX12_fits {G : GT} {b : Nat} {c : Hp} {n : Nat} {x0 : Int32} {x1 : Int32} {R : Int32} (hf : fX12_fits x0 x1 = some R) : E G b yX12_fits cX12_fits 2 (some .boolean) (e_rm 1 0 0) e_X0 (e_Z G b (pD (some (.int R)) c n) 0 0) 0 [(0, .int x0), (1, .int x1)] [] c n 0 0 := by
  unfold fX12_fits at hf
  refine E.iload_n 0 dX12_fits_0 rfl ?_
  by_cases h0 : (x0 : Int32) = 0
  · have hf := e_ift hf h0
    refine E.tswI (w := 0) (tgt := 40) dX12_fits_1 h0 (by decide) (by decide) (o2 := 39) rfl (by decide) ?_
    refine E.iload_n 1 dX12_fits_40 rfl ?_
    refine E.i2l dX12_fits_41 ?_
    refine E.lconst (v := 0) dX12_fits_42 (by decide) ?_
    refine E.ldc2 dX12_fits_43 kX12_143 ?_
    obtain ⟨r1, hc1, hf⟩ := e_bind hf
    refine E.callSD [] dX12_fits_46 mlX12_134 (mX12_in hc1) ⟨Nat.le_of_ble_eq_true rfl, Nat.le_of_ble_eq_true rfl⟩ rfl rfl (Nat.le_of_ble_eq_true rfl) ⟨Nat.le_refl _, Nat.le_refl _⟩ rfl ?_
    obtain ⟨g2, hf⟩ := gb_some hf
    cases hf
    exact E.zret dX12_fits_49 (nb01 g2) (Nat.le_refl _) (Nat.le_refl _) (pD_rf _ _ _)
  · have hf := e_iff hf h0
    by_cases h1 : (x0 : Int32) = 1
    · have hf := e_ift hf h1
      refine E.tswI (w := 1) (tgt := 50) dX12_fits_1 h1 (by decide) (by decide) (o2 := 49) rfl (by decide) ?_
      refine E.iload_n 1 dX12_fits_50 rfl ?_
      refine E.i2l dX12_fits_51 ?_
      refine E.lconst (v := 0) dX12_fits_52 (by decide) ?_
      refine E.ldc2 dX12_fits_53 kX12_145 ?_
      obtain ⟨r3, hc3, hf⟩ := e_bind hf
      refine E.callSD [] dX12_fits_56 mlX12_134 (mX12_in hc3) ⟨Nat.le_of_ble_eq_true rfl, Nat.le_of_ble_eq_true rfl⟩ rfl rfl (Nat.le_of_ble_eq_true rfl) ⟨Nat.le_refl _, Nat.le_refl _⟩ rfl ?_
      obtain ⟨g4, hf⟩ := gb_some hf
      cases hf
      exact E.zret dX12_fits_59 (nb01 g4) (Nat.le_refl _) (Nat.le_refl _) (pD_rf _ _ _)
    · have hf := e_iff hf h1
      by_cases h2 : (x0 : Int32) = 2
      · have hf := e_ift hf h2
        refine E.tswI (w := 2) (tgt := 60) dX12_fits_1 h2 (by decide) (by decide) (o2 := 59) rfl (by decide) ?_
        refine E.iload_n 1 dX12_fits_60 rfl ?_
        refine E.i2l dX12_fits_61 ?_
        refine E.lconst (v := 0) dX12_fits_62 (by decide) ?_
        refine E.ldc2 dX12_fits_63 kX12_143 ?_
        obtain ⟨r5, hc5, hf⟩ := e_bind hf
        refine E.callSD [] dX12_fits_66 mlX12_134 (mX12_in hc5) ⟨Nat.le_of_ble_eq_true rfl, Nat.le_of_ble_eq_true rfl⟩ rfl rfl (Nat.le_of_ble_eq_true rfl) ⟨Nat.le_refl _, Nat.le_refl _⟩ rfl ?_
        obtain ⟨g6, hf⟩ := gb_some hf
        cases hf
        exact E.zret dX12_fits_69 (nb01 g6) (Nat.le_refl _) (Nat.le_refl _) (pD_rf _ _ _)
      · have hf := e_iff hf h2
        by_cases h3 : (x0 : Int32) = 3
        · have hf := e_ift hf h3
          refine E.tswI (w := 3) (tgt := 70) dX12_fits_1 h3 (by decide) (by decide) (o2 := 69) rfl (by decide) ?_
          refine E.iload_n 1 dX12_fits_70 rfl ?_
          refine E.i2l dX12_fits_71 ?_
          refine E.lconst (v := 0) dX12_fits_72 (by decide) ?_
          refine E.ldc2 dX12_fits_73 kX12_143 ?_
          obtain ⟨r7, hc7, hf⟩ := e_bind hf
          refine E.callSD [] dX12_fits_76 mlX12_134 (mX12_in hc7) ⟨Nat.le_of_ble_eq_true rfl, Nat.le_of_ble_eq_true rfl⟩ rfl rfl (Nat.le_of_ble_eq_true rfl) ⟨Nat.le_refl _, Nat.le_refl _⟩ rfl ?_
          obtain ⟨g8, hf⟩ := gb_some hf
          cases hf
          exact E.zret dX12_fits_79 (nb01 g8) (Nat.le_refl _) (Nat.le_refl _) (pD_rf _ _ _)
        · have hf := e_iff hf h3
          by_cases h4 : (x0 : Int32) = 4
          · have hf := e_ift hf h4
            refine E.tswI (w := 4) (tgt := 80) dX12_fits_1 h4 (by decide) (by decide) (o2 := 79) rfl (by decide) ?_
            refine E.iload_n 1 dX12_fits_80 rfl ?_
            refine E.i2l dX12_fits_81 ?_
            refine E.lconst (v := 0) dX12_fits_82 (by decide) ?_
            refine E.ldc2 dX12_fits_83 kX12_143 ?_
            obtain ⟨r9, hc9, hf⟩ := e_bind hf
            refine E.callSD [] dX12_fits_86 mlX12_134 (mX12_in hc9) ⟨Nat.le_of_ble_eq_true rfl, Nat.le_of_ble_eq_true rfl⟩ rfl rfl (Nat.le_of_ble_eq_true rfl) ⟨Nat.le_refl _, Nat.le_refl _⟩ rfl ?_
            obtain ⟨g10, hf⟩ := gb_some hf
            cases hf
            exact E.zret dX12_fits_89 (nb01 g10) (Nat.le_refl _) (Nat.le_refl _) (pD_rf _ _ _)
          · have hf := e_iff hf h4
            by_cases h5 : (x0 : Int32) = 5
            · have hf := e_ift hf h5
              refine E.tswI (w := 5) (tgt := 90) dX12_fits_1 h5 (by decide) (by decide) (o2 := 89) rfl (by decide) ?_
              refine E.iload_n 1 dX12_fits_90 rfl ?_
              refine E.i2l dX12_fits_91 ?_
              refine E.lconst (v := 0) dX12_fits_92 (by decide) ?_
              refine E.ldc2 dX12_fits_93 kX12_147 ?_
              obtain ⟨r11, hc11, hf⟩ := e_bind hf
              refine E.callSD [] dX12_fits_96 mlX12_134 (mX12_in hc11) ⟨Nat.le_of_ble_eq_true rfl, Nat.le_of_ble_eq_true rfl⟩ rfl rfl (Nat.le_of_ble_eq_true rfl) ⟨Nat.le_refl _, Nat.le_refl _⟩ rfl ?_
              obtain ⟨g12, hf⟩ := gb_some hf
              cases hf
              exact E.zret dX12_fits_99 (nb01 g12) (Nat.le_refl _) (Nat.le_refl _) (pD_rf _ _ _)
            · have hf := e_iff hf h5
              refine E.tswO (tgt := 100) dX12_fits_1 (e_tsw_6 (ne_toInt h0 (k := 0) (by decide)) (ne_toInt h1 (k := 1) (by decide)) (ne_toInt h2 (k := 2) (by decide)) (ne_toInt h3 (k := 3) (by decide)) (ne_toInt h4 (k := 4) (by decide)) (ne_toInt h5 (k := 5) (by decide)) (by decide) (by decide) (by decide) (by decide) (by decide) (by decide) (by decide)) (by decide) ?_
              refine E.iconst (v := 0) dX12_fits_100 (by decide) ?_
              cases hf
              exact E.zret dX12_fits_101 rfl (Nat.le_refl _) (Nat.le_refl _) (pD_rf _ _ _)
set_option maxRecDepth 100000 in
theorem mX12_fits {G : GT} {b : Nat} {c : Hp} {n : Nat} {x0 : Int32} {x1 : Int32} {R : Int32} (hf : fX12_fits x0 x1 = some R) : e_C G b yX12_fits cX12_fits 2 (some .boolean) 1 0 0 [.int x0, .int x1] c n (pD (some (.int R)) c n) := e_C.of (by decide) (Nat.le_of_ble_eq_true rfl) (tX12_fits hf)
def fX12_beast_L47 (v_thrown : Int32) (v_status : Int32) (a_refusals : Nat → Int32) (a_row : Nat → Int32) : Option (Int32 × Int32 × Int32 × (Nat → Int32) × (Nat → Int32)) := (fX12_tell v_status a_refusals (-1 : Int32)).bind fun r17 => (some (r17.1, v_thrown, r17.2.1, r17.2.2, a_row))
set_option maxHeartbeats 4000000 in
set_option maxRecDepth 100000 in
theorem tX12_beast_L47 {G : GT} {b : Nat} {o : Nat} {c0 : Hp} {n : Nat} (hw : e_wf (kM o) n) {a_images : Nat → Int32} {a_isKept : Nat → Int32} {a_tape : Nat → Int32} {v_taped : Int32} {v_from : Int32} {v_to : Int32} {v_sort : Int32} {v_worth : Int64} {v_fault : Int32} {v_bad : Int32} {v_nClauses : Int32} {a_nClause : Nat → Int32} {v_nCode : Int32} {a_nOp : Nat → Int32} {a_nArg : Nat → Int32} {v_nLeaves : Int32} {a_pile : Nat → Int32} {a_pileAt : Nat → Int32} {v_piled : Int32} {v_opened : Int32} {a_words : Nat → Int64} {a_headWords : Nat → Int64} {v_law : Int32} {a_set : Nat → Int64} {a_rest : Nat → Int64} {v_broken : Int32} {v_value : Int64} {v_sum : Int64} {a_chances : Nat → Int32} {a_votes : Nat → Int64} {a_costs : Nat → Int32} {a_table : Nat → Int64} {a_prices : Nat → Int32} {v_surely : Int64} {a_mostBy : Nat → Int64} {a_leastBy : Nat → Int64} {v_between : Int64} {v_steadyWays : Int32} {v_quashed : Int32} {v_but : Int32} {a_figures : Nat → Int32} {a_all : Nat → Int32} {a_lies : Nat → Int32} {a_since : Nat → Int32} {v_last : Int32} {v_state : Int64} {v_thrown : Int32} {v_status : Int32} {a_refusals : Nat → Int32} {a_row : Nat → Int32} {R : Int32 × Int32 × Int32 × (Nat → Int32) × (Nat → Int32)} (hf : fX12_beast_L47 v_thrown v_status a_refusals a_row = some R) : E G b yX12_beast cX12_beast 8 (some .int) (e_rm 2 0 0) e_X0 (e_Z G b (pD (some (.int R.1)) (e_ov (kM o) (wM G b o R.2.1 R.2.2.1 R.2.2.2.1 R.2.2.2.2 a_images a_isKept a_tape v_taped v_from v_to v_sort v_worth v_fault v_bad v_nClauses a_nClause v_nCode a_nOp a_nArg v_nLeaves a_pile a_pileAt v_piled v_opened a_words a_headWords v_law a_set a_rest v_broken v_value v_sum a_chances a_votes a_costs a_table a_prices v_surely a_mostBy a_leastBy v_between v_steadyWays v_quashed v_but a_figures a_all a_lies a_since v_last v_state) c0) n) 0 0) 47 [(0, .ref (b + o))] [] (e_ov (kM o) (wM G b o v_thrown v_status a_refusals a_row a_images a_isKept a_tape v_taped v_from v_to v_sort v_worth v_fault v_bad v_nClauses a_nClause v_nCode a_nOp a_nArg v_nLeaves a_pile a_pileAt v_piled v_opened a_words a_headWords v_law a_set a_rest v_broken v_value v_sum a_chances a_votes a_costs a_table a_prices v_surely a_mostBy a_leastBy v_between v_steadyWays v_quashed v_but a_figures a_all a_lies a_since v_last v_state) c0) n 0 0 := by
  unfold fX12_beast_L47 at hf
  refine E.aload_n 0 dX12_beast_47 rfl ?_
  refine E.iconst (v := -1) dX12_beast_48 (by decide) ?_
  obtain ⟨r17, hc17, hf⟩ := e_bind hf
  refine E.callVD [] dX12_beast_49 mlX12_138 ⟨hw.sub (p := 0) rfl, e_ov_get hw.1 (p := 0) rfl rfl⟩ rfl rfl (mX12_tell hw hc17) ⟨Nat.le_of_ble_eq_true rfl, Nat.le_of_ble_eq_true rfl⟩ rfl rfl (Nat.le_of_ble_eq_true rfl) ⟨Nat.le_refl _, Nat.le_refl _⟩ rfl ?_
  cases hf
  exact E.iret dX12_beast_52 (Nat.le_refl _) (Nat.le_refl _) (pD_rf _ _ _)
def fX12_beast (v_thrown : Int32) (v_status : Int32) (a_refusals : Nat → Int32) (a_row : Nat → Int32) (x1 : Int32) (x2 : Int32) (x3 : Int32) (x4 : Int32) (x5 : Int32) : Option (Int32 × Int32 × Int32 × (Nat → Int32) × (Nat → Int32)) := (fX12_fits 0 x1).bind fun r1 => (if (r1 : Int32) = 0 then (fX12_beast_L47 0 v_status a_refusals a_row) else ((fX12_fits 1 x2).bind fun r2 => (if (r2 : Int32) = 0 then (fX12_beast_L47 0 v_status a_refusals a_row) else ((fX12_fits 2 x3).bind fun r3 => (if (r3 : Int32) = 0 then (fX12_beast_L47 0 v_status a_refusals a_row) else ((fX12_fits 3 x4).bind fun r4 => (if (r4 : Int32) = 0 then (fX12_beast_L47 0 v_status a_refusals a_row) else ((fX12_fits 4 x5).bind fun r5 => (if (r5 : Int32) = 0 then (fX12_beast_L47 0 v_status a_refusals a_row) else (gd 0 5570 (if ((a_row (0 : Int32).toNatClampNeg) : Int32) = (8 : Int32) then ((fX12_tell v_status a_refusals (-5 : Int32)).bind fun r16 => (some (r16.1, 0, r16.2.1, r16.2.2, a_row))) else (gd (12 + (6 * (a_row (0 : Int32).toNatClampNeg))) 5570 (gd ((12 + (6 * (a_row (0 : Int32).toNatClampNeg))) + 1) 5570 (gd ((12 + (6 * (a_row (0 : Int32).toNatClampNeg))) + 2) 5570 (gd ((12 + (6 * (a_row (0 : Int32).toNatClampNeg))) + 3) 5570 (gd ((12 + (6 * (a_row (0 : Int32).toNatClampNeg))) + 4) 5570 (gd ((12 + (6 * (a_row (0 : Int32).toNatClampNeg))) + 5) 5570 (gd 0 5570 (gd 0 5570 ((fX12_tell v_status a_refusals (a_row (0 : Int32).toNatClampNeg)).bind fun r15 => (some (r15.1, 0, r15.2.1, r15.2.2, (va_up (va_up (va_up (va_up (va_up (va_up (va_up a_row ((12 + (6 * (a_row (0 : Int32).toNatClampNeg))) : Int32).toNatClampNeg x1) (((12 + (6 * (a_row (0 : Int32).toNatClampNeg))) + 1) : Int32).toNatClampNeg x2) (((12 + (6 * (a_row (0 : Int32).toNatClampNeg))) + 2) : Int32).toNatClampNeg x3) (((12 + (6 * (a_row (0 : Int32).toNatClampNeg))) + 3) : Int32).toNatClampNeg x4) (((12 + (6 * (a_row (0 : Int32).toNatClampNeg))) + 4) : Int32).toNatClampNeg x5) (((12 + (6 * (a_row (0 : Int32).toNatClampNeg))) + 5) : Int32).toNatClampNeg 0) (0 : Int32).toNatClampNeg (((va_up (va_up (va_up (va_up (va_up (va_up a_row ((12 + (6 * (a_row (0 : Int32).toNatClampNeg))) : Int32).toNatClampNeg x1) (((12 + (6 * (a_row (0 : Int32).toNatClampNeg))) + 1) : Int32).toNatClampNeg x2) (((12 + (6 * (a_row (0 : Int32).toNatClampNeg))) + 2) : Int32).toNatClampNeg x3) (((12 + (6 * (a_row (0 : Int32).toNatClampNeg))) + 3) : Int32).toNatClampNeg x4) (((12 + (6 * (a_row (0 : Int32).toNatClampNeg))) + 4) : Int32).toNatClampNeg x5) (((12 + (6 * (a_row (0 : Int32).toNatClampNeg))) + 5) : Int32).toNatClampNeg 0) (0 : Int32).toNatClampNeg) + 1))))))))))))))))))))))))
set_option maxHeartbeats 4000000 in
set_option maxRecDepth 100000 in
theorem tX12_beast {G : GT} {b : Nat} {o : Nat} {c0 : Hp} {n : Nat} (hw : e_wf (kM o) n) {a_images : Nat → Int32} {a_isKept : Nat → Int32} {a_tape : Nat → Int32} {v_taped : Int32} {v_from : Int32} {v_to : Int32} {v_sort : Int32} {v_worth : Int64} {v_fault : Int32} {v_bad : Int32} {v_nClauses : Int32} {a_nClause : Nat → Int32} {v_nCode : Int32} {a_nOp : Nat → Int32} {a_nArg : Nat → Int32} {v_nLeaves : Int32} {a_pile : Nat → Int32} {a_pileAt : Nat → Int32} {v_piled : Int32} {v_opened : Int32} {a_words : Nat → Int64} {a_headWords : Nat → Int64} {v_law : Int32} {a_set : Nat → Int64} {a_rest : Nat → Int64} {v_broken : Int32} {v_value : Int64} {v_sum : Int64} {a_chances : Nat → Int32} {a_votes : Nat → Int64} {a_costs : Nat → Int32} {a_table : Nat → Int64} {a_prices : Nat → Int32} {v_surely : Int64} {a_mostBy : Nat → Int64} {a_leastBy : Nat → Int64} {v_between : Int64} {v_steadyWays : Int32} {v_quashed : Int32} {v_but : Int32} {a_figures : Nat → Int32} {a_all : Nat → Int32} {a_lies : Nat → Int32} {a_since : Nat → Int32} {v_last : Int32} {v_state : Int64} {v_thrown : Int32} {v_status : Int32} {a_refusals : Nat → Int32} {a_row : Nat → Int32} {x1 : Int32} {x2 : Int32} {x3 : Int32} {x4 : Int32} {x5 : Int32} {R : Int32 × Int32 × Int32 × (Nat → Int32) × (Nat → Int32)} (hf : fX12_beast v_thrown v_status a_refusals a_row x1 x2 x3 x4 x5 = some R) : E G b yX12_beast cX12_beast 8 (some .int) (e_rm 2 0 0) e_X0 (e_Z G b (pD (some (.int R.1)) (e_ov (kM o) (wM G b o R.2.1 R.2.2.1 R.2.2.2.1 R.2.2.2.2 a_images a_isKept a_tape v_taped v_from v_to v_sort v_worth v_fault v_bad v_nClauses a_nClause v_nCode a_nOp a_nArg v_nLeaves a_pile a_pileAt v_piled v_opened a_words a_headWords v_law a_set a_rest v_broken v_value v_sum a_chances a_votes a_costs a_table a_prices v_surely a_mostBy a_leastBy v_between v_steadyWays v_quashed v_but a_figures a_all a_lies a_since v_last v_state) c0) n) 0 0) 0 [(0, .ref (b + o)), (1, .int x1), (2, .int x2), (3, .int x3), (4, .int x4), (5, .int x5)] [] (e_ov (kM o) (wM G b o v_thrown v_status a_refusals a_row a_images a_isKept a_tape v_taped v_from v_to v_sort v_worth v_fault v_bad v_nClauses a_nClause v_nCode a_nOp a_nArg v_nLeaves a_pile a_pileAt v_piled v_opened a_words a_headWords v_law a_set a_rest v_broken v_value v_sum a_chances a_votes a_costs a_table a_prices v_surely a_mostBy a_leastBy v_between v_steadyWays v_quashed v_but a_figures a_all a_lies a_since v_last v_state) c0) n 0 0 := by
  unfold fX12_beast at hf
  refine E.aload_n 0 dX12_beast_0 rfl ?_
  refine E.iconst (v := 0) dX12_beast_1 (by decide) ?_
  refine E.put (es' := (wM G b o 0 v_status a_refusals a_row a_images a_isKept a_tape v_taped v_from v_to v_sort v_worth v_fault v_bad v_nClauses a_nClause v_nCode a_nOp a_nArg v_nLeaves a_pile a_pileAt v_piled v_opened a_words a_headWords v_law a_set a_rest v_broken v_value v_sum a_chances a_votes a_costs a_table a_prices v_surely a_mostBy a_leastBy v_between v_steadyWays v_quashed v_but a_figures a_all a_lies a_since v_last v_state)) hw 0 o dX12_beast_2 flX12_124 ftX12 rfl rfl rfl rfl rfl rfl (Nat.le_of_ble_eq_true rfl) rfl ?_
  refine E.iconst (v := 0) dX12_beast_5 (by decide) ?_
  refine E.iload_n 1 dX12_beast_6 rfl ?_
  obtain ⟨r1, hc1, hf⟩ := e_bind hf
  refine E.callSD [] dX12_beast_7 mlX12_149 (mX12_fits hc1) ⟨Nat.le_of_ble_eq_true rfl, Nat.le_of_ble_eq_true rfl⟩ rfl rfl (Nat.le_of_ble_eq_true rfl) ⟨Nat.le_refl _, Nat.le_refl _⟩ rfl ?_
  refine E.if_eq dX12_beast_10 (fun h => ?_) (fun h => ?_)
  · have hf := e_ift hf h
    refine E.locals [0] rfl ?_
    exact tX12_beast_L47 hw hf
  · have hf := e_iff hf h
    refine E.iconst (v := 1) dX12_beast_13 (by decide) ?_
    refine E.iload_n 2 dX12_beast_14 rfl ?_
    obtain ⟨r2, hc2, hf⟩ := e_bind hf
    refine E.callSD [] dX12_beast_15 mlX12_149 (mX12_fits hc2) ⟨Nat.le_of_ble_eq_true rfl, Nat.le_of_ble_eq_true rfl⟩ rfl rfl (Nat.le_of_ble_eq_true rfl) ⟨Nat.le_refl _, Nat.le_refl _⟩ rfl ?_
    refine E.if_eq dX12_beast_18 (fun h => ?_) (fun h => ?_)
    · have hf := e_ift hf h
      refine E.locals [0] rfl ?_
      exact tX12_beast_L47 hw hf
    · have hf := e_iff hf h
      refine E.iconst (v := 2) dX12_beast_21 (by decide) ?_
      refine E.iload_n 3 dX12_beast_22 rfl ?_
      obtain ⟨r3, hc3, hf⟩ := e_bind hf
      refine E.callSD [] dX12_beast_23 mlX12_149 (mX12_fits hc3) ⟨Nat.le_of_ble_eq_true rfl, Nat.le_of_ble_eq_true rfl⟩ rfl rfl (Nat.le_of_ble_eq_true rfl) ⟨Nat.le_refl _, Nat.le_refl _⟩ rfl ?_
      refine E.if_eq dX12_beast_26 (fun h => ?_) (fun h => ?_)
      · have hf := e_ift hf h
        refine E.locals [0] rfl ?_
        exact tX12_beast_L47 hw hf
      · have hf := e_iff hf h
        refine E.iconst (v := 3) dX12_beast_29 (by decide) ?_
        refine E.iload 4 dX12_beast_30 rfl ?_
        obtain ⟨r4, hc4, hf⟩ := e_bind hf
        refine E.callSD [] dX12_beast_32 mlX12_149 (mX12_fits hc4) ⟨Nat.le_of_ble_eq_true rfl, Nat.le_of_ble_eq_true rfl⟩ rfl rfl (Nat.le_of_ble_eq_true rfl) ⟨Nat.le_refl _, Nat.le_refl _⟩ rfl ?_
        refine E.if_eq dX12_beast_35 (fun h => ?_) (fun h => ?_)
        · have hf := e_ift hf h
          refine E.locals [0] rfl ?_
          exact tX12_beast_L47 hw hf
        · have hf := e_iff hf h
          refine E.iconst (v := 4) dX12_beast_38 (by decide) ?_
          refine E.iload 5 dX12_beast_39 rfl ?_
          obtain ⟨r5, hc5, hf⟩ := e_bind hf
          refine E.callSD [] dX12_beast_41 mlX12_149 (mX12_fits hc5) ⟨Nat.le_of_ble_eq_true rfl, Nat.le_of_ble_eq_true rfl⟩ rfl rfl (Nat.le_of_ble_eq_true rfl) ⟨Nat.le_refl _, Nat.le_refl _⟩ rfl ?_
          refine E.if_ne dX12_beast_44 (fun h => ?_) (fun h => ?_)
          · have hf := e_iff hf h
            refine E.aload_n 0 dX12_beast_53 rfl ?_
            refine E.get hw 0 o dX12_beast_54 flX12_13 rfl rfl rfl rfl ?_
            refine E.iconst (v := 0) dX12_beast_57 (by decide) ?_
            obtain ⟨g6, hf⟩ := gd_some hf
            refine E.iald hw 2 (o + 2) dX12_beast_58 rfl rfl g6 ?_
            refine E.istore (lv' := [(6, .int (a_row (0 : Int32).toNatClampNeg)), (0, .ref (b + o)), (1, .int x1), (2, .int x2), (3, .int x3), (4, .int x4), (5, .int x5)]) dX12_beast_59 (by decide) rfl ?_
            refine E.iload 0 dX12_beast_61 rfl ?_
            refine E.bipush (v := 8) dX12_beast_63 (by decide) ?_
            refine E.icmp_ne dX12_beast_65 (fun h => ?_) (fun h => ?_)
            · have hf := e_iff hf h
              refine E.bipush (v := 12) dX12_beast_75 (by decide) ?_
              refine E.bipush (v := 6) dX12_beast_77 (by decide) ?_
              refine E.iload 0 dX12_beast_79 rfl ?_
              refine E.imul dX12_beast_81 ?_
              refine E.iadd dX12_beast_82 ?_
              refine E.istore (lv' := [(7, .int (12 + (6 * (a_row (0 : Int32).toNatClampNeg)))), (6, .int (a_row (0 : Int32).toNatClampNeg)), (0, .ref (b + o)), (1, .int x1), (2, .int x2), (3, .int x3), (4, .int x4), (5, .int x5)]) dX12_beast_83 (by decide) rfl ?_
              refine E.aload_n 2 dX12_beast_85 rfl ?_
              refine E.get hw 0 o dX12_beast_86 flX12_13 rfl rfl rfl rfl ?_
              refine E.iload 0 dX12_beast_89 rfl ?_
              refine E.iload_n 3 dX12_beast_91 rfl ?_
              obtain ⟨g7, hf⟩ := gd_some hf
              refine E.iast (es' := (wM G b o 0 v_status a_refusals (va_up a_row ((12 + (6 * (a_row (0 : Int32).toNatClampNeg))) : Int32).toNatClampNeg x1) a_images a_isKept a_tape v_taped v_from v_to v_sort v_worth v_fault v_bad v_nClauses a_nClause v_nCode a_nOp a_nArg v_nLeaves a_pile a_pileAt v_piled v_opened a_words a_headWords v_law a_set a_rest v_broken v_value v_sum a_chances a_votes a_costs a_table a_prices v_surely a_mostBy a_leastBy v_between v_steadyWays v_quashed v_but a_figures a_all a_lies a_since v_last v_state)) hw 2 (o + 2) dX12_beast_92 rfl rfl g7 rfl ?_
              refine E.aload_n 2 dX12_beast_93 rfl ?_
              refine E.get hw 0 o dX12_beast_94 flX12_13 rfl rfl rfl rfl ?_
              refine E.iload 0 dX12_beast_97 rfl ?_
              refine E.iconst (v := 1) dX12_beast_99 (by decide) ?_
              refine E.iadd dX12_beast_100 ?_
              refine E.iload_n 4 dX12_beast_101 rfl ?_
              obtain ⟨g8, hf⟩ := gd_some hf
              refine E.iast (es' := (wM G b o 0 v_status a_refusals (va_up (va_up a_row ((12 + (6 * (a_row (0 : Int32).toNatClampNeg))) : Int32).toNatClampNeg x1) (((12 + (6 * (a_row (0 : Int32).toNatClampNeg))) + 1) : Int32).toNatClampNeg x2) a_images a_isKept a_tape v_taped v_from v_to v_sort v_worth v_fault v_bad v_nClauses a_nClause v_nCode a_nOp a_nArg v_nLeaves a_pile a_pileAt v_piled v_opened a_words a_headWords v_law a_set a_rest v_broken v_value v_sum a_chances a_votes a_costs a_table a_prices v_surely a_mostBy a_leastBy v_between v_steadyWays v_quashed v_but a_figures a_all a_lies a_since v_last v_state)) hw 2 (o + 2) dX12_beast_102 rfl rfl g8 rfl ?_
              refine E.aload_n 2 dX12_beast_103 rfl ?_
              refine E.get hw 0 o dX12_beast_104 flX12_13 rfl rfl rfl rfl ?_
              refine E.iload 0 dX12_beast_107 rfl ?_
              refine E.iconst (v := 2) dX12_beast_109 (by decide) ?_
              refine E.iadd dX12_beast_110 ?_
              refine E.iload_n 5 dX12_beast_111 rfl ?_
              obtain ⟨g9, hf⟩ := gd_some hf
              refine E.iast (es' := (wM G b o 0 v_status a_refusals (va_up (va_up (va_up a_row ((12 + (6 * (a_row (0 : Int32).toNatClampNeg))) : Int32).toNatClampNeg x1) (((12 + (6 * (a_row (0 : Int32).toNatClampNeg))) + 1) : Int32).toNatClampNeg x2) (((12 + (6 * (a_row (0 : Int32).toNatClampNeg))) + 2) : Int32).toNatClampNeg x3) a_images a_isKept a_tape v_taped v_from v_to v_sort v_worth v_fault v_bad v_nClauses a_nClause v_nCode a_nOp a_nArg v_nLeaves a_pile a_pileAt v_piled v_opened a_words a_headWords v_law a_set a_rest v_broken v_value v_sum a_chances a_votes a_costs a_table a_prices v_surely a_mostBy a_leastBy v_between v_steadyWays v_quashed v_but a_figures a_all a_lies a_since v_last v_state)) hw 2 (o + 2) dX12_beast_112 rfl rfl g9 rfl ?_
              refine E.aload_n 2 dX12_beast_113 rfl ?_
              refine E.get hw 0 o dX12_beast_114 flX12_13 rfl rfl rfl rfl ?_
              refine E.iload 0 dX12_beast_117 rfl ?_
              refine E.iconst (v := 3) dX12_beast_119 (by decide) ?_
              refine E.iadd dX12_beast_120 ?_
              refine E.iload 6 dX12_beast_121 rfl ?_
              obtain ⟨g10, hf⟩ := gd_some hf
              refine E.iast (es' := (wM G b o 0 v_status a_refusals (va_up (va_up (va_up (va_up a_row ((12 + (6 * (a_row (0 : Int32).toNatClampNeg))) : Int32).toNatClampNeg x1) (((12 + (6 * (a_row (0 : Int32).toNatClampNeg))) + 1) : Int32).toNatClampNeg x2) (((12 + (6 * (a_row (0 : Int32).toNatClampNeg))) + 2) : Int32).toNatClampNeg x3) (((12 + (6 * (a_row (0 : Int32).toNatClampNeg))) + 3) : Int32).toNatClampNeg x4) a_images a_isKept a_tape v_taped v_from v_to v_sort v_worth v_fault v_bad v_nClauses a_nClause v_nCode a_nOp a_nArg v_nLeaves a_pile a_pileAt v_piled v_opened a_words a_headWords v_law a_set a_rest v_broken v_value v_sum a_chances a_votes a_costs a_table a_prices v_surely a_mostBy a_leastBy v_between v_steadyWays v_quashed v_but a_figures a_all a_lies a_since v_last v_state)) hw 2 (o + 2) dX12_beast_123 rfl rfl g10 rfl ?_
              refine E.aload_n 2 dX12_beast_124 rfl ?_
              refine E.get hw 0 o dX12_beast_125 flX12_13 rfl rfl rfl rfl ?_
              refine E.iload 0 dX12_beast_128 rfl ?_
              refine E.iconst (v := 4) dX12_beast_130 (by decide) ?_
              refine E.iadd dX12_beast_131 ?_
              refine E.iload 7 dX12_beast_132 rfl ?_
              obtain ⟨g11, hf⟩ := gd_some hf
              refine E.iast (es' := (wM G b o 0 v_status a_refusals (va_up (va_up (va_up (va_up (va_up a_row ((12 + (6 * (a_row (0 : Int32).toNatClampNeg))) : Int32).toNatClampNeg x1) (((12 + (6 * (a_row (0 : Int32).toNatClampNeg))) + 1) : Int32).toNatClampNeg x2) (((12 + (6 * (a_row (0 : Int32).toNatClampNeg))) + 2) : Int32).toNatClampNeg x3) (((12 + (6 * (a_row (0 : Int32).toNatClampNeg))) + 3) : Int32).toNatClampNeg x4) (((12 + (6 * (a_row (0 : Int32).toNatClampNeg))) + 4) : Int32).toNatClampNeg x5) a_images a_isKept a_tape v_taped v_from v_to v_sort v_worth v_fault v_bad v_nClauses a_nClause v_nCode a_nOp a_nArg v_nLeaves a_pile a_pileAt v_piled v_opened a_words a_headWords v_law a_set a_rest v_broken v_value v_sum a_chances a_votes a_costs a_table a_prices v_surely a_mostBy a_leastBy v_between v_steadyWays v_quashed v_but a_figures a_all a_lies a_since v_last v_state)) hw 2 (o + 2) dX12_beast_134 rfl rfl g11 rfl ?_
              refine E.aload_n 2 dX12_beast_135 rfl ?_
              refine E.get hw 0 o dX12_beast_136 flX12_13 rfl rfl rfl rfl ?_
              refine E.iload 0 dX12_beast_139 rfl ?_
              refine E.iconst (v := 5) dX12_beast_141 (by decide) ?_
              refine E.iadd dX12_beast_142 ?_
              refine E.iconst (v := 0) dX12_beast_143 (by decide) ?_
              obtain ⟨g12, hf⟩ := gd_some hf
              refine E.iast (es' := (wM G b o 0 v_status a_refusals (va_up (va_up (va_up (va_up (va_up (va_up a_row ((12 + (6 * (a_row (0 : Int32).toNatClampNeg))) : Int32).toNatClampNeg x1) (((12 + (6 * (a_row (0 : Int32).toNatClampNeg))) + 1) : Int32).toNatClampNeg x2) (((12 + (6 * (a_row (0 : Int32).toNatClampNeg))) + 2) : Int32).toNatClampNeg x3) (((12 + (6 * (a_row (0 : Int32).toNatClampNeg))) + 3) : Int32).toNatClampNeg x4) (((12 + (6 * (a_row (0 : Int32).toNatClampNeg))) + 4) : Int32).toNatClampNeg x5) (((12 + (6 * (a_row (0 : Int32).toNatClampNeg))) + 5) : Int32).toNatClampNeg 0) a_images a_isKept a_tape v_taped v_from v_to v_sort v_worth v_fault v_bad v_nClauses a_nClause v_nCode a_nOp a_nArg v_nLeaves a_pile a_pileAt v_piled v_opened a_words a_headWords v_law a_set a_rest v_broken v_value v_sum a_chances a_votes a_costs a_table a_prices v_surely a_mostBy a_leastBy v_between v_steadyWays v_quashed v_but a_figures a_all a_lies a_since v_last v_state)) hw 2 (o + 2) dX12_beast_144 rfl rfl g12 rfl ?_
              refine E.aload_n 2 dX12_beast_145 rfl ?_
              refine E.get hw 0 o dX12_beast_146 flX12_13 rfl rfl rfl rfl ?_
              refine E.iconst (v := 0) dX12_beast_149 (by decide) ?_
              refine E.dup2_11 dX12_beast_150 rfl rfl ?_
              obtain ⟨g13, hf⟩ := gd_some hf
              refine E.iald hw 2 (o + 2) dX12_beast_151 rfl rfl g13 ?_
              refine E.iconst (v := 1) dX12_beast_152 (by decide) ?_
              refine E.iadd dX12_beast_153 ?_
              obtain ⟨g14, hf⟩ := gd_some hf
              refine E.iast (es' := (wM G b o 0 v_status a_refusals (va_up (va_up (va_up (va_up (va_up (va_up (va_up a_row ((12 + (6 * (a_row (0 : Int32).toNatClampNeg))) : Int32).toNatClampNeg x1) (((12 + (6 * (a_row (0 : Int32).toNatClampNeg))) + 1) : Int32).toNatClampNeg x2) (((12 + (6 * (a_row (0 : Int32).toNatClampNeg))) + 2) : Int32).toNatClampNeg x3) (((12 + (6 * (a_row (0 : Int32).toNatClampNeg))) + 3) : Int32).toNatClampNeg x4) (((12 + (6 * (a_row (0 : Int32).toNatClampNeg))) + 4) : Int32).toNatClampNeg x5) (((12 + (6 * (a_row (0 : Int32).toNatClampNeg))) + 5) : Int32).toNatClampNeg 0) (0 : Int32).toNatClampNeg (((va_up (va_up (va_up (va_up (va_up (va_up a_row ((12 + (6 * (a_row (0 : Int32).toNatClampNeg))) : Int32).toNatClampNeg x1) (((12 + (6 * (a_row (0 : Int32).toNatClampNeg))) + 1) : Int32).toNatClampNeg x2) (((12 + (6 * (a_row (0 : Int32).toNatClampNeg))) + 2) : Int32).toNatClampNeg x3) (((12 + (6 * (a_row (0 : Int32).toNatClampNeg))) + 3) : Int32).toNatClampNeg x4) (((12 + (6 * (a_row (0 : Int32).toNatClampNeg))) + 4) : Int32).toNatClampNeg x5) (((12 + (6 * (a_row (0 : Int32).toNatClampNeg))) + 5) : Int32).toNatClampNeg 0) (0 : Int32).toNatClampNeg) + 1)) a_images a_isKept a_tape v_taped v_from v_to v_sort v_worth v_fault v_bad v_nClauses a_nClause v_nCode a_nOp a_nArg v_nLeaves a_pile a_pileAt v_piled v_opened a_words a_headWords v_law a_set a_rest v_broken v_value v_sum a_chances a_votes a_costs a_table a_prices v_surely a_mostBy a_leastBy v_between v_steadyWays v_quashed v_but a_figures a_all a_lies a_since v_last v_state)) hw 2 (o + 2) dX12_beast_154 rfl rfl g14 rfl ?_
              refine E.aload_n 2 dX12_beast_155 rfl ?_
              refine E.iload 1 dX12_beast_156 rfl ?_
              obtain ⟨r15, hc15, hf⟩ := e_bind hf
              refine E.callVD [] dX12_beast_158 mlX12_138 ⟨hw.sub (p := 0) rfl, e_ov_get hw.1 (p := 0) rfl rfl⟩ rfl rfl (mX12_tell hw hc15) ⟨Nat.le_of_ble_eq_true rfl, Nat.le_of_ble_eq_true rfl⟩ rfl rfl (Nat.le_of_ble_eq_true rfl) ⟨Nat.le_refl _, Nat.le_refl _⟩ rfl ?_
              cases hf
              exact E.iret dX12_beast_161 (Nat.le_refl _) (Nat.le_refl _) (pD_rf _ _ _)
            · have hf := e_ift hf h
              refine E.aload_n 1 dX12_beast_68 rfl ?_
              refine E.bipush (v := -5) dX12_beast_69 (by decide) ?_
              obtain ⟨r16, hc16, hf⟩ := e_bind hf
              refine E.callVD [] dX12_beast_71 mlX12_138 ⟨hw.sub (p := 0) rfl, e_ov_get hw.1 (p := 0) rfl rfl⟩ rfl rfl (mX12_tell hw hc16) ⟨Nat.le_of_ble_eq_true rfl, Nat.le_of_ble_eq_true rfl⟩ rfl rfl (Nat.le_of_ble_eq_true rfl) ⟨Nat.le_refl _, Nat.le_refl _⟩ rfl ?_
              cases hf
              exact E.iret dX12_beast_74 (Nat.le_refl _) (Nat.le_refl _) (pD_rf _ _ _)
          · have hf := e_ift hf h
            refine E.locals [0] rfl ?_
            exact tX12_beast_L47 hw hf
set_option maxRecDepth 100000 in
theorem mX12_beast {G : GT} {b : Nat} {o : Nat} {c0 : Hp} {n : Nat} (hw : e_wf (kM o) n) {a_images : Nat → Int32} {a_isKept : Nat → Int32} {a_tape : Nat → Int32} {v_taped : Int32} {v_from : Int32} {v_to : Int32} {v_sort : Int32} {v_worth : Int64} {v_fault : Int32} {v_bad : Int32} {v_nClauses : Int32} {a_nClause : Nat → Int32} {v_nCode : Int32} {a_nOp : Nat → Int32} {a_nArg : Nat → Int32} {v_nLeaves : Int32} {a_pile : Nat → Int32} {a_pileAt : Nat → Int32} {v_piled : Int32} {v_opened : Int32} {a_words : Nat → Int64} {a_headWords : Nat → Int64} {v_law : Int32} {a_set : Nat → Int64} {a_rest : Nat → Int64} {v_broken : Int32} {v_value : Int64} {v_sum : Int64} {a_chances : Nat → Int32} {a_votes : Nat → Int64} {a_costs : Nat → Int32} {a_table : Nat → Int64} {a_prices : Nat → Int32} {v_surely : Int64} {a_mostBy : Nat → Int64} {a_leastBy : Nat → Int64} {v_between : Int64} {v_steadyWays : Int32} {v_quashed : Int32} {v_but : Int32} {a_figures : Nat → Int32} {a_all : Nat → Int32} {a_lies : Nat → Int32} {a_since : Nat → Int32} {v_last : Int32} {v_state : Int64} {v_thrown : Int32} {v_status : Int32} {a_refusals : Nat → Int32} {a_row : Nat → Int32} {x1 : Int32} {x2 : Int32} {x3 : Int32} {x4 : Int32} {x5 : Int32} {R : Int32 × Int32 × Int32 × (Nat → Int32) × (Nat → Int32)} (hf : fX12_beast v_thrown v_status a_refusals a_row x1 x2 x3 x4 x5 = some R) : e_C G b yX12_beast cX12_beast 8 (some .int) 2 0 0 [.ref (b + o), .int x1, .int x2, .int x3, .int x4, .int x5] (e_ov (kM o) (wM G b o v_thrown v_status a_refusals a_row a_images a_isKept a_tape v_taped v_from v_to v_sort v_worth v_fault v_bad v_nClauses a_nClause v_nCode a_nOp a_nArg v_nLeaves a_pile a_pileAt v_piled v_opened a_words a_headWords v_law a_set a_rest v_broken v_value v_sum a_chances a_votes a_costs a_table a_prices v_surely a_mostBy a_leastBy v_between v_steadyWays v_quashed v_but a_figures a_all a_lies a_since v_last v_state) c0) n (pD (some (.int R.1)) (e_ov (kM o) (wM G b o R.2.1 R.2.2.1 R.2.2.2.1 R.2.2.2.2 a_images a_isKept a_tape v_taped v_from v_to v_sort v_worth v_fault v_bad v_nClauses a_nClause v_nCode a_nOp a_nArg v_nLeaves a_pile a_pileAt v_piled v_opened a_words a_headWords v_law a_set a_rest v_broken v_value v_sum a_chances a_votes a_costs a_table a_prices v_surely a_mostBy a_leastBy v_between v_steadyWays v_quashed v_but a_figures a_all a_lies a_since v_last v_state) c0) n) := e_C.of (by decide) (Nat.le_of_ble_eq_true rfl) (tX12_beast hw hf)
def fX12_put (v_thrown : Int32) (v_status : Int32) (a_refusals : Nat → Int32) (a_row : Nat → Int32) (x1 : Int32) (x2 : Int32) (x3 : Int32) : Option (Int32 × Int32 × Int32 × (Nat → Int32) × (Nat → Int32)) := (fX12_fits x2 x3).bind fun r1 => (if (r1 : Int32) = 0 then ((fX12_tell v_status a_refusals (-1 : Int32)).bind fun r5 => (some (r5.1, 0, r5.2.1, r5.2.2, a_row))) else ((fX12_isBeast a_row x1).bind fun r2 => (if (r2 : Int32) = 0 then ((fX12_tell v_status a_refusals (-2 : Int32)).bind fun r3 => (some (r3.1, 0, r3.2.1, r3.2.2, a_row))) else ((fX12_change v_status a_row ((12 + (6 * x1)) + x2) x3).bind fun r4 => (some (r4.1, 0, r4.2.1, a_refusals, r4.2.2))))))
set_option maxHeartbeats 4000000 in
set_option maxRecDepth 100000 in
theorem tX12_put {G : GT} {b : Nat} {o : Nat} {c0 : Hp} {n : Nat} (hw : e_wf (kM o) n) {a_images : Nat → Int32} {a_isKept : Nat → Int32} {a_tape : Nat → Int32} {v_taped : Int32} {v_from : Int32} {v_to : Int32} {v_sort : Int32} {v_worth : Int64} {v_fault : Int32} {v_bad : Int32} {v_nClauses : Int32} {a_nClause : Nat → Int32} {v_nCode : Int32} {a_nOp : Nat → Int32} {a_nArg : Nat → Int32} {v_nLeaves : Int32} {a_pile : Nat → Int32} {a_pileAt : Nat → Int32} {v_piled : Int32} {v_opened : Int32} {a_words : Nat → Int64} {a_headWords : Nat → Int64} {v_law : Int32} {a_set : Nat → Int64} {a_rest : Nat → Int64} {v_broken : Int32} {v_value : Int64} {v_sum : Int64} {a_chances : Nat → Int32} {a_votes : Nat → Int64} {a_costs : Nat → Int32} {a_table : Nat → Int64} {a_prices : Nat → Int32} {v_surely : Int64} {a_mostBy : Nat → Int64} {a_leastBy : Nat → Int64} {v_between : Int64} {v_steadyWays : Int32} {v_quashed : Int32} {v_but : Int32} {a_figures : Nat → Int32} {a_all : Nat → Int32} {a_lies : Nat → Int32} {a_since : Nat → Int32} {v_last : Int32} {v_state : Int64} {v_thrown : Int32} {v_status : Int32} {a_refusals : Nat → Int32} {a_row : Nat → Int32} {x1 : Int32} {x2 : Int32} {x3 : Int32} {R : Int32 × Int32 × Int32 × (Nat → Int32) × (Nat → Int32)} (hf : fX12_put v_thrown v_status a_refusals a_row x1 x2 x3 = some R) : E G b yX12_put cX12_put 4 (some .int) (e_rm 2 0 0) e_X0 (e_Z G b (pD (some (.int R.1)) (e_ov (kM o) (wM G b o R.2.1 R.2.2.1 R.2.2.2.1 R.2.2.2.2 a_images a_isKept a_tape v_taped v_from v_to v_sort v_worth v_fault v_bad v_nClauses a_nClause v_nCode a_nOp a_nArg v_nLeaves a_pile a_pileAt v_piled v_opened a_words a_headWords v_law a_set a_rest v_broken v_value v_sum a_chances a_votes a_costs a_table a_prices v_surely a_mostBy a_leastBy v_between v_steadyWays v_quashed v_but a_figures a_all a_lies a_since v_last v_state) c0) n) 0 0) 0 [(0, .ref (b + o)), (1, .int x1), (2, .int x2), (3, .int x3)] [] (e_ov (kM o) (wM G b o v_thrown v_status a_refusals a_row a_images a_isKept a_tape v_taped v_from v_to v_sort v_worth v_fault v_bad v_nClauses a_nClause v_nCode a_nOp a_nArg v_nLeaves a_pile a_pileAt v_piled v_opened a_words a_headWords v_law a_set a_rest v_broken v_value v_sum a_chances a_votes a_costs a_table a_prices v_surely a_mostBy a_leastBy v_between v_steadyWays v_quashed v_but a_figures a_all a_lies a_since v_last v_state) c0) n 0 0 := by
  unfold fX12_put at hf
  refine E.aload_n 0 dX12_put_0 rfl ?_
  refine E.iconst (v := 0) dX12_put_1 (by decide) ?_
  refine E.put (es' := (wM G b o 0 v_status a_refusals a_row a_images a_isKept a_tape v_taped v_from v_to v_sort v_worth v_fault v_bad v_nClauses a_nClause v_nCode a_nOp a_nArg v_nLeaves a_pile a_pileAt v_piled v_opened a_words a_headWords v_law a_set a_rest v_broken v_value v_sum a_chances a_votes a_costs a_table a_prices v_surely a_mostBy a_leastBy v_between v_steadyWays v_quashed v_but a_figures a_all a_lies a_since v_last v_state)) hw 0 o dX12_put_2 flX12_124 ftX12 rfl rfl rfl rfl rfl rfl (Nat.le_of_ble_eq_true rfl) rfl ?_
  refine E.iload_n 2 dX12_put_5 rfl ?_
  refine E.iload_n 3 dX12_put_6 rfl ?_
  obtain ⟨r1, hc1, hf⟩ := e_bind hf
  refine E.callSD [] dX12_put_7 mlX12_149 (mX12_fits hc1) ⟨Nat.le_of_ble_eq_true rfl, Nat.le_of_ble_eq_true rfl⟩ rfl rfl (Nat.le_of_ble_eq_true rfl) ⟨Nat.le_refl _, Nat.le_refl _⟩ rfl ?_
  refine E.if_ne dX12_put_10 (fun h => ?_) (fun h => ?_)
  · have hf := e_iff hf h
    refine E.aload_n 0 dX12_put_19 rfl ?_
    refine E.iload_n 1 dX12_put_20 rfl ?_
    obtain ⟨r2, hc2, hf⟩ := e_bind hf
    refine E.callVD [] dX12_put_21 mlX12_153 ⟨hw.sub (p := 0) rfl, e_ov_get hw.1 (p := 0) rfl rfl⟩ rfl rfl (mX12_isBeast hw hc2) ⟨Nat.le_of_ble_eq_true rfl, Nat.le_of_ble_eq_true rfl⟩ rfl rfl (Nat.le_of_ble_eq_true rfl) ⟨Nat.le_refl _, Nat.le_refl _⟩ rfl ?_
    refine E.if_eq dX12_put_24 (fun h => ?_) (fun h => ?_)
    · have hf := e_ift hf h
      refine E.aload_n 0 dX12_put_44 rfl ?_
      refine E.bipush (v := -2) dX12_put_45 (by decide) ?_
      obtain ⟨r3, hc3, hf⟩ := e_bind hf
      refine E.callVD [] dX12_put_47 mlX12_138 ⟨hw.sub (p := 0) rfl, e_ov_get hw.1 (p := 0) rfl rfl⟩ rfl rfl (mX12_tell hw hc3) ⟨Nat.le_of_ble_eq_true rfl, Nat.le_of_ble_eq_true rfl⟩ rfl rfl (Nat.le_of_ble_eq_true rfl) ⟨Nat.le_refl _, Nat.le_refl _⟩ rfl ?_
      cases hf
      exact E.iret dX12_put_50 (Nat.le_refl _) (Nat.le_refl _) (pD_rf _ _ _)
    · have hf := e_iff hf h
      refine E.aload_n 0 dX12_put_27 rfl ?_
      refine E.bipush (v := 12) dX12_put_28 (by decide) ?_
      refine E.bipush (v := 6) dX12_put_30 (by decide) ?_
      refine E.iload_n 1 dX12_put_32 rfl ?_
      refine E.imul dX12_put_33 ?_
      refine E.iadd dX12_put_34 ?_
      refine E.iload_n 2 dX12_put_35 rfl ?_
      refine E.iadd dX12_put_36 ?_
      refine E.iload_n 3 dX12_put_37 rfl ?_
      obtain ⟨r4, hc4, hf⟩ := e_bind hf
      refine E.callVD [] dX12_put_38 mlX12_157 ⟨hw.sub (p := 0) rfl, e_ov_get hw.1 (p := 0) rfl rfl⟩ rfl rfl (mX12_change hw hc4) ⟨Nat.le_of_ble_eq_true rfl, Nat.le_of_ble_eq_true rfl⟩ rfl rfl (Nat.le_of_ble_eq_true rfl) ⟨Nat.le_refl _, Nat.le_refl _⟩ rfl ?_
      refine E.goto dX12_put_41 ?_
      cases hf
      exact E.iret dX12_put_50 (Nat.le_refl _) (Nat.le_refl _) (pD_rf _ _ _)
  · have hf := e_ift hf h
    refine E.aload_n 0 dX12_put_13 rfl ?_
    refine E.iconst (v := -1) dX12_put_14 (by decide) ?_
    obtain ⟨r5, hc5, hf⟩ := e_bind hf
    refine E.callVD [] dX12_put_15 mlX12_138 ⟨hw.sub (p := 0) rfl, e_ov_get hw.1 (p := 0) rfl rfl⟩ rfl rfl (mX12_tell hw hc5) ⟨Nat.le_of_ble_eq_true rfl, Nat.le_of_ble_eq_true rfl⟩ rfl rfl (Nat.le_of_ble_eq_true rfl) ⟨Nat.le_refl _, Nat.le_refl _⟩ rfl ?_
    cases hf
    exact E.iret dX12_put_18 (Nat.le_refl _) (Nat.le_refl _) (pD_rf _ _ _)
set_option maxRecDepth 100000 in
theorem mX12_put {G : GT} {b : Nat} {o : Nat} {c0 : Hp} {n : Nat} (hw : e_wf (kM o) n) {a_images : Nat → Int32} {a_isKept : Nat → Int32} {a_tape : Nat → Int32} {v_taped : Int32} {v_from : Int32} {v_to : Int32} {v_sort : Int32} {v_worth : Int64} {v_fault : Int32} {v_bad : Int32} {v_nClauses : Int32} {a_nClause : Nat → Int32} {v_nCode : Int32} {a_nOp : Nat → Int32} {a_nArg : Nat → Int32} {v_nLeaves : Int32} {a_pile : Nat → Int32} {a_pileAt : Nat → Int32} {v_piled : Int32} {v_opened : Int32} {a_words : Nat → Int64} {a_headWords : Nat → Int64} {v_law : Int32} {a_set : Nat → Int64} {a_rest : Nat → Int64} {v_broken : Int32} {v_value : Int64} {v_sum : Int64} {a_chances : Nat → Int32} {a_votes : Nat → Int64} {a_costs : Nat → Int32} {a_table : Nat → Int64} {a_prices : Nat → Int32} {v_surely : Int64} {a_mostBy : Nat → Int64} {a_leastBy : Nat → Int64} {v_between : Int64} {v_steadyWays : Int32} {v_quashed : Int32} {v_but : Int32} {a_figures : Nat → Int32} {a_all : Nat → Int32} {a_lies : Nat → Int32} {a_since : Nat → Int32} {v_last : Int32} {v_state : Int64} {v_thrown : Int32} {v_status : Int32} {a_refusals : Nat → Int32} {a_row : Nat → Int32} {x1 : Int32} {x2 : Int32} {x3 : Int32} {R : Int32 × Int32 × Int32 × (Nat → Int32) × (Nat → Int32)} (hf : fX12_put v_thrown v_status a_refusals a_row x1 x2 x3 = some R) : e_C G b yX12_put cX12_put 4 (some .int) 2 0 0 [.ref (b + o), .int x1, .int x2, .int x3] (e_ov (kM o) (wM G b o v_thrown v_status a_refusals a_row a_images a_isKept a_tape v_taped v_from v_to v_sort v_worth v_fault v_bad v_nClauses a_nClause v_nCode a_nOp a_nArg v_nLeaves a_pile a_pileAt v_piled v_opened a_words a_headWords v_law a_set a_rest v_broken v_value v_sum a_chances a_votes a_costs a_table a_prices v_surely a_mostBy a_leastBy v_between v_steadyWays v_quashed v_but a_figures a_all a_lies a_since v_last v_state) c0) n (pD (some (.int R.1)) (e_ov (kM o) (wM G b o R.2.1 R.2.2.1 R.2.2.2.1 R.2.2.2.2 a_images a_isKept a_tape v_taped v_from v_to v_sort v_worth v_fault v_bad v_nClauses a_nClause v_nCode a_nOp a_nArg v_nLeaves a_pile a_pileAt v_piled v_opened a_words a_headWords v_law a_set a_rest v_broken v_value v_sum a_chances a_votes a_costs a_table a_prices v_surely a_mostBy a_leastBy v_between v_steadyWays v_quashed v_but a_figures a_all a_lies a_since v_last v_state) c0) n) := e_C.of (by decide) (Nat.le_of_ble_eq_true rfl) (tX12_put hw hf)
def fX12_of_L34 (v_thrown : Int32) (a_row : Nat → Int32) : Option (Int32 × Int32) := some ((-1 : Int32), v_thrown)
set_option maxHeartbeats 4000000 in
set_option maxRecDepth 100000 in
theorem tX12_of_L34 {G : GT} {b : Nat} {o : Nat} {c0 : Hp} {n : Nat} (hw : e_wf (kM o) n) {v_status : Int32} {a_refusals : Nat → Int32} {a_images : Nat → Int32} {a_isKept : Nat → Int32} {a_tape : Nat → Int32} {v_taped : Int32} {v_from : Int32} {v_to : Int32} {v_sort : Int32} {v_worth : Int64} {v_fault : Int32} {v_bad : Int32} {v_nClauses : Int32} {a_nClause : Nat → Int32} {v_nCode : Int32} {a_nOp : Nat → Int32} {a_nArg : Nat → Int32} {v_nLeaves : Int32} {a_pile : Nat → Int32} {a_pileAt : Nat → Int32} {v_piled : Int32} {v_opened : Int32} {a_words : Nat → Int64} {a_headWords : Nat → Int64} {v_law : Int32} {a_set : Nat → Int64} {a_rest : Nat → Int64} {v_broken : Int32} {v_value : Int64} {v_sum : Int64} {a_chances : Nat → Int32} {a_votes : Nat → Int64} {a_costs : Nat → Int32} {a_table : Nat → Int64} {a_prices : Nat → Int32} {v_surely : Int64} {a_mostBy : Nat → Int64} {a_leastBy : Nat → Int64} {v_between : Int64} {v_steadyWays : Int32} {v_quashed : Int32} {v_but : Int32} {a_figures : Nat → Int32} {a_all : Nat → Int32} {a_lies : Nat → Int32} {a_since : Nat → Int32} {v_last : Int32} {v_state : Int64} {v_thrown : Int32} {a_row : Nat → Int32} {R : Int32 × Int32} (hf : fX12_of_L34 v_thrown a_row = some R) : E G b yX12_of cX12_of 3 (some .int) (e_rm 2 0 0) e_X0 (e_Z G b (pD (some (.int R.1)) (e_ov (kM o) (wM G b o R.2 v_status a_refusals a_row a_images a_isKept a_tape v_taped v_from v_to v_sort v_worth v_fault v_bad v_nClauses a_nClause v_nCode a_nOp a_nArg v_nLeaves a_pile a_pileAt v_piled v_opened a_words a_headWords v_law a_set a_rest v_broken v_value v_sum a_chances a_votes a_costs a_table a_prices v_surely a_mostBy a_leastBy v_between v_steadyWays v_quashed v_but a_figures a_all a_lies a_since v_last v_state) c0) n) 0 0) 34 [] [] (e_ov (kM o) (wM G b o v_thrown v_status a_refusals a_row a_images a_isKept a_tape v_taped v_from v_to v_sort v_worth v_fault v_bad v_nClauses a_nClause v_nCode a_nOp a_nArg v_nLeaves a_pile a_pileAt v_piled v_opened a_words a_headWords v_law a_set a_rest v_broken v_value v_sum a_chances a_votes a_costs a_table a_prices v_surely a_mostBy a_leastBy v_between v_steadyWays v_quashed v_but a_figures a_all a_lies a_since v_last v_state) c0) n 0 0 := by
  unfold fX12_of_L34 at hf
  refine E.iconst (v := -1) dX12_of_34 (by decide) ?_
  cases hf
  exact E.iret dX12_of_35 (Nat.le_refl _) (Nat.le_refl _) (pD_rf _ _ _)
def fX12_of (v_thrown : Int32) (a_row : Nat → Int32) (x1 : Int32) (x2 : Int32) : Option (Int32 × Int32) := (fX12_isBeast a_row x1).bind fun r1 => (if (r1 : Int32) = 0 then (fX12_of_L34 0 a_row) else ((fX12_in ((x2 : Int32).toInt64) 0 5).bind fun r2 => (if (r2 : Int32) = 0 then (fX12_of_L34 0 a_row) else ((fX12_ofBeast a_row x1 x2).bind fun r3 => (some (r3, 0))))))
set_option maxHeartbeats 4000000 in
set_option maxRecDepth 100000 in
theorem tX12_of {G : GT} {b : Nat} {o : Nat} {c0 : Hp} {n : Nat} (hw : e_wf (kM o) n) {v_status : Int32} {a_refusals : Nat → Int32} {a_images : Nat → Int32} {a_isKept : Nat → Int32} {a_tape : Nat → Int32} {v_taped : Int32} {v_from : Int32} {v_to : Int32} {v_sort : Int32} {v_worth : Int64} {v_fault : Int32} {v_bad : Int32} {v_nClauses : Int32} {a_nClause : Nat → Int32} {v_nCode : Int32} {a_nOp : Nat → Int32} {a_nArg : Nat → Int32} {v_nLeaves : Int32} {a_pile : Nat → Int32} {a_pileAt : Nat → Int32} {v_piled : Int32} {v_opened : Int32} {a_words : Nat → Int64} {a_headWords : Nat → Int64} {v_law : Int32} {a_set : Nat → Int64} {a_rest : Nat → Int64} {v_broken : Int32} {v_value : Int64} {v_sum : Int64} {a_chances : Nat → Int32} {a_votes : Nat → Int64} {a_costs : Nat → Int32} {a_table : Nat → Int64} {a_prices : Nat → Int32} {v_surely : Int64} {a_mostBy : Nat → Int64} {a_leastBy : Nat → Int64} {v_between : Int64} {v_steadyWays : Int32} {v_quashed : Int32} {v_but : Int32} {a_figures : Nat → Int32} {a_all : Nat → Int32} {a_lies : Nat → Int32} {a_since : Nat → Int32} {v_last : Int32} {v_state : Int64} {v_thrown : Int32} {a_row : Nat → Int32} {x1 : Int32} {x2 : Int32} {R : Int32 × Int32} (hf : fX12_of v_thrown a_row x1 x2 = some R) : E G b yX12_of cX12_of 3 (some .int) (e_rm 2 0 0) e_X0 (e_Z G b (pD (some (.int R.1)) (e_ov (kM o) (wM G b o R.2 v_status a_refusals a_row a_images a_isKept a_tape v_taped v_from v_to v_sort v_worth v_fault v_bad v_nClauses a_nClause v_nCode a_nOp a_nArg v_nLeaves a_pile a_pileAt v_piled v_opened a_words a_headWords v_law a_set a_rest v_broken v_value v_sum a_chances a_votes a_costs a_table a_prices v_surely a_mostBy a_leastBy v_between v_steadyWays v_quashed v_but a_figures a_all a_lies a_since v_last v_state) c0) n) 0 0) 0 [(0, .ref (b + o)), (1, .int x1), (2, .int x2)] [] (e_ov (kM o) (wM G b o v_thrown v_status a_refusals a_row a_images a_isKept a_tape v_taped v_from v_to v_sort v_worth v_fault v_bad v_nClauses a_nClause v_nCode a_nOp a_nArg v_nLeaves a_pile a_pileAt v_piled v_opened a_words a_headWords v_law a_set a_rest v_broken v_value v_sum a_chances a_votes a_costs a_table a_prices v_surely a_mostBy a_leastBy v_between v_steadyWays v_quashed v_but a_figures a_all a_lies a_since v_last v_state) c0) n 0 0 := by
  unfold fX12_of at hf
  refine E.aload_n 0 dX12_of_0 rfl ?_
  refine E.iconst (v := 0) dX12_of_1 (by decide) ?_
  refine E.put (es' := (wM G b o 0 v_status a_refusals a_row a_images a_isKept a_tape v_taped v_from v_to v_sort v_worth v_fault v_bad v_nClauses a_nClause v_nCode a_nOp a_nArg v_nLeaves a_pile a_pileAt v_piled v_opened a_words a_headWords v_law a_set a_rest v_broken v_value v_sum a_chances a_votes a_costs a_table a_prices v_surely a_mostBy a_leastBy v_between v_steadyWays v_quashed v_but a_figures a_all a_lies a_since v_last v_state)) hw 0 o dX12_of_2 flX12_124 ftX12 rfl rfl rfl rfl rfl rfl (Nat.le_of_ble_eq_true rfl) rfl ?_
  refine E.aload_n 0 dX12_of_5 rfl ?_
  refine E.iload_n 1 dX12_of_6 rfl ?_
  obtain ⟨r1, hc1, hf⟩ := e_bind hf
  refine E.callVD [] dX12_of_7 mlX12_153 ⟨hw.sub (p := 0) rfl, e_ov_get hw.1 (p := 0) rfl rfl⟩ rfl rfl (mX12_isBeast hw hc1) ⟨Nat.le_of_ble_eq_true rfl, Nat.le_of_ble_eq_true rfl⟩ rfl rfl (Nat.le_of_ble_eq_true rfl) ⟨Nat.le_refl _, Nat.le_refl _⟩ rfl ?_
  refine E.if_eq dX12_of_10 (fun h => ?_) (fun h => ?_)
  · have hf := e_ift hf h
    refine E.locals [] rfl ?_
    exact tX12_of_L34 hw hf
  · have hf := e_iff hf h
    refine E.iload_n 2 dX12_of_13 rfl ?_
    refine E.i2l dX12_of_14 ?_
    refine E.lconst (v := 0) dX12_of_15 (by decide) ?_
    refine E.ldc2 dX12_of_16 kX12_161 ?_
    obtain ⟨r2, hc2, hf⟩ := e_bind hf
    refine E.callSD [] dX12_of_19 mlX12_134 (mX12_in hc2) ⟨Nat.le_of_ble_eq_true rfl, Nat.le_of_ble_eq_true rfl⟩ rfl rfl (Nat.le_of_ble_eq_true rfl) ⟨Nat.le_refl _, Nat.le_refl _⟩ rfl ?_
    refine E.if_eq dX12_of_22 (fun h => ?_) (fun h => ?_)
    · have hf := e_ift hf h
      refine E.locals [] rfl ?_
      exact tX12_of_L34 hw hf
    · have hf := e_iff hf h
      refine E.aload_n 0 dX12_of_25 rfl ?_
      refine E.iload_n 1 dX12_of_26 rfl ?_
      refine E.iload_n 2 dX12_of_27 rfl ?_
      obtain ⟨r3, hc3, hf⟩ := e_bind hf
      refine E.callVD [] dX12_of_28 mlX12_163 ⟨hw.sub (p := 0) rfl, e_ov_get hw.1 (p := 0) rfl rfl⟩ rfl rfl (mX12_ofBeast hw hc3) ⟨Nat.le_of_ble_eq_true rfl, Nat.le_of_ble_eq_true rfl⟩ rfl rfl (Nat.le_of_ble_eq_true rfl) ⟨Nat.le_refl _, Nat.le_refl _⟩ rfl ?_
      refine E.goto dX12_of_31 ?_
      cases hf
      exact E.iret dX12_of_35 (Nat.le_refl _) (Nat.le_refl _) (pD_rf _ _ _)
set_option maxRecDepth 100000 in
theorem mX12_of {G : GT} {b : Nat} {o : Nat} {c0 : Hp} {n : Nat} (hw : e_wf (kM o) n) {v_status : Int32} {a_refusals : Nat → Int32} {a_images : Nat → Int32} {a_isKept : Nat → Int32} {a_tape : Nat → Int32} {v_taped : Int32} {v_from : Int32} {v_to : Int32} {v_sort : Int32} {v_worth : Int64} {v_fault : Int32} {v_bad : Int32} {v_nClauses : Int32} {a_nClause : Nat → Int32} {v_nCode : Int32} {a_nOp : Nat → Int32} {a_nArg : Nat → Int32} {v_nLeaves : Int32} {a_pile : Nat → Int32} {a_pileAt : Nat → Int32} {v_piled : Int32} {v_opened : Int32} {a_words : Nat → Int64} {a_headWords : Nat → Int64} {v_law : Int32} {a_set : Nat → Int64} {a_rest : Nat → Int64} {v_broken : Int32} {v_value : Int64} {v_sum : Int64} {a_chances : Nat → Int32} {a_votes : Nat → Int64} {a_costs : Nat → Int32} {a_table : Nat → Int64} {a_prices : Nat → Int32} {v_surely : Int64} {a_mostBy : Nat → Int64} {a_leastBy : Nat → Int64} {v_between : Int64} {v_steadyWays : Int32} {v_quashed : Int32} {v_but : Int32} {a_figures : Nat → Int32} {a_all : Nat → Int32} {a_lies : Nat → Int32} {a_since : Nat → Int32} {v_last : Int32} {v_state : Int64} {v_thrown : Int32} {a_row : Nat → Int32} {x1 : Int32} {x2 : Int32} {R : Int32 × Int32} (hf : fX12_of v_thrown a_row x1 x2 = some R) : e_C G b yX12_of cX12_of 3 (some .int) 2 0 0 [.ref (b + o), .int x1, .int x2] (e_ov (kM o) (wM G b o v_thrown v_status a_refusals a_row a_images a_isKept a_tape v_taped v_from v_to v_sort v_worth v_fault v_bad v_nClauses a_nClause v_nCode a_nOp a_nArg v_nLeaves a_pile a_pileAt v_piled v_opened a_words a_headWords v_law a_set a_rest v_broken v_value v_sum a_chances a_votes a_costs a_table a_prices v_surely a_mostBy a_leastBy v_between v_steadyWays v_quashed v_but a_figures a_all a_lies a_since v_last v_state) c0) n (pD (some (.int R.1)) (e_ov (kM o) (wM G b o R.2 v_status a_refusals a_row a_images a_isKept a_tape v_taped v_from v_to v_sort v_worth v_fault v_bad v_nClauses a_nClause v_nCode a_nOp a_nArg v_nLeaves a_pile a_pileAt v_piled v_opened a_words a_headWords v_law a_set a_rest v_broken v_value v_sum a_chances a_votes a_costs a_table a_prices v_surely a_mostBy a_leastBy v_between v_steadyWays v_quashed v_but a_figures a_all a_lies a_since v_last v_state) c0) n) := e_C.of (by decide) (Nat.le_of_ble_eq_true rfl) (tX12_of hw hf)
def fX12_meal (v_thrown : Int32) (v_status : Int32) (a_refusals : Nat → Int32) (a_row : Nat → Int32) (x1 : Int32) (x2 : Int32) : Option (Int32 × Int32 × Int32 × (Nat → Int32) × (Nat → Int32)) := (fX12_isHour x2).bind fun r1 => (if (r1 : Int32) = 0 then ((fX12_tell v_status a_refusals (-1 : Int32)).bind fun r11 => (some (r11.1, 0, r11.2.1, r11.2.2, a_row))) else ((fX12_isBeast a_row x1).bind fun r2 => (if (r2 : Int32) = 0 then ((fX12_tell v_status a_refusals (-2 : Int32)).bind fun r10 => (some (r10.1, 0, r10.2.1, r10.2.2, a_row))) else (gd 1 5570 (if ((a_row (1 : Int32).toNatClampNeg) : Int32) = (24 : Int32) then ((fX12_tell v_status a_refusals (-5 : Int32)).bind fun r9 => (some (r9.1, 0, r9.2.1, r9.2.2, a_row))) else (gd (60 + (2 * (a_row (1 : Int32).toNatClampNeg))) 5570 (gd ((60 + (2 * (a_row (1 : Int32).toNatClampNeg))) + 1) 5570 (gd 1 5570 (gd 1 5570 ((fX12_tell v_status a_refusals ((a_row (1 : Int32).toNatClampNeg) + 1)).bind fun r8 => (some (r8.1, 0, r8.2.1, r8.2.2, (va_up (va_up (va_up a_row ((60 + (2 * (a_row (1 : Int32).toNatClampNeg))) : Int32).toNatClampNeg x1) (((60 + (2 * (a_row (1 : Int32).toNatClampNeg))) + 1) : Int32).toNatClampNeg x2) (1 : Int32).toNatClampNeg (((va_up (va_up a_row ((60 + (2 * (a_row (1 : Int32).toNatClampNeg))) : Int32).toNatClampNeg x1) (((60 + (2 * (a_row (1 : Int32).toNatClampNeg))) + 1) : Int32).toNatClampNeg x2) (1 : Int32).toNatClampNeg) + 1))))))))))))))
set_option maxHeartbeats 4000000 in
set_option maxRecDepth 100000 in
theorem tX12_meal {G : GT} {b : Nat} {o : Nat} {c0 : Hp} {n : Nat} (hw : e_wf (kM o) n) {a_images : Nat → Int32} {a_isKept : Nat → Int32} {a_tape : Nat → Int32} {v_taped : Int32} {v_from : Int32} {v_to : Int32} {v_sort : Int32} {v_worth : Int64} {v_fault : Int32} {v_bad : Int32} {v_nClauses : Int32} {a_nClause : Nat → Int32} {v_nCode : Int32} {a_nOp : Nat → Int32} {a_nArg : Nat → Int32} {v_nLeaves : Int32} {a_pile : Nat → Int32} {a_pileAt : Nat → Int32} {v_piled : Int32} {v_opened : Int32} {a_words : Nat → Int64} {a_headWords : Nat → Int64} {v_law : Int32} {a_set : Nat → Int64} {a_rest : Nat → Int64} {v_broken : Int32} {v_value : Int64} {v_sum : Int64} {a_chances : Nat → Int32} {a_votes : Nat → Int64} {a_costs : Nat → Int32} {a_table : Nat → Int64} {a_prices : Nat → Int32} {v_surely : Int64} {a_mostBy : Nat → Int64} {a_leastBy : Nat → Int64} {v_between : Int64} {v_steadyWays : Int32} {v_quashed : Int32} {v_but : Int32} {a_figures : Nat → Int32} {a_all : Nat → Int32} {a_lies : Nat → Int32} {a_since : Nat → Int32} {v_last : Int32} {v_state : Int64} {v_thrown : Int32} {v_status : Int32} {a_refusals : Nat → Int32} {a_row : Nat → Int32} {x1 : Int32} {x2 : Int32} {R : Int32 × Int32 × Int32 × (Nat → Int32) × (Nat → Int32)} (hf : fX12_meal v_thrown v_status a_refusals a_row x1 x2 = some R) : E G b yX12_meal cX12_meal 4 (some .int) (e_rm 2 0 0) e_X0 (e_Z G b (pD (some (.int R.1)) (e_ov (kM o) (wM G b o R.2.1 R.2.2.1 R.2.2.2.1 R.2.2.2.2 a_images a_isKept a_tape v_taped v_from v_to v_sort v_worth v_fault v_bad v_nClauses a_nClause v_nCode a_nOp a_nArg v_nLeaves a_pile a_pileAt v_piled v_opened a_words a_headWords v_law a_set a_rest v_broken v_value v_sum a_chances a_votes a_costs a_table a_prices v_surely a_mostBy a_leastBy v_between v_steadyWays v_quashed v_but a_figures a_all a_lies a_since v_last v_state) c0) n) 0 0) 0 [(0, .ref (b + o)), (1, .int x1), (2, .int x2)] [] (e_ov (kM o) (wM G b o v_thrown v_status a_refusals a_row a_images a_isKept a_tape v_taped v_from v_to v_sort v_worth v_fault v_bad v_nClauses a_nClause v_nCode a_nOp a_nArg v_nLeaves a_pile a_pileAt v_piled v_opened a_words a_headWords v_law a_set a_rest v_broken v_value v_sum a_chances a_votes a_costs a_table a_prices v_surely a_mostBy a_leastBy v_between v_steadyWays v_quashed v_but a_figures a_all a_lies a_since v_last v_state) c0) n 0 0 := by
  unfold fX12_meal at hf
  refine E.aload_n 0 dX12_meal_0 rfl ?_
  refine E.iconst (v := 0) dX12_meal_1 (by decide) ?_
  refine E.put (es' := (wM G b o 0 v_status a_refusals a_row a_images a_isKept a_tape v_taped v_from v_to v_sort v_worth v_fault v_bad v_nClauses a_nClause v_nCode a_nOp a_nArg v_nLeaves a_pile a_pileAt v_piled v_opened a_words a_headWords v_law a_set a_rest v_broken v_value v_sum a_chances a_votes a_costs a_table a_prices v_surely a_mostBy a_leastBy v_between v_steadyWays v_quashed v_but a_figures a_all a_lies a_since v_last v_state)) hw 0 o dX12_meal_2 flX12_124 ftX12 rfl rfl rfl rfl rfl rfl (Nat.le_of_ble_eq_true rfl) rfl ?_
  refine E.iload_n 2 dX12_meal_5 rfl ?_
  obtain ⟨r1, hc1, hf⟩ := e_bind hf
  refine E.callSD [] dX12_meal_6 mlX12_166 (mX12_isHour hc1) ⟨Nat.le_of_ble_eq_true rfl, Nat.le_of_ble_eq_true rfl⟩ rfl rfl (Nat.le_of_ble_eq_true rfl) ⟨Nat.le_refl _, Nat.le_refl _⟩ rfl ?_
  refine E.if_ne dX12_meal_9 (fun h => ?_) (fun h => ?_)
  · have hf := e_iff hf h
    refine E.aload_n 0 dX12_meal_18 rfl ?_
    refine E.iload_n 1 dX12_meal_19 rfl ?_
    obtain ⟨r2, hc2, hf⟩ := e_bind hf
    refine E.callVD [] dX12_meal_20 mlX12_153 ⟨hw.sub (p := 0) rfl, e_ov_get hw.1 (p := 0) rfl rfl⟩ rfl rfl (mX12_isBeast hw hc2) ⟨Nat.le_of_ble_eq_true rfl, Nat.le_of_ble_eq_true rfl⟩ rfl rfl (Nat.le_of_ble_eq_true rfl) ⟨Nat.le_refl _, Nat.le_refl _⟩ rfl ?_
    refine E.if_ne dX12_meal_23 (fun h => ?_) (fun h => ?_)
    · have hf := e_iff hf h
      refine E.aload_n 0 dX12_meal_33 rfl ?_
      refine E.get hw 0 o dX12_meal_34 flX12_13 rfl rfl rfl rfl ?_
      refine E.iconst (v := 1) dX12_meal_37 (by decide) ?_
      obtain ⟨g3, hf⟩ := gd_some hf
      refine E.iald hw 2 (o + 2) dX12_meal_38 rfl rfl g3 ?_
      refine E.istore_n (lv' := [(3, .int (a_row (1 : Int32).toNatClampNeg)), (0, .ref (b + o)), (1, .int x1), (2, .int x2)]) dX12_meal_39 (by decide) rfl ?_
      refine E.iload_n 0 dX12_meal_40 rfl ?_
      refine E.bipush (v := 24) dX12_meal_41 (by decide) ?_
      refine E.icmp_ne dX12_meal_43 (fun h => ?_) (fun h => ?_)
      · have hf := e_iff hf h
        refine E.aload_n 1 dX12_meal_53 rfl ?_
        refine E.get hw 0 o dX12_meal_54 flX12_13 rfl rfl rfl rfl ?_
        refine E.bipush (v := 60) dX12_meal_57 (by decide) ?_
        refine E.iconst (v := 2) dX12_meal_59 (by decide) ?_
        refine E.iload_n 0 dX12_meal_60 rfl ?_
        refine E.imul dX12_meal_61 ?_
        refine E.iadd dX12_meal_62 ?_
        refine E.iload_n 2 dX12_meal_63 rfl ?_
        obtain ⟨g4, hf⟩ := gd_some hf
        refine E.iast (es' := (wM G b o 0 v_status a_refusals (va_up a_row ((60 + (2 * (a_row (1 : Int32).toNatClampNeg))) : Int32).toNatClampNeg x1) a_images a_isKept a_tape v_taped v_from v_to v_sort v_worth v_fault v_bad v_nClauses a_nClause v_nCode a_nOp a_nArg v_nLeaves a_pile a_pileAt v_piled v_opened a_words a_headWords v_law a_set a_rest v_broken v_value v_sum a_chances a_votes a_costs a_table a_prices v_surely a_mostBy a_leastBy v_between v_steadyWays v_quashed v_but a_figures a_all a_lies a_since v_last v_state)) hw 2 (o + 2) dX12_meal_64 rfl rfl g4 rfl ?_
        refine E.aload_n 1 dX12_meal_65 rfl ?_
        refine E.get hw 0 o dX12_meal_66 flX12_13 rfl rfl rfl rfl ?_
        refine E.bipush (v := 60) dX12_meal_69 (by decide) ?_
        refine E.iconst (v := 2) dX12_meal_71 (by decide) ?_
        refine E.iload_n 0 dX12_meal_72 rfl ?_
        refine E.imul dX12_meal_73 ?_
        refine E.iadd dX12_meal_74 ?_
        refine E.iconst (v := 1) dX12_meal_75 (by decide) ?_
        refine E.iadd dX12_meal_76 ?_
        refine E.iload_n 3 dX12_meal_77 rfl ?_
        obtain ⟨g5, hf⟩ := gd_some hf
        refine E.iast (es' := (wM G b o 0 v_status a_refusals (va_up (va_up a_row ((60 + (2 * (a_row (1 : Int32).toNatClampNeg))) : Int32).toNatClampNeg x1) (((60 + (2 * (a_row (1 : Int32).toNatClampNeg))) + 1) : Int32).toNatClampNeg x2) a_images a_isKept a_tape v_taped v_from v_to v_sort v_worth v_fault v_bad v_nClauses a_nClause v_nCode a_nOp a_nArg v_nLeaves a_pile a_pileAt v_piled v_opened a_words a_headWords v_law a_set a_rest v_broken v_value v_sum a_chances a_votes a_costs a_table a_prices v_surely a_mostBy a_leastBy v_between v_steadyWays v_quashed v_but a_figures a_all a_lies a_since v_last v_state)) hw 2 (o + 2) dX12_meal_78 rfl rfl g5 rfl ?_
        refine E.aload_n 1 dX12_meal_79 rfl ?_
        refine E.get hw 0 o dX12_meal_80 flX12_13 rfl rfl rfl rfl ?_
        refine E.iconst (v := 1) dX12_meal_83 (by decide) ?_
        refine E.dup2_11 dX12_meal_84 rfl rfl ?_
        obtain ⟨g6, hf⟩ := gd_some hf
        refine E.iald hw 2 (o + 2) dX12_meal_85 rfl rfl g6 ?_
        refine E.iconst (v := 1) dX12_meal_86 (by decide) ?_
        refine E.iadd dX12_meal_87 ?_
        obtain ⟨g7, hf⟩ := gd_some hf
        refine E.iast (es' := (wM G b o 0 v_status a_refusals (va_up (va_up (va_up a_row ((60 + (2 * (a_row (1 : Int32).toNatClampNeg))) : Int32).toNatClampNeg x1) (((60 + (2 * (a_row (1 : Int32).toNatClampNeg))) + 1) : Int32).toNatClampNeg x2) (1 : Int32).toNatClampNeg (((va_up (va_up a_row ((60 + (2 * (a_row (1 : Int32).toNatClampNeg))) : Int32).toNatClampNeg x1) (((60 + (2 * (a_row (1 : Int32).toNatClampNeg))) + 1) : Int32).toNatClampNeg x2) (1 : Int32).toNatClampNeg) + 1)) a_images a_isKept a_tape v_taped v_from v_to v_sort v_worth v_fault v_bad v_nClauses a_nClause v_nCode a_nOp a_nArg v_nLeaves a_pile a_pileAt v_piled v_opened a_words a_headWords v_law a_set a_rest v_broken v_value v_sum a_chances a_votes a_costs a_table a_prices v_surely a_mostBy a_leastBy v_between v_steadyWays v_quashed v_but a_figures a_all a_lies a_since v_last v_state)) hw 2 (o + 2) dX12_meal_88 rfl rfl g7 rfl ?_
        refine E.aload_n 1 dX12_meal_89 rfl ?_
        refine E.iload_n 0 dX12_meal_90 rfl ?_
        refine E.iconst (v := 1) dX12_meal_91 (by decide) ?_
        refine E.iadd dX12_meal_92 ?_
        obtain ⟨r8, hc8, hf⟩ := e_bind hf
        refine E.callVD [] dX12_meal_93 mlX12_138 ⟨hw.sub (p := 0) rfl, e_ov_get hw.1 (p := 0) rfl rfl⟩ rfl rfl (mX12_tell hw hc8) ⟨Nat.le_of_ble_eq_true rfl, Nat.le_of_ble_eq_true rfl⟩ rfl rfl (Nat.le_of_ble_eq_true rfl) ⟨Nat.le_refl _, Nat.le_refl _⟩ rfl ?_
        cases hf
        exact E.iret dX12_meal_96 (Nat.le_refl _) (Nat.le_refl _) (pD_rf _ _ _)
      · have hf := e_ift hf h
        refine E.aload_n 1 dX12_meal_46 rfl ?_
        refine E.bipush (v := -5) dX12_meal_47 (by decide) ?_
        obtain ⟨r9, hc9, hf⟩ := e_bind hf
        refine E.callVD [] dX12_meal_49 mlX12_138 ⟨hw.sub (p := 0) rfl, e_ov_get hw.1 (p := 0) rfl rfl⟩ rfl rfl (mX12_tell hw hc9) ⟨Nat.le_of_ble_eq_true rfl, Nat.le_of_ble_eq_true rfl⟩ rfl rfl (Nat.le_of_ble_eq_true rfl) ⟨Nat.le_refl _, Nat.le_refl _⟩ rfl ?_
        cases hf
        exact E.iret dX12_meal_52 (Nat.le_refl _) (Nat.le_refl _) (pD_rf _ _ _)
    · have hf := e_ift hf h
      refine E.aload_n 0 dX12_meal_26 rfl ?_
      refine E.bipush (v := -2) dX12_meal_27 (by decide) ?_
      obtain ⟨r10, hc10, hf⟩ := e_bind hf
      refine E.callVD [] dX12_meal_29 mlX12_138 ⟨hw.sub (p := 0) rfl, e_ov_get hw.1 (p := 0) rfl rfl⟩ rfl rfl (mX12_tell hw hc10) ⟨Nat.le_of_ble_eq_true rfl, Nat.le_of_ble_eq_true rfl⟩ rfl rfl (Nat.le_of_ble_eq_true rfl) ⟨Nat.le_refl _, Nat.le_refl _⟩ rfl ?_
      cases hf
      exact E.iret dX12_meal_32 (Nat.le_refl _) (Nat.le_refl _) (pD_rf _ _ _)
  · have hf := e_ift hf h
    refine E.aload_n 0 dX12_meal_12 rfl ?_
    refine E.iconst (v := -1) dX12_meal_13 (by decide) ?_
    obtain ⟨r11, hc11, hf⟩ := e_bind hf
    refine E.callVD [] dX12_meal_14 mlX12_138 ⟨hw.sub (p := 0) rfl, e_ov_get hw.1 (p := 0) rfl rfl⟩ rfl rfl (mX12_tell hw hc11) ⟨Nat.le_of_ble_eq_true rfl, Nat.le_of_ble_eq_true rfl⟩ rfl rfl (Nat.le_of_ble_eq_true rfl) ⟨Nat.le_refl _, Nat.le_refl _⟩ rfl ?_
    cases hf
    exact E.iret dX12_meal_17 (Nat.le_refl _) (Nat.le_refl _) (pD_rf _ _ _)
set_option maxRecDepth 100000 in
theorem mX12_meal {G : GT} {b : Nat} {o : Nat} {c0 : Hp} {n : Nat} (hw : e_wf (kM o) n) {a_images : Nat → Int32} {a_isKept : Nat → Int32} {a_tape : Nat → Int32} {v_taped : Int32} {v_from : Int32} {v_to : Int32} {v_sort : Int32} {v_worth : Int64} {v_fault : Int32} {v_bad : Int32} {v_nClauses : Int32} {a_nClause : Nat → Int32} {v_nCode : Int32} {a_nOp : Nat → Int32} {a_nArg : Nat → Int32} {v_nLeaves : Int32} {a_pile : Nat → Int32} {a_pileAt : Nat → Int32} {v_piled : Int32} {v_opened : Int32} {a_words : Nat → Int64} {a_headWords : Nat → Int64} {v_law : Int32} {a_set : Nat → Int64} {a_rest : Nat → Int64} {v_broken : Int32} {v_value : Int64} {v_sum : Int64} {a_chances : Nat → Int32} {a_votes : Nat → Int64} {a_costs : Nat → Int32} {a_table : Nat → Int64} {a_prices : Nat → Int32} {v_surely : Int64} {a_mostBy : Nat → Int64} {a_leastBy : Nat → Int64} {v_between : Int64} {v_steadyWays : Int32} {v_quashed : Int32} {v_but : Int32} {a_figures : Nat → Int32} {a_all : Nat → Int32} {a_lies : Nat → Int32} {a_since : Nat → Int32} {v_last : Int32} {v_state : Int64} {v_thrown : Int32} {v_status : Int32} {a_refusals : Nat → Int32} {a_row : Nat → Int32} {x1 : Int32} {x2 : Int32} {R : Int32 × Int32 × Int32 × (Nat → Int32) × (Nat → Int32)} (hf : fX12_meal v_thrown v_status a_refusals a_row x1 x2 = some R) : e_C G b yX12_meal cX12_meal 4 (some .int) 2 0 0 [.ref (b + o), .int x1, .int x2] (e_ov (kM o) (wM G b o v_thrown v_status a_refusals a_row a_images a_isKept a_tape v_taped v_from v_to v_sort v_worth v_fault v_bad v_nClauses a_nClause v_nCode a_nOp a_nArg v_nLeaves a_pile a_pileAt v_piled v_opened a_words a_headWords v_law a_set a_rest v_broken v_value v_sum a_chances a_votes a_costs a_table a_prices v_surely a_mostBy a_leastBy v_between v_steadyWays v_quashed v_but a_figures a_all a_lies a_since v_last v_state) c0) n (pD (some (.int R.1)) (e_ov (kM o) (wM G b o R.2.1 R.2.2.1 R.2.2.2.1 R.2.2.2.2 a_images a_isKept a_tape v_taped v_from v_to v_sort v_worth v_fault v_bad v_nClauses a_nClause v_nCode a_nOp a_nArg v_nLeaves a_pile a_pileAt v_piled v_opened a_words a_headWords v_law a_set a_rest v_broken v_value v_sum a_chances a_votes a_costs a_table a_prices v_surely a_mostBy a_leastBy v_between v_steadyWays v_quashed v_but a_figures a_all a_lies a_since v_last v_state) c0) n) := e_C.of (by decide) (Nat.le_of_ble_eq_true rfl) (tX12_meal hw hf)
