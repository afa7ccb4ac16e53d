def fX12_fast (v_thrown : Int32) (a_row : Nat → Int32) : Option (Int32 × Int32 × (Nat → Int32)) := gd 1 5570 (gd 1 5570 (some ((a_row (1 : Int32).toNatClampNeg), 0, (va_up a_row (1 : Int32).toNatClampNeg 0))))
set_option maxHeartbeats 4000000 in
set_option maxRecDepth 100000 in
theorem tX12_fast {G : GT} {b : Nat} {o : Nat} {c0 : Hp} {n : Nat} (hw : e_wf (kM o) n) {v_status : Int32} {a_refusals : Nat → Int32} {a_images : Nat → Int32} {a_isKept : Nat → Int32} {a_tape : Nat → Int32} {v_taped : Int32} {v_from : Int32} {v_to : Int32} {v_sort : Int32} {v_worth : Int64} {v_fault : Int32} {v_bad : Int32} {v_nClauses : Int32} {a_nClause : Nat → Int32} {v_nCode : Int32} {a_nOp : Nat → Int32} {a_nArg : Nat → Int32} {v_nLeaves : Int32} {a_pile : Nat → Int32} {a_pileAt : Nat → Int32} {v_piled : Int32} {v_opened : Int32} {a_words : Nat → Int64} {a_headWords : Nat → Int64} {v_law : Int32} {a_set : Nat → Int64} {a_rest : Nat → Int64} {v_broken : Int32} {v_value : Int64} {v_sum : Int64} {a_chances : Nat → Int32} {a_votes : Nat → Int64} {a_costs : Nat → Int32} {a_table : Nat → Int64} {a_prices : Nat → Int32} {v_surely : Int64} {a_mostBy : Nat → Int64} {a_leastBy : Nat → Int64} {v_between : Int64} {v_steadyWays : Int32} {v_quashed : Int32} {v_but : Int32} {a_figures : Nat → Int32} {a_all : Nat → Int32} {a_lies : Nat → Int32} {a_since : Nat → Int32} {v_last : Int32} {v_state : Int64} {v_thrown : Int32} {a_row : Nat → Int32} {R : Int32 × Int32 × (Nat → Int32)} (hf : fX12_fast v_thrown a_row = some R) : E G b yX12_fast cX12_fast 2 (some .int) (e_rm 0 0 0) e_X0 (e_Z G b (pD (some (.int R.1)) (e_ov (kM o) (wM G b o R.2.1 v_status a_refusals R.2.2 a_images a_isKept a_tape v_taped v_from v_to v_sort v_worth v_fault v_bad v_nClauses a_nClause v_nCode a_nOp a_nArg v_nLeaves a_pile a_pileAt v_piled v_opened a_words a_headWords v_law a_set a_rest v_broken v_value v_sum a_chances a_votes a_costs a_table a_prices v_surely a_mostBy a_leastBy v_between v_steadyWays v_quashed v_but a_figures a_all a_lies a_since v_last v_state) c0) n) 0 0) 0 [(0, .ref (b + o))] [] (e_ov (kM o) (wM G b o v_thrown v_status a_refusals a_row a_images a_isKept a_tape v_taped v_from v_to v_sort v_worth v_fault v_bad v_nClauses a_nClause v_nCode a_nOp a_nArg v_nLeaves a_pile a_pileAt v_piled v_opened a_words a_headWords v_law a_set a_rest v_broken v_value v_sum a_chances a_votes a_costs a_table a_prices v_surely a_mostBy a_leastBy v_between v_steadyWays v_quashed v_but a_figures a_all a_lies a_since v_last v_state) c0) n 0 0 := by
  unfold fX12_fast at hf
  refine E.aload_n 0 dX12_fast_0 rfl ?_
  refine E.iconst (v := 0) dX12_fast_1 (by decide) ?_
  refine E.put (es' := (wM G b o 0 v_status a_refusals a_row a_images a_isKept a_tape v_taped v_from v_to v_sort v_worth v_fault v_bad v_nClauses a_nClause v_nCode a_nOp a_nArg v_nLeaves a_pile a_pileAt v_piled v_opened a_words a_headWords v_law a_set a_rest v_broken v_value v_sum a_chances a_votes a_costs a_table a_prices v_surely a_mostBy a_leastBy v_between v_steadyWays v_quashed v_but a_figures a_all a_lies a_since v_last v_state)) hw 0 o dX12_fast_2 flX12_124 ftX12 rfl rfl rfl rfl rfl rfl (Nat.le_of_ble_eq_true rfl) rfl ?_
  refine E.aload_n 0 dX12_fast_5 rfl ?_
  refine E.get hw 0 o dX12_fast_6 flX12_13 rfl rfl rfl rfl ?_
  refine E.iconst (v := 1) dX12_fast_9 (by decide) ?_
  obtain ⟨g1, hf⟩ := gd_some hf
  refine E.iald hw 2 (o + 2) dX12_fast_10 rfl rfl g1 ?_
  refine E.istore_n (lv' := [(1, .int (a_row (1 : Int32).toNatClampNeg)), (0, .ref (b + o))]) dX12_fast_11 (by decide) rfl ?_
  refine E.aload_n 1 dX12_fast_12 rfl ?_
  refine E.get hw 0 o dX12_fast_13 flX12_13 rfl rfl rfl rfl ?_
  refine E.iconst (v := 1) dX12_fast_16 (by decide) ?_
  refine E.iconst (v := 0) dX12_fast_17 (by decide) ?_
  obtain ⟨g2, hf⟩ := gd_some hf
  refine E.iast (es' := (wM G b o 0 v_status a_refusals (va_up a_row (1 : Int32).toNatClampNeg 0) a_images a_isKept a_tape v_taped v_from v_to v_sort v_worth v_fault v_bad v_nClauses a_nClause v_nCode a_nOp a_nArg v_nLeaves a_pile a_pileAt v_piled v_opened a_words a_headWords v_law a_set a_rest v_broken v_value v_sum a_chances a_votes a_costs a_table a_prices v_surely a_mostBy a_leastBy v_between v_steadyWays v_quashed v_but a_figures a_all a_lies a_since v_last v_state)) hw 2 (o + 2) dX12_fast_18 rfl rfl g2 rfl ?_
  refine E.iload_n 0 dX12_fast_19 rfl ?_
  cases hf
  exact E.iret dX12_fast_20 (Nat.le_refl _) (Nat.le_refl _) (pD_rf _ _ _)
set_option maxRecDepth 100000 in
theorem mX12_fast {G : GT} {b : Nat} {o : Nat} {c0 : Hp} {n : Nat} (hw : e_wf (kM o) n) {v_status : Int32} {a_refusals : Nat → Int32} {a_images : Nat → Int32} {a_isKept : Nat → Int32} {a_tape : Nat → Int32} {v_taped : Int32} {v_from : Int32} {v_to : Int32} {v_sort : Int32} {v_worth : Int64} {v_fault : Int32} {v_bad : Int32} {v_nClauses : Int32} {a_nClause : Nat → Int32} {v_nCode : Int32} {a_nOp : Nat → Int32} {a_nArg : Nat → Int32} {v_nLeaves : Int32} {a_pile : Nat → Int32} {a_pileAt : Nat → Int32} {v_piled : Int32} {v_opened : Int32} {a_words : Nat → Int64} {a_headWords : Nat → Int64} {v_law : Int32} {a_set : Nat → Int64} {a_rest : Nat → Int64} {v_broken : Int32} {v_value : Int64} {v_sum : Int64} {a_chances : Nat → Int32} {a_votes : Nat → Int64} {a_costs : Nat → Int32} {a_table : Nat → Int64} {a_prices : Nat → Int32} {v_surely : Int64} {a_mostBy : Nat → Int64} {a_leastBy : Nat → Int64} {v_between : Int64} {v_steadyWays : Int32} {v_quashed : Int32} {v_but : Int32} {a_figures : Nat → Int32} {a_all : Nat → Int32} {a_lies : Nat → Int32} {a_since : Nat → Int32} {v_last : Int32} {v_state : Int64} {v_thrown : Int32} {a_row : Nat → Int32} {R : Int32 × Int32 × (Nat → Int32)} (hf : fX12_fast v_thrown a_row = some R) : e_C G b yX12_fast cX12_fast 2 (some .int) 0 0 0 [.ref (b + o)] (e_ov (kM o) (wM G b o v_thrown v_status a_refusals a_row a_images a_isKept a_tape v_taped v_from v_to v_sort v_worth v_fault v_bad v_nClauses a_nClause v_nCode a_nOp a_nArg v_nLeaves a_pile a_pileAt v_piled v_opened a_words a_headWords v_law a_set a_rest v_broken v_value v_sum a_chances a_votes a_costs a_table a_prices v_surely a_mostBy a_leastBy v_between v_steadyWays v_quashed v_but a_figures a_all a_lies a_since v_last v_state) c0) n (pD (some (.int R.1)) (e_ov (kM o) (wM G b o R.2.1 v_status a_refusals R.2.2 a_images a_isKept a_tape v_taped v_from v_to v_sort v_worth v_fault v_bad v_nClauses a_nClause v_nCode a_nOp a_nArg v_nLeaves a_pile a_pileAt v_piled v_opened a_words a_headWords v_law a_set a_rest v_broken v_value v_sum a_chances a_votes a_costs a_table a_prices v_surely a_mostBy a_leastBy v_between v_steadyWays v_quashed v_but a_figures a_all a_lies a_since v_last v_state) c0) n) := e_C.of (by decide) (Nat.le_of_ble_eq_true rfl) (tX12_fast hw hf)
def fX12_hungerIn_L106 (Fu : Nat) (a_row : Nat → Int32) (s0 : Int32) : Option (Int32) := if (s0 : Int32) ≤ (99 : Int32) then (some (s0)) else (some (99))
set_option maxHeartbeats 4000000 in
set_option maxRecDepth 100000 in
theorem tX12_hungerIn_L106 {G : GT} {b : Nat} {o : Nat} {c0 : Hp} {n : Nat} (hw : e_wf (kM o) n) {v_thrown : Int32} {v_status : Int32} {a_refusals : Nat → Int32} {a_images : Nat → Int32} {a_isKept : Nat → Int32} {a_tape : Nat → Int32} {v_taped : Int32} {v_from : Int32} {v_to : Int32} {v_sort : Int32} {v_worth : Int64} {v_fault : Int32} {v_bad : Int32} {v_nClauses : Int32} {a_nClause : Nat → Int32} {v_nCode : Int32} {a_nOp : Nat → Int32} {a_nArg : Nat → Int32} {v_nLeaves : Int32} {a_pile : Nat → Int32} {a_pileAt : Nat → Int32} {v_piled : Int32} {v_opened : Int32} {a_words : Nat → Int64} {a_headWords : Nat → Int64} {v_law : Int32} {a_set : Nat → Int64} {a_rest : Nat → Int64} {v_broken : Int32} {v_value : Int64} {v_sum : Int64} {a_chances : Nat → Int32} {a_votes : Nat → Int64} {a_costs : Nat → Int32} {a_table : Nat → Int64} {a_prices : Nat → Int32} {v_surely : Int64} {a_mostBy : Nat → Int64} {a_leastBy : Nat → Int64} {v_between : Int64} {v_steadyWays : Int32} {v_quashed : Int32} {v_but : Int32} {a_figures : Nat → Int32} {a_all : Nat → Int32} {a_lies : Nat → Int32} {a_since : Nat → Int32} {v_last : Int32} {v_state : Int64} {Fu : Nat} {a_row : Nat → Int32} {s0 : Int32} {R : Int32} (hf : fX12_hungerIn_L106 Fu a_row s0 = some R) : E G b yX12_hungerIn cX12_hungerIn 6 (some .int) (e_rm 1 0 0) e_X0 (e_Z G b (pD (some (.int R)) (e_ov (kM o) (wM G b o v_thrown v_status a_refusals a_row a_images a_isKept a_tape v_taped v_from v_to v_sort v_worth v_fault v_bad v_nClauses a_nClause v_nCode a_nOp a_nArg v_nLeaves a_pile a_pileAt v_piled v_opened a_words a_headWords v_law a_set a_rest v_broken v_value v_sum a_chances a_votes a_costs a_table a_prices v_surely a_mostBy a_leastBy v_between v_steadyWays v_quashed v_but a_figures a_all a_lies a_since v_last v_state) c0) n) 0 0) 106 [] [.int s0] (e_ov (kM o) (wM G b o v_thrown v_status a_refusals a_row a_images a_isKept a_tape v_taped v_from v_to v_sort v_worth v_fault v_bad v_nClauses a_nClause v_nCode a_nOp a_nArg v_nLeaves a_pile a_pileAt v_piled v_opened a_words a_headWords v_law a_set a_rest v_broken v_value v_sum a_chances a_votes a_costs a_table a_prices v_surely a_mostBy a_leastBy v_between v_steadyWays v_quashed v_but a_figures a_all a_lies a_since v_last v_state) c0) n 0 0 := by
  unfold fX12_hungerIn_L106 at hf
  refine E.istore (lv' := [(4, .int s0)]) dX12_hungerIn_106 (by decide) rfl ?_
  refine E.iload 0 dX12_hungerIn_108 rfl ?_
  refine E.bipush (v := 99) dX12_hungerIn_110 (by decide) ?_
  refine E.icmp_le dX12_hungerIn_112 (fun h => ?_) (fun h => ?_)
  · have hf := e_ift hf h
    refine E.iload 0 dX12_hungerIn_120 rfl ?_
    cases hf
    exact E.iret dX12_hungerIn_122 (Nat.le_refl _) (Nat.le_refl _) (pD_rf _ _ _)
  · have hf := e_iff hf h
    refine E.bipush (v := 99) dX12_hungerIn_115 (by decide) ?_
    refine E.goto dX12_hungerIn_117 ?_
    cases hf
    exact E.iret dX12_hungerIn_122 (Nat.le_refl _) (Nat.le_refl _) (pD_rf _ _ _)
def fX12_hungerIn_L65 (Fu : Nat) (k5 : (Nat → Int32) → Int32 → Int32 → Int32 → Int32 → Option (Int32)) (a_row : Nat → Int32) (x1 : Int32) (x2 : Int32) (x3 : Int32) (x4 : Int32) : Option (Int32) := k5 a_row x1 x2 x3 (x4 + 1)
set_option maxHeartbeats 4000000 in
set_option maxRecDepth 100000 in
theorem tX12_hungerIn_L65 {G : GT} {b : Nat} {o : Nat} {c0 : Hp} {n : Nat} (hw : e_wf (kM o) n) {v_thrown : Int32} {v_status : Int32} {a_refusals : Nat → Int32} {a_images : Nat → Int32} {a_isKept : Nat → Int32} {a_tape : Nat → Int32} {v_taped : Int32} {v_from : Int32} {v_to : Int32} {v_sort : Int32} {v_worth : Int64} {v_fault : Int32} {v_bad : Int32} {v_nClauses : Int32} {a_nClause : Nat → Int32} {v_nCode : Int32} {a_nOp : Nat → Int32} {a_nArg : Nat → Int32} {v_nLeaves : Int32} {a_pile : Nat → Int32} {a_pileAt : Nat → Int32} {v_piled : Int32} {v_opened : Int32} {a_words : Nat → Int64} {a_headWords : Nat → Int64} {v_law : Int32} {a_set : Nat → Int64} {a_rest : Nat → Int64} {v_broken : Int32} {v_value : Int64} {v_sum : Int64} {a_chances : Nat → Int32} {a_votes : Nat → Int64} {a_costs : Nat → Int32} {a_table : Nat → Int64} {a_prices : Nat → Int32} {v_surely : Int64} {a_mostBy : Nat → Int64} {a_leastBy : Nat → Int64} {v_between : Int64} {v_steadyWays : Int32} {v_quashed : Int32} {v_but : Int32} {a_figures : Nat → Int32} {a_all : Nat → Int32} {a_lies : Nat → Int32} {a_since : Nat → Int32} {v_last : Int32} {v_state : Int64} {Fu : Nat} {k5 : (Nat → Int32) → Int32 → Int32 → Int32 → Int32 → Option (Int32)} (hk5 : ∀ {a_row : Nat → Int32} {x1 : Int32} {x2 : Int32} {x3 : Int32} {x4 : Int32} {R : Int32}, k5 a_row x1 x2 x3 x4 = some R → E G b yX12_hungerIn cX12_hungerIn 6 (some .int) (e_rm 1 0 0) e_X0 (e_Z G b (pD (some (.int R)) (e_ov (kM o) (wM G b o v_thrown v_status a_refusals a_row a_images a_isKept a_tape v_taped v_from v_to v_sort v_worth v_fault v_bad v_nClauses a_nClause v_nCode a_nOp a_nArg v_nLeaves a_pile a_pileAt v_piled v_opened a_words a_headWords v_law a_set a_rest v_broken v_value v_sum a_chances a_votes a_costs a_table a_prices v_surely a_mostBy a_leastBy v_between v_steadyWays v_quashed v_but a_figures a_all a_lies a_since v_last v_state) c0) n) 0 0) 5 [(0, .ref (b + o)), (1, .int x1), (2, .int x2), (3, .int x3), (4, .int x4)] [] (e_ov (kM o) (wM G b o v_thrown v_status a_refusals a_row a_images a_isKept a_tape v_taped v_from v_to v_sort v_worth v_fault v_bad v_nClauses a_nClause v_nCode a_nOp a_nArg v_nLeaves a_pile a_pileAt v_piled v_opened a_words a_headWords v_law a_set a_rest v_broken v_value v_sum a_chances a_votes a_costs a_table a_prices v_surely a_mostBy a_leastBy v_between v_steadyWays v_quashed v_but a_figures a_all a_lies a_since v_last v_state) c0) n 0 0) {a_row : Nat → Int32} {x1 : Int32} {x2 : Int32} {x3 : Int32} {x4 : Int32} {R : Int32} (hf : fX12_hungerIn_L65 Fu k5 a_row x1 x2 x3 x4 = some R) : E G b yX12_hungerIn cX12_hungerIn 6 (some .int) (e_rm 1 0 0) e_X0 (e_Z G b (pD (some (.int R)) (e_ov (kM o) (wM G b o v_thrown v_status a_refusals a_row a_images a_isKept a_tape v_taped v_from v_to v_sort v_worth v_fault v_bad v_nClauses a_nClause v_nCode a_nOp a_nArg v_nLeaves a_pile a_pileAt v_piled v_opened a_words a_headWords v_law a_set a_rest v_broken v_value v_sum a_chances a_votes a_costs a_table a_prices v_surely a_mostBy a_leastBy v_between v_steadyWays v_quashed v_but a_figures a_all a_lies a_since v_last v_state) c0) n) 0 0) 65 [(0, .ref (b + o)), (1, .int x1), (2, .int x2), (3, .int x3), (4, .int x4)] [] (e_ov (kM o) (wM G b o v_thrown v_status a_refusals a_row a_images a_isKept a_tape v_taped v_from v_to v_sort v_worth v_fault v_bad v_nClauses a_nClause v_nCode a_nOp a_nArg v_nLeaves a_pile a_pileAt v_piled v_opened a_words a_headWords v_law a_set a_rest v_broken v_value v_sum a_chances a_votes a_costs a_table a_prices v_surely a_mostBy a_leastBy v_between v_steadyWays v_quashed v_but a_figures a_all a_lies a_since v_last v_state) c0) n 0 0 := by
  unfold fX12_hungerIn_L65 at hf
  refine E.iload_n 3 dX12_hungerIn_65 rfl ?_
  refine E.istore_n (lv' := [(3, .int x3), (0, .ref (b + o)), (1, .int x1), (2, .int x2), (4, .int x4)]) dX12_hungerIn_66 (by decide) rfl ?_
  refine E.iinc (q := 4) (v := (x4 + 1)) (lv' := [(4, .int (x4 + 1)), (3, .int x3), (0, .ref (b + o)), (1, .int x1), (2, .int x2)]) dX12_hungerIn_67 rfl rfl (by decide) rfl ?_
  refine E.goto dX12_hungerIn_70 ?_
  refine E.locals [2, 3, 4, 1, 0] rfl ?_
  exact hk5 hf
def fX12_hungerIn_L5 (Fu : Nat) : Nat → (Nat → Int32) → Int32 → Int32 → Int32 → Int32 → Option (Int32)
  | 0, _, _, _, _, _ => none
  | k + 1, a_row, x1, x2, x3, x4 => gd 1 5570 (if ((a_row (1 : Int32).toNatClampNeg) : Int32) ≤ (x4 : Int32) then (if (x3 : Int32) = ((-1 : Int32) : Int32) then ((fX12_ofBeast a_row x1 1).bind fun r3 => ((fX12_ofBeast a_row x1 2).bind fun r4 => (fX12_hungerIn_L106 Fu a_row (r3 + (r4 * x2))))) else ((fX12_ofBeast a_row x1 2).bind fun r2 => (fX12_hungerIn_L106 Fu a_row (r2 * (x2 - x3))))) else (gd ((60 + (2 * x4)) + 1) 5570 (gd (60 + (2 * x4)) 5570 (if ((a_row ((60 + (2 * x4)) : Int32).toNatClampNeg) : Int32) = (x1 : Int32) then (if (x2 : Int32) < ((a_row (((60 + (2 * x4)) + 1) : Int32).toNatClampNeg) : Int32) then (fX12_hungerIn_L65 Fu (fX12_hungerIn_L5 Fu k) a_row x1 x2 x3 x4) else (if ((a_row (((60 + (2 * x4)) + 1) : Int32).toNatClampNeg) : Int32) ≤ (x3 : Int32) then (fX12_hungerIn_L65 Fu (fX12_hungerIn_L5 Fu k) a_row x1 x2 x3 x4) else ((fX12_hungerIn_L5 Fu k) a_row x1 x2 (a_row (((60 + (2 * x4)) + 1) : Int32).toNatClampNeg) (x4 + 1)))) else (fX12_hungerIn_L65 Fu (fX12_hungerIn_L5 Fu k) a_row x1 x2 x3 x4)))))
set_option maxHeartbeats 4000000 in
set_option maxRecDepth 100000 in
theorem tX12_hungerIn_L5 {G : GT} {b : Nat} {o : Nat} {c0 : Hp} {n : Nat} (hw : e_wf (kM o) n) {v_thrown : Int32} {v_status : Int32} {a_refusals : Nat → Int32} {a_images : Nat → Int32} {a_isKept : Nat → Int32} {a_tape : Nat → Int32} {v_taped : Int32} {v_from : Int32} {v_to : Int32} {v_sort : Int32} {v_worth : Int64} {v_fault : Int32} {v_bad : Int32} {v_nClauses : Int32} {a_nClause : Nat → Int32} {v_nCode : Int32} {a_nOp : Nat → Int32} {a_nArg : Nat → Int32} {v_nLeaves : Int32} {a_pile : Nat → Int32} {a_pileAt : Nat → Int32} {v_piled : Int32} {v_opened : Int32} {a_words : Nat → Int64} {a_headWords : Nat → Int64} {v_law : Int32} {a_set : Nat → Int64} {a_rest : Nat → Int64} {v_broken : Int32} {v_value : Int64} {v_sum : Int64} {a_chances : Nat → Int32} {a_votes : Nat → Int64} {a_costs : Nat → Int32} {a_table : Nat → Int64} {a_prices : Nat → Int32} {v_surely : Int64} {a_mostBy : Nat → Int64} {a_leastBy : Nat → Int64} {v_between : Int64} {v_steadyWays : Int32} {v_quashed : Int32} {v_but : Int32} {a_figures : Nat → Int32} {a_all : Nat → Int32} {a_lies : Nat → Int32} {a_since : Nat → Int32} {v_last : Int32} {v_state : Int64} {Fu : Nat} : ∀ (k : Nat) {a_row : Nat → Int32} {x1 : Int32} {x2 : Int32} {x3 : Int32} {x4 : Int32} {R : Int32}, fX12_hungerIn_L5 Fu k a_row x1 x2 x3 x4 = some R → E G b yX12_hungerIn cX12_hungerIn 6 (some .int) (e_rm 1 0 0) e_X0 (e_Z G b (pD (some (.int R)) (e_ov (kM o) (wM G b o v_thrown v_status a_refusals a_row a_images a_isKept a_tape v_taped v_from v_to v_sort v_worth v_fault v_bad v_nClauses a_nClause v_nCode a_nOp a_nArg v_nLeaves a_pile a_pileAt v_piled v_opened a_words a_headWords v_law a_set a_rest v_broken v_value v_sum a_chances a_votes a_costs a_table a_prices v_surely a_mostBy a_leastBy v_between v_steadyWays v_quashed v_but a_figures a_all a_lies a_since v_last v_state) c0) n) 0 0) 5 [(0, .ref (b + o)), (1, .int x1), (2, .int x2), (3, .int x3), (4, .int x4)] [] (e_ov (kM o) (wM G b o v_thrown v_status a_refusals a_row a_images a_isKept a_tape v_taped v_from v_to v_sort v_worth v_fault v_bad v_nClauses a_nClause v_nCode a_nOp a_nArg v_nLeaves a_pile a_pileAt v_piled v_opened a_words a_headWords v_law a_set a_rest v_broken v_value v_sum a_chances a_votes a_costs a_table a_prices v_surely a_mostBy a_leastBy v_between v_steadyWays v_quashed v_but a_figures a_all a_lies a_since v_last v_state) c0) n 0 0 := by
  intro k
  induction k with
  | zero =>
    intro _ _ _ _ _ _ hf
    have hf : (none : Option (Int32)) = some _ := hf
    cases hf
  | succ k ih =>
    intro a_row x1 x2 x3 x4 R hf
    rw [fX12_hungerIn_L5] at hf
    refine E.iload 4 dX12_hungerIn_5 rfl ?_
    refine E.aload_n 0 dX12_hungerIn_7 rfl ?_
    refine E.get hw 0 o dX12_hungerIn_8 flX12_13 rfl rfl rfl rfl ?_
    refine E.iconst (v := 1) dX12_hungerIn_11 (by decide) ?_
    obtain ⟨g1, hf⟩ := gd_some hf
    refine E.iald hw 2 (o + 2) dX12_hungerIn_12 rfl rfl g1 ?_
    refine E.icmp_ge dX12_hungerIn_13 (fun h => ?_) (fun h => ?_)
    · have hf := e_ift hf h
      refine E.iload_n 3 dX12_hungerIn_73 rfl ?_
      refine E.iconst (v := -1) dX12_hungerIn_74 (by decide) ?_
      refine E.icmp_ne dX12_hungerIn_75 (fun h => ?_) (fun h => ?_)
      · have hf := e_iff hf h
        refine E.aload_n 0 dX12_hungerIn_96 rfl ?_
        refine E.iload_n 1 dX12_hungerIn_97 rfl ?_
        refine E.iconst (v := 2) dX12_hungerIn_98 (by decide) ?_
        obtain ⟨r2, hc2, hf⟩ := e_bind hf
        refine E.callVD [] dX12_hungerIn_99 mlX12_163 ⟨hw.sub (p := 0) rfl, e_ov_get hw.1 (p := 0) rfl rfl⟩ rfl rfl (mX12_ofBeast hw hc2) ⟨Nat.le_of_ble_eq_true rfl, Nat.le_of_ble_eq_true rfl⟩ rfl rfl (Nat.le_of_ble_eq_true rfl) ⟨Nat.le_refl _, Nat.le_refl _⟩ rfl ?_
        refine E.iload_n 2 dX12_hungerIn_102 rfl ?_
        refine E.iload_n 3 dX12_hungerIn_103 rfl ?_
        refine E.isub dX12_hungerIn_104 ?_
        refine E.imul dX12_hungerIn_105 ?_
        refine E.locals [] rfl ?_
        exact tX12_hungerIn_L106 hw hf
      · have hf := e_ift hf h
        refine E.aload_n 0 dX12_hungerIn_78 rfl ?_
        refine E.iload_n 1 dX12_hungerIn_79 rfl ?_
        refine E.iconst (v := 1) dX12_hungerIn_80 (by decide) ?_
        obtain ⟨r3, hc3, hf⟩ := e_bind hf
        refine E.callVD [] dX12_hungerIn_81 mlX12_163 ⟨hw.sub (p := 0) rfl, e_ov_get hw.1 (p := 0) rfl rfl⟩ rfl rfl (mX12_ofBeast hw hc3) ⟨Nat.le_of_ble_eq_true rfl, Nat.le_of_ble_eq_true rfl⟩ rfl rfl (Nat.le_of_ble_eq_true rfl) ⟨Nat.le_refl _, Nat.le_refl _⟩ rfl ?_
        refine E.aload_n 0 dX12_hungerIn_84 rfl ?_
        refine E.iload_n 1 dX12_hungerIn_85 rfl ?_
        refine E.iconst (v := 2) dX12_hungerIn_86 (by decide) ?_
        obtain ⟨r4, hc4, hf⟩ := e_bind hf
        refine E.callVD [.int r3] dX12_hungerIn_87 mlX12_163 ⟨hw.sub (p := 0) rfl, e_ov_get hw.1 (p := 0) rfl rfl⟩ rfl rfl (mX12_ofBeast hw hc4) ⟨Nat.le_of_ble_eq_true rfl, Nat.le_of_ble_eq_true rfl⟩ rfl rfl (Nat.le_of_ble_eq_true rfl) ⟨Nat.le_refl _, Nat.le_refl _⟩ rfl ?_
        refine E.iload_n 2 dX12_hungerIn_90 rfl ?_
        refine E.imul dX12_hungerIn_91 ?_
        refine E.iadd dX12_hungerIn_92 ?_
        refine E.goto dX12_hungerIn_93 ?_
        refine E.locals [] rfl ?_
        exact tX12_hungerIn_L106 hw hf
    · have hf := e_iff hf h
      refine E.aload_n 0 dX12_hungerIn_16 rfl ?_
      refine E.get hw 0 o dX12_hungerIn_17 flX12_13 rfl rfl rfl rfl ?_
      refine E.bipush (v := 60) dX12_hungerIn_20 (by decide) ?_
      refine E.iconst (v := 2) dX12_hungerIn_22 (by decide) ?_
      refine E.iload 4 dX12_hungerIn_23 rfl ?_
      refine E.imul dX12_hungerIn_25 ?_
      refine E.iadd dX12_hungerIn_26 ?_
      refine E.iconst (v := 1) dX12_hungerIn_27 (by decide) ?_
      refine E.iadd dX12_hungerIn_28 ?_
      obtain ⟨g5, hf⟩ := gd_some hf
      refine E.iald hw 2 (o + 2) dX12_hungerIn_29 rfl rfl g5 ?_
      refine E.istore (lv' := [(5, .int (a_row (((60 + (2 * x4)) + 1) : Int32).toNatClampNeg)), (0, .ref (b + o)), (1, .int x1), (2, .int x2), (3, .int x3), (4, .int x4)]) dX12_hungerIn_30 (by decide) rfl ?_
      refine E.aload_n 1 dX12_hungerIn_32 rfl ?_
      refine E.get hw 0 o dX12_hungerIn_33 flX12_13 rfl rfl rfl rfl ?_
      refine E.bipush (v := 60) dX12_hungerIn_36 (by decide) ?_
      refine E.iconst (v := 2) dX12_hungerIn_38 (by decide) ?_
      refine E.iload 5 dX12_hungerIn_39 rfl ?_
      refine E.imul dX12_hungerIn_41 ?_
      refine E.iadd dX12_hungerIn_42 ?_
      obtain ⟨g6, hf⟩ := gd_some hf
      refine E.iald hw 2 (o + 2) dX12_hungerIn_43 rfl rfl g6 ?_
      refine E.iload_n 2 dX12_hungerIn_44 rfl ?_
      refine E.icmp_ne dX12_hungerIn_45 (fun h => ?_) (fun h => ?_)
      · have hf := e_iff hf h
        refine E.locals [1, 2, 3, 4, 5] rfl ?_
        exact tX12_hungerIn_L65 hw ih hf
      · have hf := e_ift hf h
        refine E.iload 0 dX12_hungerIn_48 rfl ?_
        refine E.iload_n 3 dX12_hungerIn_50 rfl ?_
        refine E.icmp_gt dX12_hungerIn_51 (fun h => ?_) (fun h => ?_)
        · have hf := e_ift hf h
          refine E.locals [1, 2, 3, 4, 5] rfl ?_
          exact tX12_hungerIn_L65 hw ih hf
        · have hf := e_iff hf h
          refine E.iload 0 dX12_hungerIn_54 rfl ?_
          refine E.iload_n 4 dX12_hungerIn_56 rfl ?_
          refine E.icmp_le dX12_hungerIn_57 (fun h => ?_) (fun h => ?_)
          · have hf := e_ift hf h
            refine E.locals [1, 2, 3, 4, 5] rfl ?_
            exact tX12_hungerIn_L65 hw ih hf
          · have hf := e_iff hf h
            refine E.iload 0 dX12_hungerIn_60 rfl ?_
            refine E.goto dX12_hungerIn_62 ?_
            refine E.istore_n (lv' := [(3, .int (a_row (((60 + (2 * x4)) + 1) : Int32).toNatClampNeg)), (5, .int (a_row (((60 + (2 * x4)) + 1) : Int32).toNatClampNeg)), (0, .ref (b + o)), (1, .int x1), (2, .int x2), (4, .int x4)]) dX12_hungerIn_66 (by decide) rfl ?_
            refine E.iinc (q := 5) (v := (x4 + 1)) (lv' := [(4, .int (x4 + 1)), (3, .int (a_row (((60 + (2 * x4)) + 1) : Int32).toNatClampNeg)), (5, .int (a_row (((60 + (2 * x4)) + 1) : Int32).toNatClampNeg)), (0, .ref (b + o)), (1, .int x1), (2, .int x2)]) dX12_hungerIn_67 rfl rfl (by decide) rfl ?_
            refine E.goto dX12_hungerIn_70 ?_
            refine E.locals [3, 4, 5, 1, 0] rfl ?_
            exact ih hf
def fX12_hungerIn (Fu : Nat) (a_row : Nat → Int32) (x1 : Int32) (x2 : Int32) : Option (Int32) := fX12_hungerIn_L5 Fu Fu a_row x1 x2 (-1 : Int32) 0
set_option maxHeartbeats 4000000 in
set_option maxRecDepth 100000 in
theorem tX12_hungerIn {G : GT} {b : Nat} {o : Nat} {c0 : Hp} {n : Nat} (hw : e_wf (kM o) n) {v_thrown : Int32} {v_status : Int32} {a_refusals : Nat → Int32} {a_images : Nat → Int32} {a_isKept : Nat → Int32} {a_tape : Nat → Int32} {v_taped : Int32} {v_from : Int32} {v_to : Int32} {v_sort : Int32} {v_worth : Int64} {v_fault : Int32} {v_bad : Int32} {v_nClauses : Int32} {a_nClause : Nat → Int32} {v_nCode : Int32} {a_nOp : Nat → Int32} {a_nArg : Nat → Int32} {v_nLeaves : Int32} {a_pile : Nat → Int32} {a_pileAt : Nat → Int32} {v_piled : Int32} {v_opened : Int32} {a_words : Nat → Int64} {a_headWords : Nat → Int64} {v_law : Int32} {a_set : Nat → Int64} {a_rest : Nat → Int64} {v_broken : Int32} {v_value : Int64} {v_sum : Int64} {a_chances : Nat → Int32} {a_votes : Nat → Int64} {a_costs : Nat → Int32} {a_table : Nat → Int64} {a_prices : Nat → Int32} {v_surely : Int64} {a_mostBy : Nat → Int64} {a_leastBy : Nat → Int64} {v_between : Int64} {v_steadyWays : Int32} {v_quashed : Int32} {v_but : Int32} {a_figures : Nat → Int32} {a_all : Nat → Int32} {a_lies : Nat → Int32} {a_since : Nat → Int32} {v_last : Int32} {v_state : Int64} {Fu : Nat} {a_row : Nat → Int32} {x1 : Int32} {x2 : Int32} {R : Int32} (hf : fX12_hungerIn Fu a_row x1 x2 = some R) : E G b yX12_hungerIn cX12_hungerIn 6 (some .int) (e_rm 1 0 0) e_X0 (e_Z G b (pD (some (.int R)) (e_ov (kM o) (wM G b o v_thrown v_status a_refusals a_row a_images a_isKept a_tape v_taped v_from v_to v_sort v_worth v_fault v_bad v_nClauses a_nClause v_nCode a_nOp a_nArg v_nLeaves a_pile a_pileAt v_piled v_opened a_words a_headWords v_law a_set a_rest v_broken v_value v_sum a_chances a_votes a_costs a_table a_prices v_surely a_mostBy a_leastBy v_between v_steadyWays v_quashed v_but a_figures a_all a_lies a_since v_last v_state) c0) n) 0 0) 0 [(0, .ref (b + o)), (1, .int x1), (2, .int x2)] [] (e_ov (kM o) (wM G b o v_thrown v_status a_refusals a_row a_images a_isKept a_tape v_taped v_from v_to v_sort v_worth v_fault v_bad v_nClauses a_nClause v_nCode a_nOp a_nArg v_nLeaves a_pile a_pileAt v_piled v_opened a_words a_headWords v_law a_set a_rest v_broken v_value v_sum a_chances a_votes a_costs a_table a_prices v_surely a_mostBy a_leastBy v_between v_steadyWays v_quashed v_but a_figures a_all a_lies a_since v_last v_state) c0) n 0 0 := by
  unfold fX12_hungerIn at hf
  refine E.iconst (v := -1) dX12_hungerIn_0 (by decide) ?_
  refine E.istore_n (lv' := [(3, .int (-1 : Int32)), (0, .ref (b + o)), (1, .int x1), (2, .int x2)]) dX12_hungerIn_1 (by decide) rfl ?_
  refine E.iconst (v := 0) dX12_hungerIn_2 (by decide) ?_
  refine E.istore (lv' := [(4, .int 0), (3, .int (-1 : Int32)), (0, .ref (b + o)), (1, .int x1), (2, .int x2)]) dX12_hungerIn_3 (by decide) rfl ?_
  refine E.locals [2, 3, 4, 1, 0] rfl ?_
  exact tX12_hungerIn_L5 hw _ hf
set_option maxRecDepth 100000 in
theorem mX12_hungerIn {G : GT} {b : Nat} {o : Nat} {c0 : Hp} {n : Nat} (hw : e_wf (kM o) n) {v_thrown : Int32} {v_status : Int32} {a_refusals : Nat → Int32} {a_images : Nat → Int32} {a_isKept : Nat → Int32} {a_tape : Nat → Int32} {v_taped : Int32} {v_from : Int32} {v_to : Int32} {v_sort : Int32} {v_worth : Int64} {v_fault : Int32} {v_bad : Int32} {v_nClauses : Int32} {a_nClause : Nat → Int32} {v_nCode : Int32} {a_nOp : Nat → Int32} {a_nArg : Nat → Int32} {v_nLeaves : Int32} {a_pile : Nat → Int32} {a_pileAt : Nat → Int32} {v_piled : Int32} {v_opened : Int32} {a_words : Nat → Int64} {a_headWords : Nat → Int64} {v_law : Int32} {a_set : Nat → Int64} {a_rest : Nat → Int64} {v_broken : Int32} {v_value : Int64} {v_sum : Int64} {a_chances : Nat → Int32} {a_votes : Nat → Int64} {a_costs : Nat → Int32} {a_table : Nat → Int64} {a_prices : Nat → Int32} {v_surely : Int64} {a_mostBy : Nat → Int64} {a_leastBy : Nat → Int64} {v_between : Int64} {v_steadyWays : Int32} {v_quashed : Int32} {v_but : Int32} {a_figures : Nat → Int32} {a_all : Nat → Int32} {a_lies : Nat → Int32} {a_since : Nat → Int32} {v_last : Int32} {v_state : Int64} {Fu : Nat} {a_row : Nat → Int32} {x1 : Int32} {x2 : Int32} {R : Int32} (hf : fX12_hungerIn Fu a_row x1 x2 = some R) : e_C G b yX12_hungerIn cX12_hungerIn 6 (some .int) 1 0 0 [.ref (b + o), .int x1, .int x2] (e_ov (kM o) (wM G b o v_thrown v_status a_refusals a_row a_images a_isKept a_tape v_taped v_from v_to v_sort v_worth v_fault v_bad v_nClauses a_nClause v_nCode a_nOp a_nArg v_nLeaves a_pile a_pileAt v_piled v_opened a_words a_headWords v_law a_set a_rest v_broken v_value v_sum a_chances a_votes a_costs a_table a_prices v_surely a_mostBy a_leastBy v_between v_steadyWays v_quashed v_but a_figures a_all a_lies a_since v_last v_state) c0) n (pD (some (.int R)) (e_ov (kM o) (wM G b o v_thrown v_status a_refusals a_row a_images a_isKept a_tape v_taped v_from v_to v_sort v_worth v_fault v_bad v_nClauses a_nClause v_nCode a_nOp a_nArg v_nLeaves a_pile a_pileAt v_piled v_opened a_words a_headWords v_law a_set a_rest v_broken v_value v_sum a_chances a_votes a_costs a_table a_prices v_surely a_mostBy a_leastBy v_between v_steadyWays v_quashed v_but a_figures a_all a_lies a_since v_last v_state) c0) n) := e_C.of (by decide) (Nat.le_of_ble_eq_true rfl) (tX12_hungerIn hw hf)
def fX12_hunger_L29 (Fu : Nat) (v_thrown : Int32) (a_row : Nat → Int32) : Option (Int32 × Int32) := some ((-1 : Int32), v_thrown)
set_option maxHeartbeats 4000000 in
set_option maxRecDepth 100000 in
theorem tX12_hunger_L29 {G : GT} {b : Nat} {o : Nat} {c0 : Hp} {n : Nat} (hw : e_wf (kM o) n) {v_status : Int32} {a_refusals : Nat → Int32} {a_images : Nat → Int32} {a_isKept : Nat → Int32} {a_tape : Nat → Int32} {v_taped : Int32} {v_from : Int32} {v_to : Int32} {v_sort : Int32} {v_worth : Int64} {v_fault : Int32} {v_bad : Int32} {v_nClauses : Int32} {a_nClause : Nat → Int32} {v_nCode : Int32} {a_nOp : Nat → Int32} {a_nArg : Nat → Int32} {v_nLeaves : Int32} {a_pile : Nat → Int32} {a_pileAt : Nat → Int32} {v_piled : Int32} {v_opened : Int32} {a_words : Nat → Int64} {a_headWords : Nat → Int64} {v_law : Int32} {a_set : Nat → Int64} {a_rest : Nat → Int64} {v_broken : Int32} {v_value : Int64} {v_sum : Int64} {a_chances : Nat → Int32} {a_votes : Nat → Int64} {a_costs : Nat → Int32} {a_table : Nat → Int64} {a_prices : Nat → Int32} {v_surely : Int64} {a_mostBy : Nat → Int64} {a_leastBy : Nat → Int64} {v_between : Int64} {v_steadyWays : Int32} {v_quashed : Int32} {v_but : Int32} {a_figures : Nat → Int32} {a_all : Nat → Int32} {a_lies : Nat → Int32} {a_since : Nat → Int32} {v_last : Int32} {v_state : Int64} {Fu : Nat} {v_thrown : Int32} {a_row : Nat → Int32} {R : Int32 × Int32} (hf : fX12_hunger_L29 Fu v_thrown a_row = some R) : E G b yX12_hunger cX12_hunger 3 (some .int) (e_rm 2 0 0) e_X0 (e_Z G b (pD (some (.int R.1)) (e_ov (kM o) (wM G b o R.2 v_status a_refusals a_row a_images a_isKept a_tape v_taped v_from v_to v_sort v_worth v_fault v_bad v_nClauses a_nClause v_nCode a_nOp a_nArg v_nLeaves a_pile a_pileAt v_piled v_opened a_words a_headWords v_law a_set a_rest v_broken v_value v_sum a_chances a_votes a_costs a_table a_prices v_surely a_mostBy a_leastBy v_between v_steadyWays v_quashed v_but a_figures a_all a_lies a_since v_last v_state) c0) n) 0 0) 29 [] [] (e_ov (kM o) (wM G b o v_thrown v_status a_refusals a_row a_images a_isKept a_tape v_taped v_from v_to v_sort v_worth v_fault v_bad v_nClauses a_nClause v_nCode a_nOp a_nArg v_nLeaves a_pile a_pileAt v_piled v_opened a_words a_headWords v_law a_set a_rest v_broken v_value v_sum a_chances a_votes a_costs a_table a_prices v_surely a_mostBy a_leastBy v_between v_steadyWays v_quashed v_but a_figures a_all a_lies a_since v_last v_state) c0) n 0 0 := by
  unfold fX12_hunger_L29 at hf
  refine E.iconst (v := -1) dX12_hunger_29 (by decide) ?_
  cases hf
  exact E.iret dX12_hunger_30 (Nat.le_refl _) (Nat.le_refl _) (pD_rf _ _ _)
def fX12_hunger (Fu : Nat) (v_thrown : Int32) (a_row : Nat → Int32) (x1 : Int32) (x2 : Int32) : Option (Int32 × Int32) := (fX12_isBeast a_row x1).bind fun r1 => (if (r1 : Int32) = 0 then (fX12_hunger_L29 Fu 0 a_row) else ((fX12_isHour x2).bind fun r2 => (if (r2 : Int32) = 0 then (fX12_hunger_L29 Fu 0 a_row) else ((fX12_hungerIn Fu a_row x1 x2).bind fun r3 => (some (r3, 0))))))
set_option maxHeartbeats 4000000 in
set_option maxRecDepth 100000 in
theorem tX12_hunger {G : GT} {b : Nat} {o : Nat} {c0 : Hp} {n : Nat} (hw : e_wf (kM o) n) {v_status : Int32} {a_refusals : Nat → Int32} {a_images : Nat → Int32} {a_isKept : Nat → Int32} {a_tape : Nat → Int32} {v_taped : Int32} {v_from : Int32} {v_to : Int32} {v_sort : Int32} {v_worth : Int64} {v_fault : Int32} {v_bad : Int32} {v_nClauses : Int32} {a_nClause : Nat → Int32} {v_nCode : Int32} {a_nOp : Nat → Int32} {a_nArg : Nat → Int32} {v_nLeaves : Int32} {a_pile : Nat → Int32} {a_pileAt : Nat → Int32} {v_piled : Int32} {v_opened : Int32} {a_words : Nat → Int64} {a_headWords : Nat → Int64} {v_law : Int32} {a_set : Nat → Int64} {a_rest : Nat → Int64} {v_broken : Int32} {v_value : Int64} {v_sum : Int64} {a_chances : Nat → Int32} {a_votes : Nat → Int64} {a_costs : Nat → Int32} {a_table : Nat → Int64} {a_prices : Nat → Int32} {v_surely : Int64} {a_mostBy : Nat → Int64} {a_leastBy : Nat → Int64} {v_between : Int64} {v_steadyWays : Int32} {v_quashed : Int32} {v_but : Int32} {a_figures : Nat → Int32} {a_all : Nat → Int32} {a_lies : Nat → Int32} {a_since : Nat → Int32} {v_last : Int32} {v_state : Int64} {Fu : Nat} {v_thrown : Int32} {a_row : Nat → Int32} {x1 : Int32} {x2 : Int32} {R : Int32 × Int32} (hf : fX12_hunger Fu v_thrown a_row x1 x2 = some R) : E G b yX12_hunger cX12_hunger 3 (some .int) (e_rm 2 0 0) e_X0 (e_Z G b (pD (some (.int R.1)) (e_ov (kM o) (wM G b o R.2 v_status a_refusals a_row a_images a_isKept a_tape v_taped v_from v_to v_sort v_worth v_fault v_bad v_nClauses a_nClause v_nCode a_nOp a_nArg v_nLeaves a_pile a_pileAt v_piled v_opened a_words a_headWords v_law a_set a_rest v_broken v_value v_sum a_chances a_votes a_costs a_table a_prices v_surely a_mostBy a_leastBy v_between v_steadyWays v_quashed v_but a_figures a_all a_lies a_since v_last v_state) c0) n) 0 0) 0 [(0, .ref (b + o)), (1, .int x1), (2, .int x2)] [] (e_ov (kM o) (wM G b o v_thrown v_status a_refusals a_row a_images a_isKept a_tape v_taped v_from v_to v_sort v_worth v_fault v_bad v_nClauses a_nClause v_nCode a_nOp a_nArg v_nLeaves a_pile a_pileAt v_piled v_opened a_words a_headWords v_law a_set a_rest v_broken v_value v_sum a_chances a_votes a_costs a_table a_prices v_surely a_mostBy a_leastBy v_between v_steadyWays v_quashed v_but a_figures a_all a_lies a_since v_last v_state) c0) n 0 0 := by
  unfold fX12_hunger at hf
  refine E.aload_n 0 dX12_hunger_0 rfl ?_
  refine E.iconst (v := 0) dX12_hunger_1 (by decide) ?_
  refine E.put (es' := (wM G b o 0 v_status a_refusals a_row a_images a_isKept a_tape v_taped v_from v_to v_sort v_worth v_fault v_bad v_nClauses a_nClause v_nCode a_nOp a_nArg v_nLeaves a_pile a_pileAt v_piled v_opened a_words a_headWords v_law a_set a_rest v_broken v_value v_sum a_chances a_votes a_costs a_table a_prices v_surely a_mostBy a_leastBy v_between v_steadyWays v_quashed v_but a_figures a_all a_lies a_since v_last v_state)) hw 0 o dX12_hunger_2 flX12_124 ftX12 rfl rfl rfl rfl rfl rfl (Nat.le_of_ble_eq_true rfl) rfl ?_
  refine E.aload_n 0 dX12_hunger_5 rfl ?_
  refine E.iload_n 1 dX12_hunger_6 rfl ?_
  obtain ⟨r1, hc1, hf⟩ := e_bind hf
  refine E.callVD [] dX12_hunger_7 mlX12_153 ⟨hw.sub (p := 0) rfl, e_ov_get hw.1 (p := 0) rfl rfl⟩ rfl rfl (mX12_isBeast hw hc1) ⟨Nat.le_of_ble_eq_true rfl, Nat.le_of_ble_eq_true rfl⟩ rfl rfl (Nat.le_of_ble_eq_true rfl) ⟨Nat.le_refl _, Nat.le_refl _⟩ rfl ?_
  refine E.if_eq dX12_hunger_10 (fun h => ?_) (fun h => ?_)
  · have hf := e_ift hf h
    refine E.locals [] rfl ?_
    exact tX12_hunger_L29 hw hf
  · have hf := e_iff hf h
    refine E.iload_n 2 dX12_hunger_13 rfl ?_
    obtain ⟨r2, hc2, hf⟩ := e_bind hf
    refine E.callSD [] dX12_hunger_14 mlX12_166 (mX12_isHour hc2) ⟨Nat.le_of_ble_eq_true rfl, Nat.le_of_ble_eq_true rfl⟩ rfl rfl (Nat.le_of_ble_eq_true rfl) ⟨Nat.le_refl _, Nat.le_refl _⟩ rfl ?_
    refine E.if_eq dX12_hunger_17 (fun h => ?_) (fun h => ?_)
    · have hf := e_ift hf h
      refine E.locals [] rfl ?_
      exact tX12_hunger_L29 hw hf
    · have hf := e_iff hf h
      refine E.aload_n 0 dX12_hunger_20 rfl ?_
      refine E.iload_n 1 dX12_hunger_21 rfl ?_
      refine E.iload_n 2 dX12_hunger_22 rfl ?_
      obtain ⟨r3, hc3, hf⟩ := e_bind hf
      refine E.callVD [] dX12_hunger_23 mlX12_169 ⟨hw.sub (p := 0) rfl, e_ov_get hw.1 (p := 0) rfl rfl⟩ rfl rfl (mX12_hungerIn hw hc3) ⟨Nat.le_of_ble_eq_true rfl, Nat.le_of_ble_eq_true rfl⟩ rfl rfl (Nat.le_of_ble_eq_true rfl) ⟨Nat.le_refl _, Nat.le_refl _⟩ rfl ?_
      refine E.goto dX12_hunger_26 ?_
      cases hf
      exact E.iret dX12_hunger_30 (Nat.le_refl _) (Nat.le_refl _) (pD_rf _ _ _)
set_option maxRecDepth 100000 in
theorem mX12_hunger {G : GT} {b : Nat} {o : Nat} {c0 : Hp} {n : Nat} (hw : e_wf (kM o) n) {v_status : Int32} {a_refusals : Nat → Int32} {a_images : Nat → Int32} {a_isKept : Nat → Int32} {a_tape : Nat → Int32} {v_taped : Int32} {v_from : Int32} {v_to : Int32} {v_sort : Int32} {v_worth : Int64} {v_fault : Int32} {v_bad : Int32} {v_nClauses : Int32} {a_nClause : Nat → Int32} {v_nCode : Int32} {a_nOp : Nat → Int32} {a_nArg : Nat → Int32} {v_nLeaves : Int32} {a_pile : Nat → Int32} {a_pileAt : Nat → Int32} {v_piled : Int32} {v_opened : Int32} {a_words : Nat → Int64} {a_headWords : Nat → Int64} {v_law : Int32} {a_set : Nat → Int64} {a_rest : Nat → Int64} {v_broken : Int32} {v_value : Int64} {v_sum : Int64} {a_chances : Nat → Int32} {a_votes : Nat → Int64} {a_costs : Nat → Int32} {a_table : Nat → Int64} {a_prices : Nat → Int32} {v_surely : Int64} {a_mostBy : Nat → Int64} {a_leastBy : Nat → Int64} {v_between : Int64} {v_steadyWays : Int32} {v_quashed : Int32} {v_but : Int32} {a_figures : Nat → Int32} {a_all : Nat → Int32} {a_lies : Nat → Int32} {a_since : Nat → Int32} {v_last : Int32} {v_state : Int64} {Fu : Nat} {v_thrown : Int32} {a_row : Nat → Int32} {x1 : Int32} {x2 : Int32} {R : Int32 × Int32} (hf : fX12_hunger Fu v_thrown a_row x1 x2 = some R) : e_C G b yX12_hunger cX12_hunger 3 (some .int) 2 0 0 [.ref (b + o), .int x1, .int x2] (e_ov (kM o) (wM G b o v_thrown v_status a_refusals a_row a_images a_isKept a_tape v_taped v_from v_to v_sort v_worth v_fault v_bad v_nClauses a_nClause v_nCode a_nOp a_nArg v_nLeaves a_pile a_pileAt v_piled v_opened a_words a_headWords v_law a_set a_rest v_broken v_value v_sum a_chances a_votes a_costs a_table a_prices v_surely a_mostBy a_leastBy v_between v_steadyWays v_quashed v_but a_figures a_all a_lies a_since v_last v_state) c0) n (pD (some (.int R.1)) (e_ov (kM o) (wM G b o R.2 v_status a_refusals a_row a_images a_isKept a_tape v_taped v_from v_to v_sort v_worth v_fault v_bad v_nClauses a_nClause v_nCode a_nOp a_nArg v_nLeaves a_pile a_pileAt v_piled v_opened a_words a_headWords v_law a_set a_rest v_broken v_value v_sum a_chances a_votes a_costs a_table a_prices v_surely a_mostBy a_leastBy v_between v_steadyWays v_quashed v_but a_figures a_all a_lies a_since v_last v_state) c0) n) := e_C.of (by decide) (Nat.le_of_ble_eq_true rfl) (tX12_hunger hw hf)
def fX12_areBeasts (a_row : Nat → Int32) (x1 : Int32) : Option (Int32) := gd 0 5570 ((fX12_in ((x1 : Int32).toInt64) 0 ((((1 <<< ((a_row (0 : Int32).toNatClampNeg) &&& 31)) : Int32).toInt64) - 1)).bind fun r2 => (gb r2 (some (r2))))
set_option maxHeartbeats 4000000 in
set_option maxRecDepth 100000 in
theorem tX12_areBeasts {G : GT} {b : Nat} {o : Nat} {c0 : Hp} {n : Nat} (hw : e_wf (kM o) n) {v_thrown : Int32} {v_status : Int32} {a_refusals : Nat → Int32} {a_images : Nat → Int32} {a_isKept : Nat → Int32} {a_tape : Nat → Int32} {v_taped : Int32} {v_from : Int32} {v_to : Int32} {v_sort : Int32} {v_worth : Int64} {v_fault : Int32} {v_bad : Int32} {v_nClauses : Int32} {a_nClause : Nat → Int32} {v_nCode : Int32} {a_nOp : Nat → Int32} {a_nArg : Nat → Int32} {v_nLeaves : Int32} {a_pile : Nat → Int32} {a_pileAt : Nat → Int32} {v_piled : Int32} {v_opened : Int32} {a_words : Nat → Int64} {a_headWords : Nat → Int64} {v_law : Int32} {a_set : Nat → Int64} {a_rest : Nat → Int64} {v_broken : Int32} {v_value : Int64} {v_sum : Int64} {a_chances : Nat → Int32} {a_votes : Nat → Int64} {a_costs : Nat → Int32} {a_table : Nat → Int64} {a_prices : Nat → Int32} {v_surely : Int64} {a_mostBy : Nat → Int64} {a_leastBy : Nat → Int64} {v_between : Int64} {v_steadyWays : Int32} {v_quashed : Int32} {v_but : Int32} {a_figures : Nat → Int32} {a_all : Nat → Int32} {a_lies : Nat → Int32} {a_since : Nat → Int32} {v_last : Int32} {v_state : Int64} {a_row : Nat → Int32} {x1 : Int32} {R : Int32} (hf : fX12_areBeasts a_row x1 = some R) : E G b yX12_areBeasts cX12_areBeasts 2 (some .boolean) (e_rm 1 0 0) e_X0 (e_Z G b (pD (some (.int R)) (e_ov (kM o) (wM G b o v_thrown v_status a_refusals a_row a_images a_isKept a_tape v_taped v_from v_to v_sort v_worth v_fault v_bad v_nClauses a_nClause v_nCode a_nOp a_nArg v_nLeaves a_pile a_pileAt v_piled v_opened a_words a_headWords v_law a_set a_rest v_broken v_value v_sum a_chances a_votes a_costs a_table a_prices v_surely a_mostBy a_leastBy v_between v_steadyWays v_quashed v_but a_figures a_all a_lies a_since v_last v_state) c0) n) 0 0) 0 [(0, .ref (b + o)), (1, .int x1)] [] (e_ov (kM o) (wM G b o v_thrown v_status a_refusals a_row a_images a_isKept a_tape v_taped v_from v_to v_sort v_worth v_fault v_bad v_nClauses a_nClause v_nCode a_nOp a_nArg v_nLeaves a_pile a_pileAt v_piled v_opened a_words a_headWords v_law a_set a_rest v_broken v_value v_sum a_chances a_votes a_costs a_table a_prices v_surely a_mostBy a_leastBy v_between v_steadyWays v_quashed v_but a_figures a_all a_lies a_since v_last v_state) c0) n 0 0 := by
  unfold fX12_areBeasts at hf
  refine E.iload_n 1 dX12_areBeasts_0 rfl ?_
  refine E.i2l dX12_areBeasts_1 ?_
  refine E.lconst (v := 0) dX12_areBeasts_2 (by decide) ?_
  refine E.iconst (v := 1) dX12_areBeasts_3 (by decide) ?_
  refine E.aload_n 0 dX12_areBeasts_4 rfl ?_
  refine E.get hw 0 o dX12_areBeasts_5 flX12_13 rfl rfl rfl rfl ?_
  refine E.iconst (v := 0) dX12_areBeasts_8 (by decide) ?_
  obtain ⟨g1, hf⟩ := gd_some hf
  refine E.iald hw 2 (o + 2) dX12_areBeasts_9 rfl rfl g1 ?_
  refine E.ishl dX12_areBeasts_10 ?_
  refine E.i2l dX12_areBeasts_11 ?_
  refine E.lconst (v := 1) dX12_areBeasts_12 (by decide) ?_
  refine E.lsub dX12_areBeasts_13 ?_
  obtain ⟨r2, hc2, hf⟩ := e_bind hf
  refine E.callSD [] dX12_areBeasts_14 mlX12_134 (mX12_in hc2) ⟨Nat.le_of_ble_eq_true rfl, Nat.le_of_ble_eq_true rfl⟩ rfl rfl (Nat.le_of_ble_eq_true rfl) ⟨Nat.le_refl _, Nat.le_refl _⟩ rfl ?_
  obtain ⟨g3, hf⟩ := gb_some hf
  cases hf
  exact E.zret dX12_areBeasts_17 (nb01 g3) (Nat.le_refl _) (Nat.le_refl _) (pD_rf _ _ _)
set_option maxRecDepth 100000 in
theorem mX12_areBeasts {G : GT} {b : Nat} {o : Nat} {c0 : Hp} {n : Nat} (hw : e_wf (kM o) n) {v_thrown : Int32} {v_status : Int32} {a_refusals : Nat → Int32} {a_images : Nat → Int32} {a_isKept : Nat → Int32} {a_tape : Nat → Int32} {v_taped : Int32} {v_from : Int32} {v_to : Int32} {v_sort : Int32} {v_worth : Int64} {v_fault : Int32} {v_bad : Int32} {v_nClauses : Int32} {a_nClause : Nat → Int32} {v_nCode : Int32} {a_nOp : Nat → Int32} {a_nArg : Nat → Int32} {v_nLeaves : Int32} {a_pile : Nat → Int32} {a_pileAt : Nat → Int32} {v_piled : Int32} {v_opened : Int32} {a_words : Nat → Int64} {a_headWords : Nat → Int64} {v_law : Int32} {a_set : Nat → Int64} {a_rest : Nat → Int64} {v_broken : Int32} {v_value : Int64} {v_sum : Int64} {a_chances : Nat → Int32} {a_votes : Nat → Int64} {a_costs : Nat → Int32} {a_table : Nat → Int64} {a_prices : Nat → Int32} {v_surely : Int64} {a_mostBy : Nat → Int64} {a_leastBy : Nat → Int64} {v_between : Int64} {v_steadyWays : Int32} {v_quashed : Int32} {v_but : Int32} {a_figures : Nat → Int32} {a_all : Nat → Int32} {a_lies : Nat → Int32} {a_since : Nat → Int32} {v_last : Int32} {v_state : Int64} {a_row : Nat → Int32} {x1 : Int32} {R : Int32} (hf : fX12_areBeasts a_row x1 = some R) : e_C G b yX12_areBeasts cX12_areBeasts 2 (some .boolean) 1 0 0 [.ref (b + o), .int x1] (e_ov (kM o) (wM G b o v_thrown v_status a_refusals a_row a_images a_isKept a_tape v_taped v_from v_to v_sort v_worth v_fault v_bad v_nClauses a_nClause v_nCode a_nOp a_nArg v_nLeaves a_pile a_pileAt v_piled v_opened a_words a_headWords v_law a_set a_rest v_broken v_value v_sum a_chances a_votes a_costs a_table a_prices v_surely a_mostBy a_leastBy v_between v_steadyWays v_quashed v_but a_figures a_all a_lies a_since v_last v_state) c0) n (pD (some (.int R)) (e_ov (kM o) (wM G b o v_thrown v_status a_refusals a_row a_images a_isKept a_tape v_taped v_from v_to v_sort v_worth v_fault v_bad v_nClauses a_nClause v_nCode a_nOp a_nArg v_nLeaves a_pile a_pileAt v_piled v_opened a_words a_headWords v_law a_set a_rest v_broken v_value v_sum a_chances a_votes a_costs a_table a_prices v_surely a_mostBy a_leastBy v_between v_steadyWays v_quashed v_but a_figures a_all a_lies a_since v_last v_state) c0) n) := e_C.of (by decide) (Nat.le_of_ble_eq_true rfl) (tX12_areBeasts hw hf)
def fX12_bench (v_thrown : Int32) (v_status : Int32) (a_refusals : Nat → Int32) (a_row : Nat → Int32) (x1 : Int32) : Option (Int32 × Int32 × Int32 × (Nat → Int32) × (Nat → Int32)) := (fX12_areBeasts a_row x1).bind fun r1 => (if (r1 : Int32) = 0 then ((fX12_tell v_status a_refusals (-1 : Int32)).bind fun r2 => (some (r2.1, 0, r2.2.1, r2.2.2, a_row))) else ((fX12_change v_status a_row 4 x1).bind fun r3 => (some (r3.1, 0, r3.2.1, a_refusals, r3.2.2))))
set_option maxHeartbeats 4000000 in
set_option maxRecDepth 100000 in
theorem tX12_bench {G : GT} {b : Nat} {o : Nat} {c0 : Hp} {n : Nat} (hw : e_wf (kM o) n) {a_images : Nat → Int32} {a_isKept : Nat → Int32} {a_tape : Nat → Int32} {v_taped : Int32} {v_from : Int32} {v_to : Int32} {v_sort : Int32} {v_worth : Int64} {v_fault : Int32} {v_bad : Int32} {v_nClauses : Int32} {a_nClause : Nat → Int32} {v_nCode : Int32} {a_nOp : Nat → Int32} {a_nArg : Nat → Int32} {v_nLeaves : Int32} {a_pile : Nat → Int32} {a_pileAt : Nat → Int32} {v_piled : Int32} {v_opened : Int32} {a_words : Nat → Int64} {a_headWords : Nat → Int64} {v_law : Int32} {a_set : Nat → Int64} {a_rest : Nat → Int64} {v_broken : Int32} {v_value : Int64} {v_sum : Int64} {a_chances : Nat → Int32} {a_votes : Nat → Int64} {a_costs : Nat → Int32} {a_table : Nat → Int64} {a_prices : Nat → Int32} {v_surely : Int64} {a_mostBy : Nat → Int64} {a_leastBy : Nat → Int64} {v_between : Int64} {v_steadyWays : Int32} {v_quashed : Int32} {v_but : Int32} {a_figures : Nat → Int32} {a_all : Nat → Int32} {a_lies : Nat → Int32} {a_since : Nat → Int32} {v_last : Int32} {v_state : Int64} {v_thrown : Int32} {v_status : Int32} {a_refusals : Nat → Int32} {a_row : Nat → Int32} {x1 : Int32} {R : Int32 × Int32 × Int32 × (Nat → Int32) × (Nat → Int32)} (hf : fX12_bench v_thrown v_status a_refusals a_row x1 = some R) : E G b yX12_bench cX12_bench 2 (some .int) (e_rm 2 0 0) e_X0 (e_Z G b (pD (some (.int R.1)) (e_ov (kM o) (wM G b o R.2.1 R.2.2.1 R.2.2.2.1 R.2.2.2.2 a_images a_isKept a_tape v_taped v_from v_to v_sort v_worth v_fault v_bad v_nClauses a_nClause v_nCode a_nOp a_nArg v_nLeaves a_pile a_pileAt v_piled v_opened a_words a_headWords v_law a_set a_rest v_broken v_value v_sum a_chances a_votes a_costs a_table a_prices v_surely a_mostBy a_leastBy v_between v_steadyWays v_quashed v_but a_figures a_all a_lies a_since v_last v_state) c0) n) 0 0) 0 [(0, .ref (b + o)), (1, .int x1)] [] (e_ov (kM o) (wM G b o v_thrown v_status a_refusals a_row a_images a_isKept a_tape v_taped v_from v_to v_sort v_worth v_fault v_bad v_nClauses a_nClause v_nCode a_nOp a_nArg v_nLeaves a_pile a_pileAt v_piled v_opened a_words a_headWords v_law a_set a_rest v_broken v_value v_sum a_chances a_votes a_costs a_table a_prices v_surely a_mostBy a_leastBy v_between v_steadyWays v_quashed v_but a_figures a_all a_lies a_since v_last v_state) c0) n 0 0 := by
  unfold fX12_bench at hf
  refine E.aload_n 0 dX12_bench_0 rfl ?_
  refine E.iconst (v := 0) dX12_bench_1 (by decide) ?_
  refine E.put (es' := (wM G b o 0 v_status a_refusals a_row a_images a_isKept a_tape v_taped v_from v_to v_sort v_worth v_fault v_bad v_nClauses a_nClause v_nCode a_nOp a_nArg v_nLeaves a_pile a_pileAt v_piled v_opened a_words a_headWords v_law a_set a_rest v_broken v_value v_sum a_chances a_votes a_costs a_table a_prices v_surely a_mostBy a_leastBy v_between v_steadyWays v_quashed v_but a_figures a_all a_lies a_since v_last v_state)) hw 0 o dX12_bench_2 flX12_124 ftX12 rfl rfl rfl rfl rfl rfl (Nat.le_of_ble_eq_true rfl) rfl ?_
  refine E.aload_n 0 dX12_bench_5 rfl ?_
  refine E.iload_n 1 dX12_bench_6 rfl ?_
  obtain ⟨r1, hc1, hf⟩ := e_bind hf
  refine E.callVD [] dX12_bench_7 mlX12_172 ⟨hw.sub (p := 0) rfl, e_ov_get hw.1 (p := 0) rfl rfl⟩ rfl rfl (mX12_areBeasts hw hc1) ⟨Nat.le_of_ble_eq_true rfl, Nat.le_of_ble_eq_true rfl⟩ rfl rfl (Nat.le_of_ble_eq_true rfl) ⟨Nat.le_refl _, Nat.le_refl _⟩ rfl ?_
  refine E.if_eq dX12_bench_10 (fun h => ?_) (fun h => ?_)
  · have hf := e_ift hf h
    refine E.aload_n 0 dX12_bench_22 rfl ?_
    refine E.iconst (v := -1) dX12_bench_23 (by decide) ?_
    obtain ⟨r2, hc2, hf⟩ := e_bind hf
    refine E.callVD [] dX12_bench_24 mlX12_138 ⟨hw.sub (p := 0) rfl, e_ov_get hw.1 (p := 0) rfl rfl⟩ rfl rfl (mX12_tell hw hc2) ⟨Nat.le_of_ble_eq_true rfl, Nat.le_of_ble_eq_true rfl⟩ rfl rfl (Nat.le_of_ble_eq_true rfl) ⟨Nat.le_refl _, Nat.le_refl _⟩ rfl ?_
    cases hf
    exact E.iret dX12_bench_27 (Nat.le_refl _) (Nat.le_refl _) (pD_rf _ _ _)
  · have hf := e_iff hf h
    refine E.aload_n 0 dX12_bench_13 rfl ?_
    refine E.iconst (v := 4) dX12_bench_14 (by decide) ?_
    refine E.iload_n 1 dX12_bench_15 rfl ?_
    obtain ⟨r3, hc3, hf⟩ := e_bind hf
    refine E.callVD [] dX12_bench_16 mlX12_157 ⟨hw.sub (p := 0) rfl, e_ov_get hw.1 (p := 0) rfl rfl⟩ rfl rfl (mX12_change hw hc3) ⟨Nat.le_of_ble_eq_true rfl, Nat.le_of_ble_eq_true rfl⟩ rfl rfl (Nat.le_of_ble_eq_true rfl) ⟨Nat.le_refl _, Nat.le_refl _⟩ rfl ?_
    refine E.goto dX12_bench_19 ?_
    cases hf
    exact E.iret dX12_bench_27 (Nat.le_refl _) (Nat.le_refl _) (pD_rf _ _ _)
set_option maxRecDepth 100000 in
theorem mX12_bench {G : GT} {b : Nat} {o : Nat} {c0 : Hp} {n : Nat} (hw : e_wf (kM o) n) {a_images : Nat → Int32} {a_isKept : Nat → Int32} {a_tape : Nat → Int32} {v_taped : Int32} {v_from : Int32} {v_to : Int32} {v_sort : Int32} {v_worth : Int64} {v_fault : Int32} {v_bad : Int32} {v_nClauses : Int32} {a_nClause : Nat → Int32} {v_nCode : Int32} {a_nOp : Nat → Int32} {a_nArg : Nat → Int32} {v_nLeaves : Int32} {a_pile : Nat → Int32} {a_pileAt : Nat → Int32} {v_piled : Int32} {v_opened : Int32} {a_words : Nat → Int64} {a_headWords : Nat → Int64} {v_law : Int32} {a_set : Nat → Int64} {a_rest : Nat → Int64} {v_broken : Int32} {v_value : Int64} {v_sum : Int64} {a_chances : Nat → Int32} {a_votes : Nat → Int64} {a_costs : Nat → Int32} {a_table : Nat → Int64} {a_prices : Nat → Int32} {v_surely : Int64} {a_mostBy : Nat → Int64} {a_leastBy : Nat → Int64} {v_between : Int64} {v_steadyWays : Int32} {v_quashed : Int32} {v_but : Int32} {a_figures : Nat → Int32} {a_all : Nat → Int32} {a_lies : Nat → Int32} {a_since : Nat → Int32} {v_last : Int32} {v_state : Int64} {v_thrown : Int32} {v_status : Int32} {a_refusals : Nat → Int32} {a_row : Nat → Int32} {x1 : Int32} {R : Int32 × Int32 × Int32 × (Nat → Int32) × (Nat → Int32)} (hf : fX12_bench v_thrown v_status a_refusals a_row x1 = some R) : e_C G b yX12_bench cX12_bench 2 (some .int) 2 0 0 [.ref (b + o), .int x1] (e_ov (kM o) (wM G b o v_thrown v_status a_refusals a_row a_images a_isKept a_tape v_taped v_from v_to v_sort v_worth v_fault v_bad v_nClauses a_nClause v_nCode a_nOp a_nArg v_nLeaves a_pile a_pileAt v_piled v_opened a_words a_headWords v_law a_set a_rest v_broken v_value v_sum a_chances a_votes a_costs a_table a_prices v_surely a_mostBy a_leastBy v_between v_steadyWays v_quashed v_but a_figures a_all a_lies a_since v_last v_state) c0) n (pD (some (.int R.1)) (e_ov (kM o) (wM G b o R.2.1 R.2.2.1 R.2.2.2.1 R.2.2.2.2 a_images a_isKept a_tape v_taped v_from v_to v_sort v_worth v_fault v_bad v_nClauses a_nClause v_nCode a_nOp a_nArg v_nLeaves a_pile a_pileAt v_piled v_opened a_words a_headWords v_law a_set a_rest v_broken v_value v_sum a_chances a_votes a_costs a_table a_prices v_surely a_mostBy a_leastBy v_between v_steadyWays v_quashed v_but a_figures a_all a_lies a_since v_last v_state) c0) n) := e_C.of (by decide) (Nat.le_of_ble_eq_true rfl) (tX12_bench hw hf)
def fX12_isTerm (x0 : Int32) (x1 : Int32) : Option (Int32) := if (x0 : Int32) = 0 then ((fX12_in ((x1 : Int32).toInt64) 1 8).bind fun r1 => (gb r1 (some (r1)))) else (if (x0 : Int32) = 1 then ((fX12_isHour x1).bind fun r3 => (gb r3 (some (r3)))) else (if (x0 : Int32) = 2 then ((fX12_in ((x1 : Int32).toInt64) 0 1).bind fun r5 => (gb r5 (some (r5)))) else (if (x0 : Int32) = 3 then ((fX12_in ((x1 : Int32).toInt64) 0 999).bind fun r7 => (gb r7 (some (r7)))) else (if (x0 : Int32) = 4 then ((fX12_in ((x1 : Int32).toInt64) 0 999).bind fun r9 => (gb r9 (some (r9)))) else (if (x0 : Int32) = 5 then ((fX12_in ((x1 : Int32).toInt64) 0 100).bind fun r11 => (gb r11 (some (r11)))) else (some (0)))))))
set_option maxHeartbeats 4000000 in
set_option maxRecDepth 100000 in
theorem tX12_isTerm {G : GT} {b : Nat} {c : Hp} {n : Nat} {x0 : Int32} {x1 : Int32} {R : Int32} (hf : fX12_isTerm x0 x1 = some R) : E G b yX12_isTerm cX12_isTerm 2 (some .boolean) (e_rm 2 0 0) e_X0 (e_Z G b (pD (some (.int R)) c n) 0 0) 0 [(0, .int x0), (1, .int x1)] [] c n 0 0 := by
  unfold fX12_isTerm at hf
  refine E.iload_n 0 dX12_isTerm_0 rfl ?_
  by_cases h0 : (x0 : Int32) = 0
  · have hf := e_ift hf h0
    refine E.tswI (w := 0) (tgt := 40) dX12_isTerm_1 h0 (by decide) (by decide) (o2 := 39) rfl (by decide) ?_
    refine E.iload_n 1 dX12_isTerm_40 rfl ?_
    refine E.i2l dX12_isTerm_41 ?_
    refine E.lconst (v := 1) dX12_isTerm_42 (by decide) ?_
    refine E.ldc2 dX12_isTerm_43 kX12_175 ?_
    obtain ⟨r1, hc1, hf⟩ := e_bind hf
    refine E.callSD [] dX12_isTerm_46 mlX12_134 (mX12_in hc1) ⟨Nat.le_of_ble_eq_true rfl, Nat.le_of_ble_eq_true rfl⟩ rfl rfl (Nat.le_of_ble_eq_true rfl) ⟨Nat.le_refl _, Nat.le_refl _⟩ rfl ?_
    obtain ⟨g2, hf⟩ := gb_some hf
    cases hf
    exact E.zret dX12_isTerm_49 (nb01 g2) (Nat.le_refl _) (Nat.le_refl _) (pD_rf _ _ _)
  · have hf := e_iff hf h0
    by_cases h1 : (x0 : Int32) = 1
    · have hf := e_ift hf h1
      refine E.tswI (w := 1) (tgt := 50) dX12_isTerm_1 h1 (by decide) (by decide) (o2 := 49) rfl (by decide) ?_
      refine E.iload_n 1 dX12_isTerm_50 rfl ?_
      obtain ⟨r3, hc3, hf⟩ := e_bind hf
      refine E.callSD [] dX12_isTerm_51 mlX12_166 (mX12_isHour hc3) ⟨Nat.le_of_ble_eq_true rfl, Nat.le_of_ble_eq_true rfl⟩ rfl rfl (Nat.le_of_ble_eq_true rfl) ⟨Nat.le_refl _, Nat.le_refl _⟩ rfl ?_
      obtain ⟨g4, hf⟩ := gb_some hf
      cases hf
      exact E.zret dX12_isTerm_54 (nb01 g4) (Nat.le_refl _) (Nat.le_refl _) (pD_rf _ _ _)
    · have hf := e_iff hf h1
      by_cases h2 : (x0 : Int32) = 2
      · have hf := e_ift hf h2
        refine E.tswI (w := 2) (tgt := 55) dX12_isTerm_1 h2 (by decide) (by decide) (o2 := 54) rfl (by decide) ?_
        refine E.iload_n 1 dX12_isTerm_55 rfl ?_
        refine E.i2l dX12_isTerm_56 ?_
        refine E.lconst (v := 0) dX12_isTerm_57 (by decide) ?_
        refine E.lconst (v := 1) dX12_isTerm_58 (by decide) ?_
        obtain ⟨r5, hc5, hf⟩ := e_bind hf
        refine E.callSD [] dX12_isTerm_59 mlX12_134 (mX12_in hc5) ⟨Nat.le_of_ble_eq_true rfl, Nat.le_of_ble_eq_true rfl⟩ rfl rfl (Nat.le_of_ble_eq_true rfl) ⟨Nat.le_refl _, Nat.le_refl _⟩ rfl ?_
        obtain ⟨g6, hf⟩ := gb_some hf
        cases hf
        exact E.zret dX12_isTerm_62 (nb01 g6) (Nat.le_refl _) (Nat.le_refl _) (pD_rf _ _ _)
      · have hf := e_iff hf h2
        by_cases h3 : (x0 : Int32) = 3
        · have hf := e_ift hf h3
          refine E.tswI (w := 3) (tgt := 63) dX12_isTerm_1 h3 (by decide) (by decide) (o2 := 62) rfl (by decide) ?_
          refine E.iload_n 1 dX12_isTerm_63 rfl ?_
          refine E.i2l dX12_isTerm_64 ?_
          refine E.lconst (v := 0) dX12_isTerm_65 (by decide) ?_
          refine E.ldc2 dX12_isTerm_66 kX12_177 ?_
          obtain ⟨r7, hc7, hf⟩ := e_bind hf
          refine E.callSD [] dX12_isTerm_69 mlX12_134 (mX12_in hc7) ⟨Nat.le_of_ble_eq_true rfl, Nat.le_of_ble_eq_true rfl⟩ rfl rfl (Nat.le_of_ble_eq_true rfl) ⟨Nat.le_refl _, Nat.le_refl _⟩ rfl ?_
          obtain ⟨g8, hf⟩ := gb_some hf
          cases hf
          exact E.zret dX12_isTerm_72 (nb01 g8) (Nat.le_refl _) (Nat.le_refl _) (pD_rf _ _ _)
        · have hf := e_iff hf h3
          by_cases h4 : (x0 : Int32) = 4
          · have hf := e_ift hf h4
            refine E.tswI (w := 4) (tgt := 73) dX12_isTerm_1 h4 (by decide) (by decide) (o2 := 72) rfl (by decide) ?_
            refine E.iload_n 1 dX12_isTerm_73 rfl ?_
            refine E.i2l dX12_isTerm_74 ?_
            refine E.lconst (v := 0) dX12_isTerm_75 (by decide) ?_
            refine E.ldc2 dX12_isTerm_76 kX12_177 ?_
            obtain ⟨r9, hc9, hf⟩ := e_bind hf
            refine E.callSD [] dX12_isTerm_79 mlX12_134 (mX12_in hc9) ⟨Nat.le_of_ble_eq_true rfl, Nat.le_of_ble_eq_true rfl⟩ rfl rfl (Nat.le_of_ble_eq_true rfl) ⟨Nat.le_refl _, Nat.le_refl _⟩ rfl ?_
            obtain ⟨g10, hf⟩ := gb_some hf
            cases hf
            exact E.zret dX12_isTerm_82 (nb01 g10) (Nat.le_refl _) (Nat.le_refl _) (pD_rf _ _ _)
          · have hf := e_iff hf h4
            by_cases h5 : (x0 : Int32) = 5
            · have hf := e_ift hf h5
              refine E.tswI (w := 5) (tgt := 83) dX12_isTerm_1 h5 (by decide) (by decide) (o2 := 82) rfl (by decide) ?_
              refine E.iload_n 1 dX12_isTerm_83 rfl ?_
              refine E.i2l dX12_isTerm_84 ?_
              refine E.lconst (v := 0) dX12_isTerm_85 (by decide) ?_
              refine E.ldc2 dX12_isTerm_86 kX12_179 ?_
              obtain ⟨r11, hc11, hf⟩ := e_bind hf
              refine E.callSD [] dX12_isTerm_89 mlX12_134 (mX12_in hc11) ⟨Nat.le_of_ble_eq_true rfl, Nat.le_of_ble_eq_true rfl⟩ rfl rfl (Nat.le_of_ble_eq_true rfl) ⟨Nat.le_refl _, Nat.le_refl _⟩ rfl ?_
              obtain ⟨g12, hf⟩ := gb_some hf
              cases hf
              exact E.zret dX12_isTerm_92 (nb01 g12) (Nat.le_refl _) (Nat.le_refl _) (pD_rf _ _ _)
            · have hf := e_iff hf h5
              refine E.tswO (tgt := 93) dX12_isTerm_1 (e_tsw_6 (ne_toInt h0 (k := 0) (by decide)) (ne_toInt h1 (k := 1) (by decide)) (ne_toInt h2 (k := 2) (by decide)) (ne_toInt h3 (k := 3) (by decide)) (ne_toInt h4 (k := 4) (by decide)) (ne_toInt h5 (k := 5) (by decide)) (by decide) (by decide) (by decide) (by decide) (by decide) (by decide) (by decide)) (by decide) ?_
              refine E.iconst (v := 0) dX12_isTerm_93 (by decide) ?_
              cases hf
              exact E.zret dX12_isTerm_94 rfl (Nat.le_refl _) (Nat.le_refl _) (pD_rf _ _ _)
set_option maxRecDepth 100000 in
theorem mX12_isTerm {G : GT} {b : Nat} {c : Hp} {n : Nat} {x0 : Int32} {x1 : Int32} {R : Int32} (hf : fX12_isTerm x0 x1 = some R) : e_C G b yX12_isTerm cX12_isTerm 2 (some .boolean) 2 0 0 [.int x0, .int x1] c n (pD (some (.int R)) c n) := e_C.of (by decide) (Nat.le_of_ble_eq_true rfl) (tX12_isTerm hf)
def fX12_terms (v_thrown : Int32) (v_status : Int32) (a_refusals : Nat → Int32) (a_row : Nat → Int32) (x1 : Int32) (x2 : Int32) : Option (Int32 × Int32 × Int32 × (Nat → Int32) × (Nat → Int32)) := (fX12_isTerm x1 x2).bind fun r1 => (if (r1 : Int32) = 0 then ((fX12_tell v_status a_refusals (-1 : Int32)).bind fun r2 => (some (r2.1, 0, r2.2.1, r2.2.2, a_row))) else ((fX12_change v_status a_row (5 + x1) x2).bind fun r3 => (some (r3.1, 0, r3.2.1, a_refusals, r3.2.2))))
set_option maxHeartbeats 4000000 in
set_option maxRecDepth 100000 in
theorem tX12_terms {G : GT} {b : Nat} {o : Nat} {c0 : Hp} {n : Nat} (hw : e_wf (kM o) n) {a_images : Nat → Int32} {a_isKept : Nat → Int32} {a_tape : Nat → Int32} {v_taped : Int32} {v_from : Int32} {v_to : Int32} {v_sort : Int32} {v_worth : Int64} {v_fault : Int32} {v_bad : Int32} {v_nClauses : Int32} {a_nClause : Nat → Int32} {v_nCode : Int32} {a_nOp : Nat → Int32} {a_nArg : Nat → Int32} {v_nLeaves : Int32} {a_pile : Nat → Int32} {a_pileAt : Nat → Int32} {v_piled : Int32} {v_opened : Int32} {a_words : Nat → Int64} {a_headWords : Nat → Int64} {v_law : Int32} {a_set : Nat → Int64} {a_rest : Nat → Int64} {v_broken : Int32} {v_value : Int64} {v_sum : Int64} {a_chances : Nat → Int32} {a_votes : Nat → Int64} {a_costs : Nat → Int32} {a_table : Nat → Int64} {a_prices : Nat → Int32} {v_surely : Int64} {a_mostBy : Nat → Int64} {a_leastBy : Nat → Int64} {v_between : Int64} {v_steadyWays : Int32} {v_quashed : Int32} {v_but : Int32} {a_figures : Nat → Int32} {a_all : Nat → Int32} {a_lies : Nat → Int32} {a_since : Nat → Int32} {v_last : Int32} {v_state : Int64} {v_thrown : Int32} {v_status : Int32} {a_refusals : Nat → Int32} {a_row : Nat → Int32} {x1 : Int32} {x2 : Int32} {R : Int32 × Int32 × Int32 × (Nat → Int32) × (Nat → Int32)} (hf : fX12_terms v_thrown v_status a_refusals a_row x1 x2 = some R) : E G b yX12_terms cX12_terms 3 (some .int) (e_rm 3 0 0) e_X0 (e_Z G b (pD (some (.int R.1)) (e_ov (kM o) (wM G b o R.2.1 R.2.2.1 R.2.2.2.1 R.2.2.2.2 a_images a_isKept a_tape v_taped v_from v_to v_sort v_worth v_fault v_bad v_nClauses a_nClause v_nCode a_nOp a_nArg v_nLeaves a_pile a_pileAt v_piled v_opened a_words a_headWords v_law a_set a_rest v_broken v_value v_sum a_chances a_votes a_costs a_table a_prices v_surely a_mostBy a_leastBy v_between v_steadyWays v_quashed v_but a_figures a_all a_lies a_since v_last v_state) c0) n) 0 0) 0 [(0, .ref (b + o)), (1, .int x1), (2, .int x2)] [] (e_ov (kM o) (wM G b o v_thrown v_status a_refusals a_row a_images a_isKept a_tape v_taped v_from v_to v_sort v_worth v_fault v_bad v_nClauses a_nClause v_nCode a_nOp a_nArg v_nLeaves a_pile a_pileAt v_piled v_opened a_words a_headWords v_law a_set a_rest v_broken v_value v_sum a_chances a_votes a_costs a_table a_prices v_surely a_mostBy a_leastBy v_between v_steadyWays v_quashed v_but a_figures a_all a_lies a_since v_last v_state) c0) n 0 0 := by
  unfold fX12_terms at hf
  refine E.aload_n 0 dX12_terms_0 rfl ?_
  refine E.iconst (v := 0) dX12_terms_1 (by decide) ?_
  refine E.put (es' := (wM G b o 0 v_status a_refusals a_row a_images a_isKept a_tape v_taped v_from v_to v_sort v_worth v_fault v_bad v_nClauses a_nClause v_nCode a_nOp a_nArg v_nLeaves a_pile a_pileAt v_piled v_opened a_words a_headWords v_law a_set a_rest v_broken v_value v_sum a_chances a_votes a_costs a_table a_prices v_surely a_mostBy a_leastBy v_between v_steadyWays v_quashed v_but a_figures a_all a_lies a_since v_last v_state)) hw 0 o dX12_terms_2 flX12_124 ftX12 rfl rfl rfl rfl rfl rfl (Nat.le_of_ble_eq_true rfl) rfl ?_
  refine E.iload_n 1 dX12_terms_5 rfl ?_
  refine E.iload_n 2 dX12_terms_6 rfl ?_
  obtain ⟨r1, hc1, hf⟩ := e_bind hf
  refine E.callSD [] dX12_terms_7 mlX12_181 (mX12_isTerm hc1) ⟨Nat.le_of_ble_eq_true rfl, Nat.le_of_ble_eq_true rfl⟩ rfl rfl (Nat.le_of_ble_eq_true rfl) ⟨Nat.le_refl _, Nat.le_refl _⟩ rfl ?_
  refine E.if_eq dX12_terms_10 (fun h => ?_) (fun h => ?_)
  · have hf := e_ift hf h
    refine E.aload_n 0 dX12_terms_24 rfl ?_
    refine E.iconst (v := -1) dX12_terms_25 (by decide) ?_
    obtain ⟨r2, hc2, hf⟩ := e_bind hf
    refine E.callVD [] dX12_terms_26 mlX12_138 ⟨hw.sub (p := 0) rfl, e_ov_get hw.1 (p := 0) rfl rfl⟩ rfl rfl (mX12_tell hw hc2) ⟨Nat.le_of_ble_eq_true rfl, Nat.le_of_ble_eq_true rfl⟩ rfl rfl (Nat.le_of_ble_eq_true rfl) ⟨Nat.le_refl _, Nat.le_refl _⟩ rfl ?_
    cases hf
    exact E.iret dX12_terms_29 (Nat.le_refl _) (Nat.le_refl _) (pD_rf _ _ _)
  · have hf := e_iff hf h
    refine E.aload_n 0 dX12_terms_13 rfl ?_
    refine E.iconst (v := 5) dX12_terms_14 (by decide) ?_
    refine E.iload_n 1 dX12_terms_15 rfl ?_
    refine E.iadd dX12_terms_16 ?_
    refine E.iload_n 2 dX12_terms_17 rfl ?_
    obtain ⟨r3, hc3, hf⟩ := e_bind hf
    refine E.callVD [] dX12_terms_18 mlX12_157 ⟨hw.sub (p := 0) rfl, e_ov_get hw.1 (p := 0) rfl rfl⟩ rfl rfl (mX12_change hw hc3) ⟨Nat.le_of_ble_eq_true rfl, Nat.le_of_ble_eq_true rfl⟩ rfl rfl (Nat.le_of_ble_eq_true rfl) ⟨Nat.le_refl _, Nat.le_refl _⟩ rfl ?_
    refine E.goto dX12_terms_21 ?_
    cases hf
    exact E.iret dX12_terms_29 (Nat.le_refl _) (Nat.le_refl _) (pD_rf _ _ _)
set_option maxRecDepth 100000 in
theorem mX12_terms {G : GT} {b : Nat} {o : Nat} {c0 : Hp} {n : Nat} (hw : e_wf (kM o) n) {a_images : Nat → Int32} {a_isKept : Nat → Int32} {a_tape : Nat → Int32} {v_taped : Int32} {v_from : Int32} {v_to : Int32} {v_sort : Int32} {v_worth : Int64} {v_fault : Int32} {v_bad : Int32} {v_nClauses : Int32} {a_nClause : Nat → Int32} {v_nCode : Int32} {a_nOp : Nat → Int32} {a_nArg : Nat → Int32} {v_nLeaves : Int32} {a_pile : Nat → Int32} {a_pileAt : Nat → Int32} {v_piled : Int32} {v_opened : Int32} {a_words : Nat → Int64} {a_headWords : Nat → Int64} {v_law : Int32} {a_set : Nat → Int64} {a_rest : Nat → Int64} {v_broken : Int32} {v_value : Int64} {v_sum : Int64} {a_chances : Nat → Int32} {a_votes : Nat → Int64} {a_costs : Nat → Int32} {a_table : Nat → Int64} {a_prices : Nat → Int32} {v_surely : Int64} {a_mostBy : Nat → Int64} {a_leastBy : Nat → Int64} {v_between : Int64} {v_steadyWays : Int32} {v_quashed : Int32} {v_but : Int32} {a_figures : Nat → Int32} {a_all : Nat → Int32} {a_lies : Nat → Int32} {a_since : Nat → Int32} {v_last : Int32} {v_state : Int64} {v_thrown : Int32} {v_status : Int32} {a_refusals : Nat → Int32} {a_row : Nat → Int32} {x1 : Int32} {x2 : Int32} {R : Int32 × Int32 × Int32 × (Nat → Int32) × (Nat → Int32)} (hf : fX12_terms v_thrown v_status a_refusals a_row x1 x2 = some R) : e_C G b yX12_terms cX12_terms 3 (some .int) 3 0 0 [.ref (b + o), .int x1, .int x2] (e_ov (kM o) (wM G b o v_thrown v_status a_refusals a_row a_images a_isKept a_tape v_taped v_from v_to v_sort v_worth v_fault v_bad v_nClauses a_nClause v_nCode a_nOp a_nArg v_nLeaves a_pile a_pileAt v_piled v_opened a_words a_headWords v_law a_set a_rest v_broken v_value v_sum a_chances a_votes a_costs a_table a_prices v_surely a_mostBy a_leastBy v_between v_steadyWays v_quashed v_but a_figures a_all a_lies a_since v_last v_state) c0) n (pD (some (.int R.1)) (e_ov (kM o) (wM G b o R.2.1 R.2.2.1 R.2.2.2.1 R.2.2.2.2 a_images a_isKept a_tape v_taped v_from v_to v_sort v_worth v_fault v_bad v_nClauses a_nClause v_nCode a_nOp a_nArg v_nLeaves a_pile a_pileAt v_piled v_opened a_words a_headWords v_law a_set a_rest v_broken v_value v_sum a_chances a_votes a_costs a_table a_prices v_surely a_mostBy a_leastBy v_between v_steadyWays v_quashed v_but a_figures a_all a_lies a_since v_last v_state) c0) n) := e_C.of (by decide) (Nat.le_of_ble_eq_true rfl) (tX12_terms hw hf)
def fX12_four_L3 (Fu : Nat) : Nat → (Nat → Int32) → Int32 → Int32 → Int32 → Option ((Nat → Int32) × Int32)
  | 0, _, _, _, _ => none
  | k + 1, a_tape, v_taped, x1, x2 => if (x2 : Int32) < 0 then (some (a_tape, v_taped)) else (gd v_taped 400 ((fX12_four_L3 Fu k) (va_up a_tape (v_taped : Int32).toNatClampNeg ((x1 >>> (x2 &&& 31)) &&& 255)) (v_taped + 1) x1 (x2 + (-8 : Int32))))
set_option maxHeartbeats 4000000 in
set_option maxRecDepth 100000 in
theorem tX12_four_L3 {G : GT} {b : Nat} {o : Nat} {c0 : Hp} {n : Nat} (hw : e_wf (kM o) n) {v_thrown : Int32} {v_status : Int32} {a_refusals : Nat → Int32} {a_row : Nat → Int32} {a_images : Nat → Int32} {a_isKept : Nat → Int32} {v_from : Int32} {v_to : Int32} {v_sort : Int32} {v_worth : Int64} {v_fault : Int32} {v_bad : Int32} {v_nClauses : Int32} {a_nClause : Nat → Int32} {v_nCode : Int32} {a_nOp : Nat → Int32} {a_nArg : Nat → Int32} {v_nLeaves : Int32} {a_pile : Nat → Int32} {a_pileAt : Nat → Int32} {v_piled : Int32} {v_opened : Int32} {a_words : Nat → Int64} {a_headWords : Nat → Int64} {v_law : Int32} {a_set : Nat → Int64} {a_rest : Nat → Int64} {v_broken : Int32} {v_value : Int64} {v_sum : Int64} {a_chances : Nat → Int32} {a_votes : Nat → Int64} {a_costs : Nat → Int32} {a_table : Nat → Int64} {a_prices : Nat → Int32} {v_surely : Int64} {a_mostBy : Nat → Int64} {a_leastBy : Nat → Int64} {v_between : Int64} {v_steadyWays : Int32} {v_quashed : Int32} {v_but : Int32} {a_figures : Nat → Int32} {a_all : Nat → Int32} {a_lies : Nat → Int32} {a_since : Nat → Int32} {v_last : Int32} {v_state : Int64} {Fu : Nat} : ∀ (k : Nat) {a_tape : Nat → Int32} {v_taped : Int32} {x1 : Int32} {x2 : Int32} {R : (Nat → Int32) × Int32}, fX12_four_L3 Fu k a_tape v_taped x1 x2 = some R → E G b yX12_four cX12_four 3 none (e_rm 0 0 0) e_X0 (e_Z G b (pD none (e_ov (kM o) (wM G b o v_thrown v_status a_refusals a_row a_images a_isKept R.1 R.2 v_from v_to v_sort v_worth v_fault v_bad v_nClauses a_nClause v_nCode a_nOp a_nArg v_nLeaves a_pile a_pileAt v_piled v_opened a_words a_headWords v_law a_set a_rest v_broken v_value v_sum a_chances a_votes a_costs a_table a_prices v_surely a_mostBy a_leastBy v_between v_steadyWays v_quashed v_but a_figures a_all a_lies a_since v_last v_state) c0) n) 0 0) 3 [(0, .ref (b + o)), (1, .int x1), (2, .int x2)] [] (e_ov (kM o) (wM G b o v_thrown v_status a_refusals a_row a_images a_isKept a_tape v_taped v_from v_to v_sort v_worth v_fault v_bad v_nClauses a_nClause v_nCode a_nOp a_nArg v_nLeaves a_pile a_pileAt v_piled v_opened a_words a_headWords v_law a_set a_rest v_broken v_value v_sum a_chances a_votes a_costs a_table a_prices v_surely a_mostBy a_leastBy v_between v_steadyWays v_quashed v_but a_figures a_all a_lies a_since v_last v_state) c0) n 0 0 := by
  intro k
  induction k with
  | zero =>
    intro _ _ _ _ _ hf
    have hf : (none : Option ((Nat → Int32) × Int32)) = some _ := hf
    cases hf
  | succ k ih =>
    intro a_tape v_taped x1 x2 R hf
    rw [fX12_four_L3] at hf
    refine E.iload_n 2 dX12_four_3 rfl ?_
    refine E.if_lt dX12_four_4 (fun h => ?_) (fun h => ?_)
    · have hf := e_ift hf h
      cases hf
      exact E.vret dX12_four_39 (Nat.le_refl _) (Nat.le_refl _) (pD_rf _ _ _)
    · have hf := e_iff hf h
      refine E.aload_n 0 dX12_four_7 rfl ?_
      refine E.get hw 0 o dX12_four_8 flX12_23 rfl rfl rfl rfl ?_
      refine E.aload_n 0 dX12_four_11 rfl ?_
      refine E.get hw 0 o dX12_four_12 flX12_184 rfl rfl rfl rfl ?_
      refine E.iload_n 1 dX12_four_15 rfl ?_
      refine E.iload_n 2 dX12_four_16 rfl ?_
      refine E.ishr dX12_four_17 ?_
      refine E.sipush (v := 255) dX12_four_18 (by decide) ?_
      refine E.iand dX12_four_21 ?_
      obtain ⟨g1, hf⟩ := gd_some hf
      refine E.iast (es' := (wM G b o v_thrown v_status a_refusals a_row a_images a_isKept (va_up a_tape (v_taped : Int32).toNatClampNeg ((x1 >>> (x2 &&& 31)) &&& 255)) v_taped v_from v_to v_sort v_worth v_fault v_bad v_nClauses a_nClause v_nCode a_nOp a_nArg v_nLeaves a_pile a_pileAt v_piled v_opened a_words a_headWords v_law a_set a_rest v_broken v_value v_sum a_chances a_votes a_costs a_table a_prices v_surely a_mostBy a_leastBy v_between v_steadyWays v_quashed v_but a_figures a_all a_lies a_since v_last v_state)) hw 5 (o + 5) dX12_four_22 rfl rfl g1 rfl ?_
      refine E.aload_n 0 dX12_four_23 rfl ?_
      refine E.dup dX12_four_24 rfl ?_
      refine E.get hw 0 o dX12_four_25 flX12_184 rfl rfl rfl rfl ?_
      refine E.iconst (v := 1) dX12_four_28 (by decide) ?_
      refine E.iadd dX12_four_29 ?_
      refine E.put (es' := (wM G b o v_thrown v_status a_refusals a_row a_images a_isKept (va_up a_tape (v_taped : Int32).toNatClampNeg ((x1 >>> (x2 &&& 31)) &&& 255)) (v_taped + 1) v_from v_to v_sort v_worth v_fault v_bad v_nClauses a_nClause v_nCode a_nOp a_nArg v_nLeaves a_pile a_pileAt v_piled v_opened a_words a_headWords v_law a_set a_rest v_broken v_value v_sum a_chances a_votes a_costs a_table a_prices v_surely a_mostBy a_leastBy v_between v_steadyWays v_quashed v_but a_figures a_all a_lies a_since v_last v_state)) hw 0 o dX12_four_30 flX12_184 ftX12 rfl rfl rfl rfl rfl rfl (Nat.le_of_ble_eq_true rfl) rfl ?_
      refine E.iinc (q := 2) (v := (x2 + (-8 : Int32))) (lv' := [(2, .int (x2 + (-8 : Int32))), (0, .ref (b + o)), (1, .int x1)]) dX12_four_33 rfl rfl (by decide) rfl ?_
      refine E.goto dX12_four_36 ?_
      refine E.locals [1, 2, 0] rfl ?_
      exact ih hf
def fX12_four (Fu : Nat) (a_tape : Nat → Int32) (v_taped : Int32) (x1 : Int32) : Option ((Nat → Int32) × Int32) := fX12_four_L3 Fu Fu a_tape v_taped x1 24
set_option maxHeartbeats 4000000 in
set_option maxRecDepth 100000 in
theorem tX12_four {G : GT} {b : Nat} {o : Nat} {c0 : Hp} {n : Nat} (hw : e_wf (kM o) n) {v_thrown : Int32} {v_status : Int32} {a_refusals : Nat → Int32} {a_row : Nat → Int32} {a_images : Nat → Int32} {a_isKept : Nat → Int32} {v_from : Int32} {v_to : Int32} {v_sort : Int32} {v_worth : Int64} {v_fault : Int32} {v_bad : Int32} {v_nClauses : Int32} {a_nClause : Nat → Int32} {v_nCode : Int32} {a_nOp : Nat → Int32} {a_nArg : Nat → Int32} {v_nLeaves : Int32} {a_pile : Nat → Int32} {a_pileAt : Nat → Int32} {v_piled : Int32} {v_opened : Int32} {a_words : Nat → Int64} {a_headWords : Nat → Int64} {v_law : Int32} {a_set : Nat → Int64} {a_rest : Nat → Int64} {v_broken : Int32} {v_value : Int64} {v_sum : Int64} {a_chances : Nat → Int32} {a_votes : Nat → Int64} {a_costs : Nat → Int32} {a_table : Nat → Int64} {a_prices : Nat → Int32} {v_surely : Int64} {a_mostBy : Nat → Int64} {a_leastBy : Nat → Int64} {v_between : Int64} {v_steadyWays : Int32} {v_quashed : Int32} {v_but : Int32} {a_figures : Nat → Int32} {a_all : Nat → Int32} {a_lies : Nat → Int32} {a_since : Nat → Int32} {v_last : Int32} {v_state : Int64} {Fu : Nat} {a_tape : Nat → Int32} {v_taped : Int32} {x1 : Int32} {R : (Nat → Int32) × Int32} (hf : fX12_four Fu a_tape v_taped x1 = some R) : E G b yX12_four cX12_four 3 none (e_rm 0 0 0) e_X0 (e_Z G b (pD none (e_ov (kM o) (wM G b o v_thrown v_status a_refusals a_row a_images a_isKept R.1 R.2 v_from v_to v_sort v_worth v_fault v_bad v_nClauses a_nClause v_nCode a_nOp a_nArg v_nLeaves a_pile a_pileAt v_piled v_opened a_words a_headWords v_law a_set a_rest v_broken v_value v_sum a_chances a_votes a_costs a_table a_prices v_surely a_mostBy a_leastBy v_between v_steadyWays v_quashed v_but a_figures a_all a_lies a_since v_last v_state) c0) n) 0 0) 0 [(0, .ref (b + o)), (1, .int x1)] [] (e_ov (kM o) (wM G b o v_thrown v_status a_refusals a_row a_images a_isKept a_tape v_taped v_from v_to v_sort v_worth v_fault v_bad v_nClauses a_nClause v_nCode a_nOp a_nArg v_nLeaves a_pile a_pileAt v_piled v_opened a_words a_headWords v_law a_set a_rest v_broken v_value v_sum a_chances a_votes a_costs a_table a_prices v_surely a_mostBy a_leastBy v_between v_steadyWays v_quashed v_but a_figures a_all a_lies a_since v_last v_state) c0) n 0 0 := by
  unfold fX12_four at hf
  refine E.bipush (v := 24) dX12_four_0 (by decide) ?_
  refine E.istore_n (lv' := [(2, .int 24), (0, .ref (b + o)), (1, .int x1)]) dX12_four_2 (by decide) rfl ?_
  refine E.locals [1, 2, 0] rfl ?_
  exact tX12_four_L3 hw _ hf
set_option maxRecDepth 100000 in
theorem mX12_four {G : GT} {b : Nat} {o : Nat} {c0 : Hp} {n : Nat} (hw : e_wf (kM o) n) {v_thrown : Int32} {v_status : Int32} {a_refusals : Nat → Int32} {a_row : Nat → Int32} {a_images : Nat → Int32} {a_isKept : Nat → Int32} {v_from : Int32} {v_to : Int32} {v_sort : Int32} {v_worth : Int64} {v_fault : Int32} {v_bad : Int32} {v_nClauses : Int32} {a_nClause : Nat → Int32} {v_nCode : Int32} {a_nOp : Nat → Int32} {a_nArg : Nat → Int32} {v_nLeaves : Int32} {a_pile : Nat → Int32} {a_pileAt : Nat → Int32} {v_piled : Int32} {v_opened : Int32} {a_words : Nat → Int64} {a_headWords : Nat → Int64} {v_law : Int32} {a_set : Nat → Int64} {a_rest : Nat → Int64} {v_broken : Int32} {v_value : Int64} {v_sum : Int64} {a_chances : Nat → Int32} {a_votes : Nat → Int64} {a_costs : Nat → Int32} {a_table : Nat → Int64} {a_prices : Nat → Int32} {v_surely : Int64} {a_mostBy : Nat → Int64} {a_leastBy : Nat → Int64} {v_between : Int64} {v_steadyWays : Int32} {v_quashed : Int32} {v_but : Int32} {a_figures : Nat → Int32} {a_all : Nat → Int32} {a_lies : Nat → Int32} {a_since : Nat → Int32} {v_last : Int32} {v_state : Int64} {Fu : Nat} {a_tape : Nat → Int32} {v_taped : Int32} {x1 : Int32} {R : (Nat → Int32) × Int32} (hf : fX12_four Fu a_tape v_taped x1 = some R) : e_C G b yX12_four cX12_four 3 none 0 0 0 [.ref (b + o), .int x1] (e_ov (kM o) (wM G b o v_thrown v_status a_refusals a_row a_images a_isKept a_tape v_taped v_from v_to v_sort v_worth v_fault v_bad v_nClauses a_nClause v_nCode a_nOp a_nArg v_nLeaves a_pile a_pileAt v_piled v_opened a_words a_headWords v_law a_set a_rest v_broken v_value v_sum a_chances a_votes a_costs a_table a_prices v_surely a_mostBy a_leastBy v_between v_steadyWays v_quashed v_but a_figures a_all a_lies a_since v_last v_state) c0) n (pD none (e_ov (kM o) (wM G b o v_thrown v_status a_refusals a_row a_images a_isKept R.1 R.2 v_from v_to v_sort v_worth v_fault v_bad v_nClauses a_nClause v_nCode a_nOp a_nArg v_nLeaves a_pile a_pileAt v_piled v_opened a_words a_headWords v_law a_set a_rest v_broken v_value v_sum a_chances a_votes a_costs a_table a_prices v_surely a_mostBy a_leastBy v_between v_steadyWays v_quashed v_but a_figures a_all a_lies a_since v_last v_state) c0) n) := e_C.of (by decide) (Nat.le_of_ble_eq_true rfl) (tX12_four hw hf)
def fX12_feed (Fu : Nat) (v_thrown : Int32) (a_tape : Nat → Int32) (v_taped : Int32) (x1 : Int32) (x2 : Int32) (x3 : Int32) (x4 : Int32) (x5 : Int32) : Option (Int32 × Int32 × (Nat → Int32) × Int32) := if ((v_taped + 20) : Int32) ≤ (400 : Int32) then ((fX12_four Fu a_tape v_taped x1).bind fun r1 => ((fX12_four Fu r1.1 r1.2 x2).bind fun r2 => ((fX12_four Fu r2.1 r2.2 x3).bind fun r3 => ((fX12_four Fu r3.1 r3.2 x4).bind fun r4 => ((fX12_four Fu r4.1 r4.2 x5).bind fun r5 => (some (r5.2, 0, r5.1, r5.2))))))) else (some ((-1 : Int32), 0, a_tape, v_taped))
set_option maxHeartbeats 4000000 in
set_option maxRecDepth 100000 in
theorem tX12_feed {G : GT} {b : Nat} {o : Nat} {c0 : Hp} {n : Nat} (hw : e_wf (kM o) n) {v_status : Int32} {a_refusals : Nat → Int32} {a_row : Nat → Int32} {a_images : Nat → Int32} {a_isKept : Nat → Int32} {v_from : Int32} {v_to : Int32} {v_sort : Int32} {v_worth : Int64} {v_fault : Int32} {v_bad : Int32} {v_nClauses : Int32} {a_nClause : Nat → Int32} {v_nCode : Int32} {a_nOp : Nat → Int32} {a_nArg : Nat → Int32} {v_nLeaves : Int32} {a_pile : Nat → Int32} {a_pileAt : Nat → Int32} {v_piled : Int32} {v_opened : Int32} {a_words : Nat → Int64} {a_headWords : Nat → Int64} {v_law : Int32} {a_set : Nat → Int64} {a_rest : Nat → Int64} {v_broken : Int32} {v_value : Int64} {v_sum : Int64} {a_chances : Nat → Int32} {a_votes : Nat → Int64} {a_costs : Nat → Int32} {a_table : Nat → Int64} {a_prices : Nat → Int32} {v_surely : Int64} {a_mostBy : Nat → Int64} {a_leastBy : Nat → Int64} {v_between : Int64} {v_steadyWays : Int32} {v_quashed : Int32} {v_but : Int32} {a_figures : Nat → Int32} {a_all : Nat → Int32} {a_lies : Nat → Int32} {a_since : Nat → Int32} {v_last : Int32} {v_state : Int64} {Fu : Nat} {v_thrown : Int32} {a_tape : Nat → Int32} {v_taped : Int32} {x1 : Int32} {x2 : Int32} {x3 : Int32} {x4 : Int32} {x5 : Int32} {R : Int32 × Int32 × (Nat → Int32) × Int32} (hf : fX12_feed Fu v_thrown a_tape v_taped x1 x2 x3 x4 x5 = some R) : E G b yX12_feed cX12_feed 6 (some .int) (e_rm 1 0 0) e_X0 (e_Z G b (pD (some (.int R.1)) (e_ov (kM o) (wM G b o R.2.1 v_status a_refusals a_row a_images a_isKept R.2.2.1 R.2.2.2 v_from v_to v_sort v_worth v_fault v_bad v_nClauses a_nClause v_nCode a_nOp a_nArg v_nLeaves a_pile a_pileAt v_piled v_opened a_words a_headWords v_law a_set a_rest v_broken v_value v_sum a_chances a_votes a_costs a_table a_prices v_surely a_mostBy a_leastBy v_between v_steadyWays v_quashed v_but a_figures a_all a_lies a_since v_last v_state) c0) n) 0 0) 0 [(0, .ref (b + o)), (1, .int x1), (2, .int x2), (3, .int x3), (4, .int x4), (5, .int x5)] [] (e_ov (kM o) (wM G b o v_thrown v_status a_refusals a_row a_images a_isKept a_tape v_taped v_from v_to v_sort v_worth v_fault v_bad v_nClauses a_nClause v_nCode a_nOp a_nArg v_nLeaves a_pile a_pileAt v_piled v_opened a_words a_headWords v_law a_set a_rest v_broken v_value v_sum a_chances a_votes a_costs a_table a_prices v_surely a_mostBy a_leastBy v_between v_steadyWays v_quashed v_but a_figures a_all a_lies a_since v_last v_state) c0) n 0 0 := by
  unfold fX12_feed at hf
  refine E.aload_n 0 dX12_feed_0 rfl ?_
  refine E.iconst (v := 0) dX12_feed_1 (by decide) ?_
  refine E.put (es' := (wM G b o 0 v_status a_refusals a_row a_images a_isKept a_tape v_taped v_from v_to v_sort v_worth v_fault v_bad v_nClauses a_nClause v_nCode a_nOp a_nArg v_nLeaves a_pile a_pileAt v_piled v_opened a_words a_headWords v_law a_set a_rest v_broken v_value v_sum a_chances a_votes a_costs a_table a_prices v_surely a_mostBy a_leastBy v_between v_steadyWays v_quashed v_but a_figures a_all a_lies a_since v_last v_state)) hw 0 o dX12_feed_2 flX12_124 ftX12 rfl rfl rfl rfl rfl rfl (Nat.le_of_ble_eq_true rfl) rfl ?_
  refine E.aload_n 0 dX12_feed_5 rfl ?_
  refine E.get hw 0 o dX12_feed_6 flX12_184 rfl rfl rfl rfl ?_
  refine E.bipush (v := 20) dX12_feed_9 (by decide) ?_
  refine E.iadd dX12_feed_11 ?_
  refine E.sipush (v := 400) dX12_feed_12 (by decide) ?_
  refine E.icmp_le dX12_feed_15 (fun h => ?_) (fun h => ?_)
  · have hf := e_ift hf h
    refine E.aload_n 0 dX12_feed_20 rfl ?_
    refine E.iload_n 1 dX12_feed_21 rfl ?_
    obtain ⟨r1, hc1, hf⟩ := e_bind hf
    refine E.callVD [] dX12_feed_22 mlX12_187 ⟨hw.sub (p := 0) rfl, e_ov_get hw.1 (p := 0) rfl rfl⟩ rfl rfl (mX12_four hw hc1) ⟨Nat.le_of_ble_eq_true rfl, Nat.le_of_ble_eq_true rfl⟩ rfl rfl (Nat.le_of_ble_eq_true rfl) ⟨Nat.le_refl _, Nat.le_refl _⟩ rfl ?_
    refine E.aload_n 0 dX12_feed_25 rfl ?_
    refine E.iload_n 2 dX12_feed_26 rfl ?_
    obtain ⟨r2, hc2, hf⟩ := e_bind hf
    refine E.callVD [] dX12_feed_27 mlX12_187 ⟨hw.sub (p := 0) rfl, e_ov_get hw.1 (p := 0) rfl rfl⟩ rfl rfl (mX12_four hw hc2) ⟨Nat.le_of_ble_eq_true rfl, Nat.le_of_ble_eq_true rfl⟩ rfl rfl (Nat.le_of_ble_eq_true rfl) ⟨Nat.le_refl _, Nat.le_refl _⟩ rfl ?_
    refine E.aload_n 0 dX12_feed_30 rfl ?_
    refine E.iload_n 3 dX12_feed_31 rfl ?_
    obtain ⟨r3, hc3, hf⟩ := e_bind hf
    refine E.callVD [] dX12_feed_32 mlX12_187 ⟨hw.sub (p := 0) rfl, e_ov_get hw.1 (p := 0) rfl rfl⟩ rfl rfl (mX12_four hw hc3) ⟨Nat.le_of_ble_eq_true rfl, Nat.le_of_ble_eq_true rfl⟩ rfl rfl (Nat.le_of_ble_eq_true rfl) ⟨Nat.le_refl _, Nat.le_refl _⟩ rfl ?_
    refine E.aload_n 0 dX12_feed_35 rfl ?_
    refine E.iload 4 dX12_feed_36 rfl ?_
    obtain ⟨r4, hc4, hf⟩ := e_bind hf
    refine E.callVD [] dX12_feed_38 mlX12_187 ⟨hw.sub (p := 0) rfl, e_ov_get hw.1 (p := 0) rfl rfl⟩ rfl rfl (mX12_four hw hc4) ⟨Nat.le_of_ble_eq_true rfl, Nat.le_of_ble_eq_true rfl⟩ rfl rfl (Nat.le_of_ble_eq_true rfl) ⟨Nat.le_refl _, Nat.le_refl _⟩ rfl ?_
    refine E.aload_n 0 dX12_feed_41 rfl ?_
    refine E.iload 5 dX12_feed_42 rfl ?_
    obtain ⟨r5, hc5, hf⟩ := e_bind hf
    refine E.callVD [] dX12_feed_44 mlX12_187 ⟨hw.sub (p := 0) rfl, e_ov_get hw.1 (p := 0) rfl rfl⟩ rfl rfl (mX12_four hw hc5) ⟨Nat.le_of_ble_eq_true rfl, Nat.le_of_ble_eq_true rfl⟩ rfl rfl (Nat.le_of_ble_eq_true rfl) ⟨Nat.le_refl _, Nat.le_refl _⟩ rfl ?_
    refine E.aload_n 0 dX12_feed_47 rfl ?_
    refine E.get hw 0 o dX12_feed_48 flX12_184 rfl rfl rfl rfl ?_
    cases hf
    exact E.iret dX12_feed_51 (Nat.le_refl _) (Nat.le_refl _) (pD_rf _ _ _)
  · have hf := e_iff hf h
    refine E.iconst (v := -1) dX12_feed_18 (by decide) ?_
    cases hf
    exact E.iret dX12_feed_19 (Nat.le_refl _) (Nat.le_refl _) (pD_rf _ _ _)
set_option maxRecDepth 100000 in
theorem mX12_feed {G : GT} {b : Nat} {o : Nat} {c0 : Hp} {n : Nat} (hw : e_wf (kM o) n) {v_status : Int32} {a_refusals : Nat → Int32} {a_row : Nat → Int32} {a_images : Nat → Int32} {a_isKept : Nat → Int32} {v_from : Int32} {v_to : Int32} {v_sort : Int32} {v_worth : Int64} {v_fault : Int32} {v_bad : Int32} {v_nClauses : Int32} {a_nClause : Nat → Int32} {v_nCode : Int32} {a_nOp : Nat → Int32} {a_nArg : Nat → Int32} {v_nLeaves : Int32} {a_pile : Nat → Int32} {a_pileAt : Nat → Int32} {v_piled : Int32} {v_opened : Int32} {a_words : Nat → Int64} {a_headWords : Nat → Int64} {v_law : Int32} {a_set : Nat → Int64} {a_rest : Nat → Int64} {v_broken : Int32} {v_value : Int64} {v_sum : Int64} {a_chances : Nat → Int32} {a_votes : Nat → Int64} {a_costs : Nat → Int32} {a_table : Nat → Int64} {a_prices : Nat → Int32} {v_surely : Int64} {a_mostBy : Nat → Int64} {a_leastBy : Nat → Int64} {v_between : Int64} {v_steadyWays : Int32} {v_quashed : Int32} {v_but : Int32} {a_figures : Nat → Int32} {a_all : Nat → Int32} {a_lies : Nat → Int32} {a_since : Nat → Int32} {v_last : Int32} {v_state : Int64} {Fu : Nat} {v_thrown : Int32} {a_tape : Nat → Int32} {v_taped : Int32} {x1 : Int32} {x2 : Int32} {x3 : Int32} {x4 : Int32} {x5 : Int32} {R : Int32 × Int32 × (Nat → Int32) × Int32} (hf : fX12_feed Fu v_thrown a_tape v_taped x1 x2 x3 x4 x5 = some R) : e_C G b yX12_feed cX12_feed 6 (some .int) 1 0 0 [.ref (b + o), .int x1, .int x2, .int x3, .int x4, .int x5] (e_ov (kM o) (wM G b o v_thrown v_status a_refusals a_row a_images a_isKept a_tape v_taped v_from v_to v_sort v_worth v_fault v_bad v_nClauses a_nClause v_nCode a_nOp a_nArg v_nLeaves a_pile a_pileAt v_piled v_opened a_words a_headWords v_law a_set a_rest v_broken v_value v_sum a_chances a_votes a_costs a_table a_prices v_surely a_mostBy a_leastBy v_between v_steadyWays v_quashed v_but a_figures a_all a_lies a_since v_last v_state) c0) n (pD (some (.int R.1)) (e_ov (kM o) (wM G b o R.2.1 v_status a_refusals a_row a_images a_isKept R.2.2.1 R.2.2.2 v_from v_to v_sort v_worth v_fault v_bad v_nClauses a_nClause v_nCode a_nOp a_nArg v_nLeaves a_pile a_pileAt v_piled v_opened a_words a_headWords v_law a_set a_rest v_broken v_value v_sum a_chances a_votes a_costs a_table a_prices v_surely a_mostBy a_leastBy v_between v_steadyWays v_quashed v_but a_figures a_all a_lies a_since v_last v_state) c0) n) := e_C.of (by decide) (Nat.le_of_ble_eq_true rfl) (tX12_feed hw hf)
def fX12_end (v_thrown : Int32) (v_taped : Int32) (x1 : Int32) : Option (Int32 × Int32 × Int32) := if (x1 : Int32) < 0 then (some ((-1 : Int32), 0, v_taped)) else (if (x1 : Int32) ≤ (v_taped : Int32) then (some (x1, 0, x1)) else (some ((-1 : Int32), 0, v_taped)))
set_option maxHeartbeats 4000000 in
set_option maxRecDepth 100000 in
theorem tX12_end {G : GT} {b : Nat} {o : Nat} {c0 : Hp} {n : Nat} (hw : e_wf (kM o) n) {v_status : Int32} {a_refusals : Nat → Int32} {a_row : Nat → Int32} {a_images : Nat → Int32} {a_isKept : Nat → Int32} {a_tape : Nat → Int32} {v_from : Int32} {v_to : Int32} {v_sort : Int32} {v_worth : Int64} {v_fault : Int32} {v_bad : Int32} {v_nClauses : Int32} {a_nClause : Nat → Int32} {v_nCode : Int32} {a_nOp : Nat → Int32} {a_nArg : Nat → Int32} {v_nLeaves : Int32} {a_pile : Nat → Int32} {a_pileAt : Nat → Int32} {v_piled : Int32} {v_opened : Int32} {a_words : Nat → Int64} {a_headWords : Nat → Int64} {v_law : Int32} {a_set : Nat → Int64} {a_rest : Nat → Int64} {v_broken : Int32} {v_value : Int64} {v_sum : Int64} {a_chances : Nat → Int32} {a_votes : Nat → Int64} {a_costs : Nat → Int32} {a_table : Nat → Int64} {a_prices : Nat → Int32} {v_surely : Int64} {a_mostBy : Nat → Int64} {a_leastBy : Nat → Int64} {v_between : Int64} {v_steadyWays : Int32} {v_quashed : Int32} {v_but : Int32} {a_figures : Nat → Int32} {a_all : Nat → Int32} {a_lies : Nat → Int32} {a_since : Nat → Int32} {v_last : Int32} {v_state : Int64} {v_thrown : Int32} {v_taped : Int32} {x1 : Int32} {R : Int32 × Int32 × Int32} (hf : fX12_end v_thrown v_taped x1 = some R) : E G b yX12_end cX12_end 2 (some .int) (e_rm 0 0 0) e_X0 (e_Z G b (pD (some (.int R.1)) (e_ov (kM o) (wM G b o R.2.1 v_status a_refusals a_row a_images a_isKept a_tape R.2.2 v_from v_to v_sort v_worth v_fault v_bad v_nClauses a_nClause v_nCode a_nOp a_nArg v_nLeaves a_pile a_pileAt v_piled v_opened a_words a_headWords v_law a_set a_rest v_broken v_value v_sum a_chances a_votes a_costs a_table a_prices v_surely a_mostBy a_leastBy v_between v_steadyWays v_quashed v_but a_figures a_all a_lies a_since v_last v_state) c0) n) 0 0) 0 [(0, .ref (b + o)), (1, .int x1)] [] (e_ov (kM o) (wM G b o v_thrown v_status a_refusals a_row a_images a_isKept a_tape v_taped v_from v_to v_sort v_worth v_fault v_bad v_nClauses a_nClause v_nCode a_nOp a_nArg v_nLeaves a_pile a_pileAt v_piled v_opened a_words a_headWords v_law a_set a_rest v_broken v_value v_sum a_chances a_votes a_costs a_table a_prices v_surely a_mostBy a_leastBy v_between v_steadyWays v_quashed v_but a_figures a_all a_lies a_since v_last v_state) c0) n 0 0 := by
  unfold fX12_end at hf
  refine E.aload_n 0 dX12_end_0 rfl ?_
  refine E.iconst (v := 0) dX12_end_1 (by decide) ?_
  refine E.put (es' := (wM G b o 0 v_status a_refusals a_row a_images a_isKept a_tape v_taped v_from v_to v_sort v_worth v_fault v_bad v_nClauses a_nClause v_nCode a_nOp a_nArg v_nLeaves a_pile a_pileAt v_piled v_opened a_words a_headWords v_law a_set a_rest v_broken v_value v_sum a_chances a_votes a_costs a_table a_prices v_surely a_mostBy a_leastBy v_between v_steadyWays v_quashed v_but a_figures a_all a_lies a_since v_last v_state)) hw 0 o dX12_end_2 flX12_124 ftX12 rfl rfl rfl rfl rfl rfl (Nat.le_of_ble_eq_true rfl) rfl ?_
  refine E.iload_n 1 dX12_end_5 rfl ?_
  refine E.if_lt dX12_end_6 (fun h => ?_) (fun h => ?_)
  · have hf := e_ift hf h
    refine E.iconst (v := -1) dX12_end_17 (by decide) ?_
    cases hf
    exact E.iret dX12_end_18 (Nat.le_refl _) (Nat.le_refl _) (pD_rf _ _ _)
  · have hf := e_iff hf h
    refine E.iload_n 1 dX12_end_9 rfl ?_
    refine E.aload_n 0 dX12_end_10 rfl ?_
    refine E.get hw 0 o dX12_end_11 flX12_184 rfl rfl rfl rfl ?_
    refine E.icmp_le dX12_end_14 (fun h => ?_) (fun h => ?_)
    · have hf := e_ift hf h
      refine E.aload_n 0 dX12_end_19 rfl ?_
      refine E.iload_n 1 dX12_end_20 rfl ?_
      refine E.put (es' := (wM G b o 0 v_status a_refusals a_row a_images a_isKept a_tape x1 v_from v_to v_sort v_worth v_fault v_bad v_nClauses a_nClause v_nCode a_nOp a_nArg v_nLeaves a_pile a_pileAt v_piled v_opened a_words a_headWords v_law a_set a_rest v_broken v_value v_sum a_chances a_votes a_costs a_table a_prices v_surely a_mostBy a_leastBy v_between v_steadyWays v_quashed v_but a_figures a_all a_lies a_since v_last v_state)) hw 0 o dX12_end_21 flX12_184 ftX12 rfl rfl rfl rfl rfl rfl (Nat.le_of_ble_eq_true rfl) rfl ?_
      refine E.iload_n 1 dX12_end_24 rfl ?_
      cases hf
      exact E.iret dX12_end_25 (Nat.le_refl _) (Nat.le_refl _) (pD_rf _ _ _)
    · have hf := e_iff hf h
      refine E.iconst (v := -1) dX12_end_17 (by decide) ?_
      cases hf
      exact E.iret dX12_end_18 (Nat.le_refl _) (Nat.le_refl _) (pD_rf _ _ _)
set_option maxRecDepth 100000 in
theorem mX12_end {G : GT} {b : Nat} {o : Nat} {c0 : Hp} {n : Nat} (hw : e_wf (kM o) n) {v_status : Int32} {a_refusals : Nat → Int32} {a_row : Nat → Int32} {a_images : Nat → Int32} {a_isKept : Nat → Int32} {a_tape : Nat → Int32} {v_from : Int32} {v_to : Int32} {v_sort : Int32} {v_worth : Int64} {v_fault : Int32} {v_bad : Int32} {v_nClauses : Int32} {a_nClause : Nat → Int32} {v_nCode : Int32} {a_nOp : Nat → Int32} {a_nArg : Nat → Int32} {v_nLeaves : Int32} {a_pile : Nat → Int32} {a_pileAt : Nat → Int32} {v_piled : Int32} {v_opened : Int32} {a_words : Nat → Int64} {a_headWords : Nat → Int64} {v_law : Int32} {a_set : Nat → Int64} {a_rest : Nat → Int64} {v_broken : Int32} {v_value : Int64} {v_sum : Int64} {a_chances : Nat → Int32} {a_votes : Nat → Int64} {a_costs : Nat → Int32} {a_table : Nat → Int64} {a_prices : Nat → Int32} {v_surely : Int64} {a_mostBy : Nat → Int64} {a_leastBy : Nat → Int64} {v_between : Int64} {v_steadyWays : Int32} {v_quashed : Int32} {v_but : Int32} {a_figures : Nat → Int32} {a_all : Nat → Int32} {a_lies : Nat → Int32} {a_since : Nat → Int32} {v_last : Int32} {v_state : Int64} {v_thrown : Int32} {v_taped : Int32} {x1 : Int32} {R : Int32 × Int32 × Int32} (hf : fX12_end v_thrown v_taped x1 = some R) : e_C G b yX12_end cX12_end 2 (some .int) 0 0 0 [.ref (b + o), .int x1] (e_ov (kM o) (wM G b o v_thrown v_status a_refusals a_row a_images a_isKept a_tape v_taped v_from v_to v_sort v_worth v_fault v_bad v_nClauses a_nClause v_nCode a_nOp a_nArg v_nLeaves a_pile a_pileAt v_piled v_opened a_words a_headWords v_law a_set a_rest v_broken v_value v_sum a_chances a_votes a_costs a_table a_prices v_surely a_mostBy a_leastBy v_between v_steadyWays v_quashed v_but a_figures a_all a_lies a_since v_last v_state) c0) n (pD (some (.int R.1)) (e_ov (kM o) (wM G b o R.2.1 v_status a_refusals a_row a_images a_isKept a_tape R.2.2 v_from v_to v_sort v_worth v_fault v_bad v_nClauses a_nClause v_nCode a_nOp a_nArg v_nLeaves a_pile a_pileAt v_piled v_opened a_words a_headWords v_law a_set a_rest v_broken v_value v_sum a_chances a_votes a_costs a_table a_prices v_surely a_mostBy a_leastBy v_between v_steadyWays v_quashed v_but a_figures a_all a_lies a_since v_last v_state) c0) n) := e_C.of (by decide) (Nat.le_of_ble_eq_true rfl) (tX12_end hw hf)
def fX12_isSmall_L16 : Option (Int32) := some (0)
set_option maxHeartbeats 4000000 in
set_option maxRecDepth 100000 in
theorem tX12_isSmall_L16 {G : GT} {b : Nat} {c : Hp} {n : Nat}  {R : Int32} (hf : fX12_isSmall_L16 = some R) : E G b yX12_isSmall cX12_isSmall 1 (some .boolean) (e_rm 0 0 0) e_X0 (e_Z G b (pD (some (.int R)) c n) 0 0) 16 [] [] c n 0 0 := by
  unfold fX12_isSmall_L16 at hf
  refine E.iconst (v := 0) dX12_isSmall_16 (by decide) ?_
  cases hf
  exact E.zret dX12_isSmall_17 rfl (Nat.le_refl _) (Nat.le_refl _) (pD_rf _ _ _)
def fX12_isSmall (x0 : Int32) : Option (Int32) := if (x0 : Int32) < (97 : Int32) then (fX12_isSmall_L16) else (if (122 : Int32) < (x0 : Int32) then (fX12_isSmall_L16) else (some (1)))
set_option maxHeartbeats 4000000 in
set_option maxRecDepth 100000 in
theorem tX12_isSmall {G : GT} {b : Nat} {c : Hp} {n : Nat} {x0 : Int32} {R : Int32} (hf : fX12_isSmall x0 = some R) : E G b yX12_isSmall cX12_isSmall 1 (some .boolean) (e_rm 0 0 0) e_X0 (e_Z G b (pD (some (.int R)) c n) 0 0) 0 [(0, .int x0)] [] c n 0 0 := by
  unfold fX12_isSmall at hf
  refine E.iload_n 0 dX12_isSmall_0 rfl ?_
  refine E.bipush (v := 97) dX12_isSmall_1 (by decide) ?_
  refine E.icmp_lt dX12_isSmall_3 (fun h => ?_) (fun h => ?_)
  · have hf := e_ift hf h
    refine E.locals [] rfl ?_
    exact tX12_isSmall_L16 hf
  · have hf := e_iff hf h
    refine E.iload_n 0 dX12_isSmall_6 rfl ?_
    refine E.bipush (v := 122) dX12_isSmall_7 (by decide) ?_
    refine E.icmp_gt dX12_isSmall_9 (fun h => ?_) (fun h => ?_)
    · have hf := e_ift hf h
      refine E.locals [] rfl ?_
      exact tX12_isSmall_L16 hf
    · have hf := e_iff hf h
      refine E.iconst (v := 1) dX12_isSmall_12 (by decide) ?_
      refine E.goto dX12_isSmall_13 ?_
      cases hf
      exact E.zret dX12_isSmall_17 rfl (Nat.le_refl _) (Nat.le_refl _) (pD_rf _ _ _)
set_option maxRecDepth 100000 in
theorem mX12_isSmall {G : GT} {b : Nat} {c : Hp} {n : Nat} {x0 : Int32} {R : Int32} (hf : fX12_isSmall x0 = some R) : e_C G b yX12_isSmall cX12_isSmall 1 (some .boolean) 0 0 0 [.int x0] c n (pD (some (.int R)) c n) := e_C.of (by decide) (Nat.le_of_ble_eq_true rfl) (tX12_isSmall hf)
def fX12_isDigit_L16 : Option (Int32) := some (0)
set_option maxHeartbeats 4000000 in
set_option maxRecDepth 100000 in
theorem tX12_isDigit_L16 {G : GT} {b : Nat} {c : Hp} {n : Nat}  {R : Int32} (hf : fX12_isDigit_L16 = some R) : E G b yX12_isDigit cX12_isDigit 1 (some .boolean) (e_rm 0 0 0) e_X0 (e_Z G b (pD (some (.int R)) c n) 0 0) 16 [] [] c n 0 0 := by
  unfold fX12_isDigit_L16 at hf
  refine E.iconst (v := 0) dX12_isDigit_16 (by decide) ?_
  cases hf
  exact E.zret dX12_isDigit_17 rfl (Nat.le_refl _) (Nat.le_refl _) (pD_rf _ _ _)
def fX12_isDigit (x0 : Int32) : Option (Int32) := if (x0 : Int32) < (48 : Int32) then (fX12_isDigit_L16) else (if (57 : Int32) < (x0 : Int32) then (fX12_isDigit_L16) else (some (1)))
set_option maxHeartbeats 4000000 in
set_option maxRecDepth 100000 in
theorem tX12_isDigit {G : GT} {b : Nat} {c : Hp} {n : Nat} {x0 : Int32} {R : Int32} (hf : fX12_isDigit x0 = some R) : E G b yX12_isDigit cX12_isDigit 1 (some .boolean) (e_rm 0 0 0) e_X0 (e_Z G b (pD (some (.int R)) c n) 0 0) 0 [(0, .int x0)] [] c n 0 0 := by
  unfold fX12_isDigit at hf
  refine E.iload_n 0 dX12_isDigit_0 rfl ?_
  refine E.bipush (v := 48) dX12_isDigit_1 (by decide) ?_
  refine E.icmp_lt dX12_isDigit_3 (fun h => ?_) (fun h => ?_)
  · have hf := e_ift hf h
    refine E.locals [] rfl ?_
    exact tX12_isDigit_L16 hf
  · have hf := e_iff hf h
    refine E.iload_n 0 dX12_isDigit_6 rfl ?_
    refine E.bipush (v := 57) dX12_isDigit_7 (by decide) ?_
    refine E.icmp_gt dX12_isDigit_9 (fun h => ?_) (fun h => ?_)
    · have hf := e_ift hf h
      refine E.locals [] rfl ?_
      exact tX12_isDigit_L16 hf
    · have hf := e_iff hf h
      refine E.iconst (v := 1) dX12_isDigit_12 (by decide) ?_
      refine E.goto dX12_isDigit_13 ?_
      cases hf
      exact E.zret dX12_isDigit_17 rfl (Nat.le_refl _) (Nat.le_refl _) (pD_rf _ _ _)
set_option maxRecDepth 100000 in
theorem mX12_isDigit {G : GT} {b : Nat} {c : Hp} {n : Nat} {x0 : Int32} {R : Int32} (hf : fX12_isDigit x0 = some R) : e_C G b yX12_isDigit cX12_isDigit 1 (some .boolean) 0 0 0 [.int x0] c n (pD (some (.int R)) c n) := e_C.of (by decide) (Nat.le_of_ble_eq_true rfl) (tX12_isDigit hf)
def fX12_next_L319 (Fu : Nat) (k243 : (Nat → Int32) → Int32 → Int32 → Int32 → Int32 → Int64 → Option (Int32 × Int32 × Int32 × Int64)) (a_tape : Nat → Int32) (v_taped : Int32) (v_from : Int32) (v_to : Int32) (v_sort : Int32) (v_worth : Int64) (s0 : Int64) : Option (Int32 × Int32 × Int32 × Int64) := k243 a_tape v_taped v_from (v_to + 1) v_sort s0
set_option maxHeartbeats 4000000 in
set_option maxRecDepth 100000 in
theorem tX12_next_L319 {G : GT} {b : Nat} {o : Nat} {c0 : Hp} {n : Nat} (hw : e_wf (kM o) n) {v_thrown : Int32} {v_status : Int32} {a_refusals : Nat → Int32} {a_row : Nat → Int32} {a_images : Nat → Int32} {a_isKept : Nat → Int32} {v_fault : Int32} {v_bad : Int32} {v_nClauses : Int32} {a_nClause : Nat → Int32} {v_nCode : Int32} {a_nOp : Nat → Int32} {a_nArg : Nat → Int32} {v_nLeaves : Int32} {a_pile : Nat → Int32} {a_pileAt : Nat → Int32} {v_piled : Int32} {v_opened : Int32} {a_words : Nat → Int64} {a_headWords : Nat → Int64} {v_law : Int32} {a_set : Nat → Int64} {a_rest : Nat → Int64} {v_broken : Int32} {v_value : Int64} {v_sum : Int64} {a_chances : Nat → Int32} {a_votes : Nat → Int64} {a_costs : Nat → Int32} {a_table : Nat → Int64} {a_prices : Nat → Int32} {v_surely : Int64} {a_mostBy : Nat → Int64} {a_leastBy : Nat → Int64} {v_between : Int64} {v_steadyWays : Int32} {v_quashed : Int32} {v_but : Int32} {a_figures : Nat → Int32} {a_all : Nat → Int32} {a_lies : Nat → Int32} {a_since : Nat → Int32} {v_last : Int32} {v_state : Int64} {Fu : Nat} {k243 : (Nat → Int32) → Int32 → Int32 → Int32 → Int32 → Int64 → Option (Int32 × Int32 × Int32 × Int64)} (hk243 : ∀ {a_tape : Nat → Int32} {v_taped : Int32} {v_from : Int32} {v_to : Int32} {v_sort : Int32} {v_worth : Int64} {R : Int32 × Int32 × Int32 × Int64}, k243 a_tape v_taped v_from v_to v_sort v_worth = some R → E G b yX12_next cX12_next 1 none (e_rm 1 0 0) e_X0 (e_Z G b (pD none (e_ov (kM o) (wM G b o v_thrown v_status a_refusals a_row a_images a_isKept a_tape v_taped R.1 R.2.1 R.2.2.1 R.2.2.2 v_fault v_bad v_nClauses a_nClause v_nCode a_nOp a_nArg v_nLeaves a_pile a_pileAt v_piled v_opened a_words a_headWords v_law a_set a_rest v_broken v_value v_sum a_chances a_votes a_costs a_table a_prices v_surely a_mostBy a_leastBy v_between v_steadyWays v_quashed v_but a_figures a_all a_lies a_since v_last v_state) c0) n) 0 0) 243 [(0, .ref (b + o))] [] (e_ov (kM o) (wM G b o v_thrown v_status a_refusals a_row a_images a_isKept a_tape v_taped v_from v_to v_sort v_worth v_fault v_bad v_nClauses a_nClause v_nCode a_nOp a_nArg v_nLeaves a_pile a_pileAt v_piled v_opened a_words a_headWords v_law a_set a_rest v_broken v_value v_sum a_chances a_votes a_costs a_table a_prices v_surely a_mostBy a_leastBy v_between v_steadyWays v_quashed v_but a_figures a_all a_lies a_since v_last v_state) c0) n 0 0) {a_tape : Nat → Int32} {v_taped : Int32} {v_from : Int32} {v_to : Int32} {v_sort : Int32} {v_worth : Int64} {s0 : Int64} {R : Int32 × Int32 × Int32 × Int64} (hf : fX12_next_L319 Fu k243 a_tape v_taped v_from v_to v_sort v_worth s0 = some R) : E G b yX12_next cX12_next 1 none (e_rm 1 0 0) e_X0 (e_Z G b (pD none (e_ov (kM o) (wM G b o v_thrown v_status a_refusals a_row a_images a_isKept a_tape v_taped R.1 R.2.1 R.2.2.1 R.2.2.2 v_fault v_bad v_nClauses a_nClause v_nCode a_nOp a_nArg v_nLeaves a_pile a_pileAt v_piled v_opened a_words a_headWords v_law a_set a_rest v_broken v_value v_sum a_chances a_votes a_costs a_table a_prices v_surely a_mostBy a_leastBy v_between v_steadyWays v_quashed v_but a_figures a_all a_lies a_since v_last v_state) c0) n) 0 0) 319 [(0, .ref (b + o))] [.long s0, .ref (b + o)] (e_ov (kM o) (wM G b o v_thrown v_status a_refusals a_row a_images a_isKept a_tape v_taped v_from v_to v_sort v_worth v_fault v_bad v_nClauses a_nClause v_nCode a_nOp a_nArg v_nLeaves a_pile a_pileAt v_piled v_opened a_words a_headWords v_law a_set a_rest v_broken v_value v_sum a_chances a_votes a_costs a_table a_prices v_surely a_mostBy a_leastBy v_between v_steadyWays v_quashed v_but a_figures a_all a_lies a_since v_last v_state) c0) n 0 0 := by
  unfold fX12_next_L319 at hf
  refine E.put (es' := (wM G b o v_thrown v_status a_refusals a_row a_images a_isKept a_tape v_taped v_from v_to v_sort s0 v_fault v_bad v_nClauses a_nClause v_nCode a_nOp a_nArg v_nLeaves a_pile a_pileAt v_piled v_opened a_words a_headWords v_law a_set a_rest v_broken v_value v_sum a_chances a_votes a_costs a_table a_prices v_surely a_mostBy a_leastBy v_between v_steadyWays v_quashed v_but a_figures a_all a_lies a_since v_last v_state)) hw 0 o dX12_next_319 flX12_204 ftX12 rfl rfl rfl rfl rfl rfl (Nat.le_of_ble_eq_true rfl) rfl ?_
  refine E.aload_n 0 dX12_next_322 rfl ?_
  refine E.dup dX12_next_323 rfl ?_
  refine E.get hw 0 o dX12_next_324 flX12_191 rfl rfl rfl rfl ?_
  refine E.iconst (v := 1) dX12_next_327 (by decide) ?_
  refine E.iadd dX12_next_328 ?_
  refine E.put (es' := (wM G b o v_thrown v_status a_refusals a_row a_images a_isKept a_tape v_taped v_from (v_to + 1) v_sort s0 v_fault v_bad v_nClauses a_nClause v_nCode a_nOp a_nArg v_nLeaves a_pile a_pileAt v_piled v_opened a_words a_headWords v_law a_set a_rest v_broken v_value v_sum a_chances a_votes a_costs a_table a_prices v_surely a_mostBy a_leastBy v_between v_steadyWays v_quashed v_but a_figures a_all a_lies a_since v_last v_state)) hw 0 o dX12_next_329 flX12_191 ftX12 rfl rfl rfl rfl rfl rfl (Nat.le_of_ble_eq_true rfl) rfl ?_
  refine E.goto dX12_next_332 ?_
  exact hk243 hf
def fX12_next_L243 (Fu : Nat) : Nat → (Nat → Int32) → Int32 → Int32 → Int32 → Int32 → Int64 → Option (Int32 × Int32 × Int32 × Int64)
  | 0, _, _, _, _, _, _ => none
  | k + 1, a_tape, v_taped, v_from, v_to, v_sort, v_worth => if (v_sort : Int32) = (2 : Int32) then (if (v_taped : Int32) ≤ (v_to : Int32) then (some (v_from, v_to, v_sort, v_worth)) else (gd v_to 400 ((fX12_isDigit (a_tape (v_to : Int32).toNatClampNeg)).bind fun r11 => (if (r11 : Int32) = 0 then (some (v_from, v_to, v_sort, v_worth)) else (if v_worth ≤ 1000000 then (gd v_to 400 (fX12_next_L319 Fu (fX12_next_L243 Fu k) a_tape v_taped v_from v_to v_sort v_worth (((v_worth * 10) + (((a_tape (v_to : Int32).toNatClampNeg) : Int32).toInt64)) - 48))) else (fX12_next_L319 Fu (fX12_next_L243 Fu k) a_tape v_taped v_from v_to v_sort v_worth v_worth)))))) else (some (v_from, v_to, v_sort, v_worth))
set_option maxHeartbeats 4000000 in
set_option maxRecDepth 100000 in
theorem tX12_next_L243 {G : GT} {b : Nat} {o : Nat} {c0 : Hp} {n : Nat} (hw : e_wf (kM o) n) {v_thrown : Int32} {v_status : Int32} {a_refusals : Nat → Int32} {a_row : Nat → Int32} {a_images : Nat → Int32} {a_isKept : Nat → Int32} {v_fault : Int32} {v_bad : Int32} {v_nClauses : Int32} {a_nClause : Nat → Int32} {v_nCode : Int32} {a_nOp : Nat → Int32} {a_nArg : Nat → Int32} {v_nLeaves : Int32} {a_pile : Nat → Int32} {a_pileAt : Nat → Int32} {v_piled : Int32} {v_opened : Int32} {a_words : Nat → Int64} {a_headWords : Nat → Int64} {v_law : Int32} {a_set : Nat → Int64} {a_rest : Nat → Int64} {v_broken : Int32} {v_value : Int64} {v_sum : Int64} {a_chances : Nat → Int32} {a_votes : Nat → Int64} {a_costs : Nat → Int32} {a_table : Nat → Int64} {a_prices : Nat → Int32} {v_surely : Int64} {a_mostBy : Nat → Int64} {a_leastBy : Nat → Int64} {v_between : Int64} {v_steadyWays : Int32} {v_quashed : Int32} {v_but : Int32} {a_figures : Nat → Int32} {a_all : Nat → Int32} {a_lies : Nat → Int32} {a_since : Nat → Int32} {v_last : Int32} {v_state : Int64} {Fu : Nat} : ∀ (k : Nat) {a_tape : Nat → Int32} {v_taped : Int32} {v_from : Int32} {v_to : Int32} {v_sort : Int32} {v_worth : Int64} {R : Int32 × Int32 × Int32 × Int64}, fX12_next_L243 Fu k a_tape v_taped v_from v_to v_sort v_worth = some R → E G b yX12_next cX12_next 1 none (e_rm 1 0 0) e_X0 (e_Z G b (pD none (e_ov (kM o) (wM G b o v_thrown v_status a_refusals a_row a_images a_isKept a_tape v_taped R.1 R.2.1 R.2.2.1 R.2.2.2 v_fault v_bad v_nClauses a_nClause v_nCode a_nOp a_nArg v_nLeaves a_pile a_pileAt v_piled v_opened a_words a_headWords v_law a_set a_rest v_broken v_value v_sum a_chances a_votes a_costs a_table a_prices v_surely a_mostBy a_leastBy v_between v_steadyWays v_quashed v_but a_figures a_all a_lies a_since v_last v_state) c0) n) 0 0) 243 [(0, .ref (b + o))] [] (e_ov (kM o) (wM G b o v_thrown v_status a_refusals a_row a_images a_isKept a_tape v_taped v_from v_to v_sort v_worth v_fault v_bad v_nClauses a_nClause v_nCode a_nOp a_nArg v_nLeaves a_pile a_pileAt v_piled v_opened a_words a_headWords v_law a_set a_rest v_broken v_value v_sum a_chances a_votes a_costs a_table a_prices v_surely a_mostBy a_leastBy v_between v_steadyWays v_quashed v_but a_figures a_all a_lies a_since v_last v_state) c0) n 0 0 := by
  intro k
  induction k with
  | zero =>
    intro _ _ _ _ _ _ _ hf
    have hf : (none : Option (Int32 × Int32 × Int32 × Int64)) = some _ := hf
    cases hf
  | succ k ih =>
    intro a_tape v_taped v_from v_to v_sort v_worth R hf
    rw [fX12_next_L243] at hf
    refine E.aload_n 0 dX12_next_243 rfl ?_
    refine E.get hw 0 o dX12_next_244 flX12_214 rfl rfl rfl rfl ?_
    refine E.iconst (v := 2) dX12_next_247 (by decide) ?_
    refine E.icmp_ne dX12_next_248 (fun h => ?_) (fun h => ?_)
    · have hf := e_iff hf h
      cases hf
      exact E.vret dX12_next_335 (Nat.le_refl _) (Nat.le_refl _) (pD_rf _ _ _)
    · have hf := e_ift hf h
      refine E.aload_n 0 dX12_next_251 rfl ?_
      refine E.get hw 0 o dX12_next_252 flX12_191 rfl rfl rfl rfl ?_
      refine E.aload_n 0 dX12_next_255 rfl ?_
      refine E.get hw 0 o dX12_next_256 flX12_184 rfl rfl rfl rfl ?_
      refine E.icmp_ge dX12_next_259 (fun h => ?_) (fun h => ?_)
      · have hf := e_ift hf h
        cases hf
        exact E.vret dX12_next_335 (Nat.le_refl _) (Nat.le_refl _) (pD_rf _ _ _)
      · have hf := e_iff hf h
        refine E.aload_n 0 dX12_next_262 rfl ?_
        refine E.get hw 0 o dX12_next_263 flX12_23 rfl rfl rfl rfl ?_
        refine E.aload_n 0 dX12_next_266 rfl ?_
        refine E.get hw 0 o dX12_next_267 flX12_191 rfl rfl rfl rfl ?_
        obtain ⟨g10, hf⟩ := gd_some hf
        refine E.iald hw 5 (o + 5) dX12_next_270 rfl rfl g10 ?_
        obtain ⟨r11, hc11, hf⟩ := e_bind hf
        refine E.callSD [] dX12_next_271 mlX12_211 (mX12_isDigit hc11) ⟨Nat.le_of_ble_eq_true rfl, Nat.le_of_ble_eq_true rfl⟩ rfl rfl (Nat.le_of_ble_eq_true rfl) ⟨Nat.le_refl _, Nat.le_refl _⟩ rfl ?_
        refine E.if_eq dX12_next_274 (fun h => ?_) (fun h => ?_)
        · have hf := e_ift hf h
          cases hf
          exact E.vret dX12_next_335 (Nat.le_refl _) (Nat.le_refl _) (pD_rf _ _ _)
        · have hf := e_iff hf h
          refine E.aload_n 0 dX12_next_277 rfl ?_
          refine E.aload_n 0 dX12_next_278 rfl ?_
          refine E.get hw 0 o dX12_next_279 flX12_204 rfl rfl rfl rfl ?_
          refine E.ldc2 dX12_next_282 kX12_223 ?_
          refine E.lc_le dX12_next_285 dX12_next_286 (fun h => ?_) (fun h => ?_)
          · have hf := e_ift hf h
            refine E.aload_n 0 dX12_next_296 rfl ?_
            refine E.get hw 0 o dX12_next_297 flX12_204 rfl rfl rfl rfl ?_
            refine E.ldc2 dX12_next_300 kX12_225 ?_
            refine E.lmul dX12_next_303 ?_
            refine E.aload_n 0 dX12_next_304 rfl ?_
            refine E.get hw 0 o dX12_next_305 flX12_23 rfl rfl rfl rfl ?_
            refine E.aload_n 0 dX12_next_308 rfl ?_
            refine E.get hw 0 o dX12_next_309 flX12_191 rfl rfl rfl rfl ?_
            obtain ⟨g12, hf⟩ := gd_some hf
            refine E.iald hw 5 (o + 5) dX12_next_312 rfl rfl g12 ?_
            refine E.i2l dX12_next_313 ?_
            refine E.ladd dX12_next_314 ?_
            refine E.ldc2 dX12_next_315 kX12_227 ?_
            refine E.lsub dX12_next_318 ?_
            exact tX12_next_L319 hw ih hf
          · have hf := e_iff hf h
            refine E.aload_n 0 dX12_next_289 rfl ?_
            refine E.get hw 0 o dX12_next_290 flX12_204 rfl rfl rfl rfl ?_
            refine E.goto dX12_next_293 ?_
            exact tX12_next_L319 hw ih hf
def fX12_next_L227 (Fu : Nat) (k149 : (Nat → Int32) → Int32 → Int32 → Int32 → Int32 → Int64 → Option (Int32 × Int32 × Int32 × Int64)) (a_tape : Nat → Int32) (v_taped : Int32) (v_from : Int32) (v_to : Int32) (v_sort : Int32) (v_worth : Int64) (s0 : Int64) : Option (Int32 × Int32 × Int32 × Int64) := k149 a_tape v_taped v_from (v_to + 1) v_sort s0
set_option maxHeartbeats 4000000 in
set_option maxRecDepth 100000 in
theorem tX12_next_L227 {G : GT} {b : Nat} {o : Nat} {c0 : Hp} {n : Nat} (hw : e_wf (kM o) n) {v_thrown : Int32} {v_status : Int32} {a_refusals : Nat → Int32} {a_row : Nat → Int32} {a_images : Nat → Int32} {a_isKept : Nat → Int32} {v_fault : Int32} {v_bad : Int32} {v_nClauses : Int32} {a_nClause : Nat → Int32} {v_nCode : Int32} {a_nOp : Nat → Int32} {a_nArg : Nat → Int32} {v_nLeaves : Int32} {a_pile : Nat → Int32} {a_pileAt : Nat → Int32} {v_piled : Int32} {v_opened : Int32} {a_words : Nat → Int64} {a_headWords : Nat → Int64} {v_law : Int32} {a_set : Nat → Int64} {a_rest : Nat → Int64} {v_broken : Int32} {v_value : Int64} {v_sum : Int64} {a_chances : Nat → Int32} {a_votes : Nat → Int64} {a_costs : Nat → Int32} {a_table : Nat → Int64} {a_prices : Nat → Int32} {v_surely : Int64} {a_mostBy : Nat → Int64} {a_leastBy : Nat → Int64} {v_between : Int64} {v_steadyWays : Int32} {v_quashed : Int32} {v_but : Int32} {a_figures : Nat → Int32} {a_all : Nat → Int32} {a_lies : Nat → Int32} {a_since : Nat → Int32} {v_last : Int32} {v_state : Int64} {Fu : Nat} {k149 : (Nat → Int32) → Int32 → Int32 → Int32 → Int32 → Int64 → Option (Int32 × Int32 × Int32 × Int64)} (hk149 : ∀ {a_tape : Nat → Int32} {v_taped : Int32} {v_from : Int32} {v_to : Int32} {v_sort : Int32} {v_worth : Int64} {R : Int32 × Int32 × Int32 × Int64}, k149 a_tape v_taped v_from v_to v_sort v_worth = some R → E G b yX12_next cX12_next 1 none (e_rm 1 0 0) e_X0 (e_Z G b (pD none (e_ov (kM o) (wM G b o v_thrown v_status a_refusals a_row a_images a_isKept a_tape v_taped R.1 R.2.1 R.2.2.1 R.2.2.2 v_fault v_bad v_nClauses a_nClause v_nCode a_nOp a_nArg v_nLeaves a_pile a_pileAt v_piled v_opened a_words a_headWords v_law a_set a_rest v_broken v_value v_sum a_chances a_votes a_costs a_table a_prices v_surely a_mostBy a_leastBy v_between v_steadyWays v_quashed v_but a_figures a_all a_lies a_since v_last v_state) c0) n) 0 0) 149 [(0, .ref (b + o))] [] (e_ov (kM o) (wM G b o v_thrown v_status a_refusals a_row a_images a_isKept a_tape v_taped v_from v_to v_sort v_worth v_fault v_bad v_nClauses a_nClause v_nCode a_nOp a_nArg v_nLeaves a_pile a_pileAt v_piled v_opened a_words a_headWords v_law a_set a_rest v_broken v_value v_sum a_chances a_votes a_costs a_table a_prices v_surely a_mostBy a_leastBy v_between v_steadyWays v_quashed v_but a_figures a_all a_lies a_since v_last v_state) c0) n 0 0) {a_tape : Nat → Int32} {v_taped : Int32} {v_from : Int32} {v_to : Int32} {v_sort : Int32} {v_worth : Int64} {s0 : Int64} {R : Int32 × Int32 × Int32 × Int64} (hf : fX12_next_L227 Fu k149 a_tape v_taped v_from v_to v_sort v_worth s0 = some R) : E G b yX12_next cX12_next 1 none (e_rm 1 0 0) e_X0 (e_Z G b (pD none (e_ov (kM o) (wM G b o v_thrown v_status a_refusals a_row a_images a_isKept a_tape v_taped R.1 R.2.1 R.2.2.1 R.2.2.2 v_fault v_bad v_nClauses a_nClause v_nCode a_nOp a_nArg v_nLeaves a_pile a_pileAt v_piled v_opened a_words a_headWords v_law a_set a_rest v_broken v_value v_sum a_chances a_votes a_costs a_table a_prices v_surely a_mostBy a_leastBy v_between v_steadyWays v_quashed v_but a_figures a_all a_lies a_since v_last v_state) c0) n) 0 0) 227 [(0, .ref (b + o))] [.long s0, .ref (b + o)] (e_ov (kM o) (wM G b o v_thrown v_status a_refusals a_row a_images a_isKept a_tape v_taped v_from v_to v_sort v_worth v_fault v_bad v_nClauses a_nClause v_nCode a_nOp a_nArg v_nLeaves a_pile a_pileAt v_piled v_opened a_words a_headWords v_law a_set a_rest v_broken v_value v_sum a_chances a_votes a_costs a_table a_prices v_surely a_mostBy a_leastBy v_between v_steadyWays v_quashed v_but a_figures a_all a_lies a_since v_last v_state) c0) n 0 0 := by
  unfold fX12_next_L227 at hf
  refine E.put (es' := (wM G b o v_thrown v_status a_refusals a_row a_images a_isKept a_tape v_taped v_from v_to v_sort s0 v_fault v_bad v_nClauses a_nClause v_nCode a_nOp a_nArg v_nLeaves a_pile a_pileAt v_piled v_opened a_words a_headWords v_law a_set a_rest v_broken v_value v_sum a_chances a_votes a_costs a_table a_prices v_surely a_mostBy a_leastBy v_between v_steadyWays v_quashed v_but a_figures a_all a_lies a_since v_last v_state)) hw 0 o dX12_next_227 flX12_204 ftX12 rfl rfl rfl rfl rfl rfl (Nat.le_of_ble_eq_true rfl) rfl ?_
  refine E.aload_n 0 dX12_next_230 rfl ?_
  refine E.dup dX12_next_231 rfl ?_
  refine E.get hw 0 o dX12_next_232 flX12_191 rfl rfl rfl rfl ?_
  refine E.iconst (v := 1) dX12_next_235 (by decide) ?_
  refine E.iadd dX12_next_236 ?_
  refine E.put (es' := (wM G b o v_thrown v_status a_refusals a_row a_images a_isKept a_tape v_taped v_from (v_to + 1) v_sort s0 v_fault v_bad v_nClauses a_nClause v_nCode a_nOp a_nArg v_nLeaves a_pile a_pileAt v_piled v_opened a_words a_headWords v_law a_set a_rest v_broken v_value v_sum a_chances a_votes a_costs a_table a_prices v_surely a_mostBy a_leastBy v_between v_steadyWays v_quashed v_but a_figures a_all a_lies a_since v_last v_state)) hw 0 o dX12_next_237 flX12_191 ftX12 rfl rfl rfl rfl rfl rfl (Nat.le_of_ble_eq_true rfl) rfl ?_
  refine E.goto dX12_next_240 ?_
  exact hk149 hf
def fX12_next_L149 (Fu : Nat) : Nat → (Nat → Int32) → Int32 → Int32 → Int32 → Int32 → Int64 → Option (Int32 × Int32 × Int32 × Int64)
  | 0, _, _, _, _, _, _ => none
  | k + 1, a_tape, v_taped, v_from, v_to, v_sort, v_worth => if (v_sort : Int32) = (1 : Int32) then (if (v_taped : Int32) ≤ (v_to : Int32) then (fX12_next_L243 Fu Fu a_tape v_taped v_from v_to v_sort v_worth) else (gd v_to 400 ((fX12_isSmall (a_tape (v_to : Int32).toNatClampNeg)).bind fun r8 => (if (r8 : Int32) = 0 then (fX12_next_L243 Fu Fu a_tape v_taped v_from v_to v_sort v_worth) else (if (10 : Int32) ≤ ((v_to - v_from) : Int32) then (fX12_next_L227 Fu (fX12_next_L149 Fu k) a_tape v_taped v_from v_to v_sort v_worth (-1 : Int64)) else (gd v_to 400 (fX12_next_L227 Fu (fX12_next_L149 Fu k) a_tape v_taped v_from v_to v_sort v_worth (((v_worth * 32) + (((a_tape (v_to : Int32).toNatClampNeg) : Int32).toInt64)) - 96)))))))) else (fX12_next_L243 Fu Fu a_tape v_taped v_from v_to v_sort v_worth)
set_option maxHeartbeats 4000000 in
set_option maxRecDepth 100000 in
theorem tX12_next_L149 {G : GT} {b : Nat} {o : Nat} {c0 : Hp} {n : Nat} (hw : e_wf (kM o) n) {v_thrown : Int32} {v_status : Int32} {a_refusals : Nat → Int32} {a_row : Nat → Int32} {a_images : Nat → Int32} {a_isKept : Nat → Int32} {v_fault : Int32} {v_bad : Int32} {v_nClauses : Int32} {a_nClause : Nat → Int32} {v_nCode : Int32} {a_nOp : Nat → Int32} {a_nArg : Nat → Int32} {v_nLeaves : Int32} {a_pile : Nat → Int32} {a_pileAt : Nat → Int32} {v_piled : Int32} {v_opened : Int32} {a_words : Nat → Int64} {a_headWords : Nat → Int64} {v_law : Int32} {a_set : Nat → Int64} {a_rest : Nat → Int64} {v_broken : Int32} {v_value : Int64} {v_sum : Int64} {a_chances : Nat → Int32} {a_votes : Nat → Int64} {a_costs : Nat → Int32} {a_table : Nat → Int64} {a_prices : Nat → Int32} {v_surely : Int64} {a_mostBy : Nat → Int64} {a_leastBy : Nat → Int64} {v_between : Int64} {v_steadyWays : Int32} {v_quashed : Int32} {v_but : Int32} {a_figures : Nat → Int32} {a_all : Nat → Int32} {a_lies : Nat → Int32} {a_since : Nat → Int32} {v_last : Int32} {v_state : Int64} {Fu : Nat} : ∀ (k : Nat) {a_tape : Nat → Int32} {v_taped : Int32} {v_from : Int32} {v_to : Int32} {v_sort : Int32} {v_worth : Int64} {R : Int32 × Int32 × Int32 × Int64}, fX12_next_L149 Fu k a_tape v_taped v_from v_to v_sort v_worth = some R → E G b yX12_next cX12_next 1 none (e_rm 1 0 0) e_X0 (e_Z G b (pD none (e_ov (kM o) (wM G b o v_thrown v_status a_refusals a_row a_images a_isKept a_tape v_taped R.1 R.2.1 R.2.2.1 R.2.2.2 v_fault v_bad v_nClauses a_nClause v_nCode a_nOp a_nArg v_nLeaves a_pile a_pileAt v_piled v_opened a_words a_headWords v_law a_set a_rest v_broken v_value v_sum a_chances a_votes a_costs a_table a_prices v_surely a_mostBy a_leastBy v_between v_steadyWays v_quashed v_but a_figures a_all a_lies a_since v_last v_state) c0) n) 0 0) 149 [(0, .ref (b + o))] [] (e_ov (kM o) (wM G b o v_thrown v_status a_refusals a_row a_images a_isKept a_tape v_taped v_from v_to v_sort v_worth v_fault v_bad v_nClauses a_nClause v_nCode a_nOp a_nArg v_nLeaves a_pile a_pileAt v_piled v_opened a_words a_headWords v_law a_set a_rest v_broken v_value v_sum a_chances a_votes a_costs a_table a_prices v_surely a_mostBy a_leastBy v_between v_steadyWays v_quashed v_but a_figures a_all a_lies a_since v_last v_state) c0) n 0 0 := by
  intro k
  induction k with
  | zero =>
    intro _ _ _ _ _ _ _ hf
    have hf : (none : Option (Int32 × Int32 × Int32 × Int64)) = some _ := hf
    cases hf
  | succ k ih =>
    intro a_tape v_taped v_from v_to v_sort v_worth R hf
    rw [fX12_next_L149] at hf
    refine E.aload_n 0 dX12_next_149 rfl ?_
    refine E.get hw 0 o dX12_next_150 flX12_214 rfl rfl rfl rfl ?_
    refine E.iconst (v := 1) dX12_next_153 (by decide) ?_
    refine E.icmp_ne dX12_next_154 (fun h => ?_) (fun h => ?_)
    · have hf := e_iff hf h
      exact tX12_next_L243 hw _ hf
    · have hf := e_ift hf h
      refine E.aload_n 0 dX12_next_157 rfl ?_
      refine E.get hw 0 o dX12_next_158 flX12_191 rfl rfl rfl rfl ?_
      refine E.aload_n 0 dX12_next_161 rfl ?_
      refine E.get hw 0 o dX12_next_162 flX12_184 rfl rfl rfl rfl ?_
      refine E.icmp_ge dX12_next_165 (fun h => ?_) (fun h => ?_)
      · have hf := e_ift hf h
        exact tX12_next_L243 hw _ hf
      · have hf := e_iff hf h
        refine E.aload_n 0 dX12_next_168 rfl ?_
        refine E.get hw 0 o dX12_next_169 flX12_23 rfl rfl rfl rfl ?_
        refine E.aload_n 0 dX12_next_172 rfl ?_
        refine E.get hw 0 o dX12_next_173 flX12_191 rfl rfl rfl rfl ?_
        obtain ⟨g7, hf⟩ := gd_some hf
        refine E.iald hw 5 (o + 5) dX12_next_176 rfl rfl g7 ?_
        obtain ⟨r8, hc8, hf⟩ := e_bind hf
        refine E.callSD [] dX12_next_177 mlX12_208 (mX12_isSmall hc8) ⟨Nat.le_of_ble_eq_true rfl, Nat.le_of_ble_eq_true rfl⟩ rfl rfl (Nat.le_of_ble_eq_true rfl) ⟨Nat.le_refl _, Nat.le_refl _⟩ rfl ?_
        refine E.if_eq dX12_next_180 (fun h => ?_) (fun h => ?_)
        · have hf := e_ift hf h
          exact tX12_next_L243 hw _ hf
        · have hf := e_iff hf h
          refine E.aload_n 0 dX12_next_183 rfl ?_
          refine E.aload_n 0 dX12_next_184 rfl ?_
          refine E.get hw 0 o dX12_next_185 flX12_191 rfl rfl rfl rfl ?_
          refine E.aload_n 0 dX12_next_188 rfl ?_
          refine E.get hw 0 o dX12_next_189 flX12_201 rfl rfl rfl rfl ?_
          refine E.isub dX12_next_192 ?_
          refine E.bipush (v := 10) dX12_next_193 (by decide) ?_
          refine E.icmp_ge dX12_next_195 (fun h => ?_) (fun h => ?_)
          · have hf := e_ift hf h
            refine E.ldc2 dX12_next_224 kX12_221 ?_
            exact tX12_next_L227 hw ih hf
          · have hf := e_iff hf h
            refine E.aload_n 0 dX12_next_198 rfl ?_
            refine E.get hw 0 o dX12_next_199 flX12_204 rfl rfl rfl rfl ?_
            refine E.ldc2 dX12_next_202 kX12_217 ?_
            refine E.lmul dX12_next_205 ?_
            refine E.aload_n 0 dX12_next_206 rfl ?_
            refine E.get hw 0 o dX12_next_207 flX12_23 rfl rfl rfl rfl ?_
            refine E.aload_n 0 dX12_next_210 rfl ?_
            refine E.get hw 0 o dX12_next_211 flX12_191 rfl rfl rfl rfl ?_
            obtain ⟨g9, hf⟩ := gd_some hf
            refine E.iald hw 5 (o + 5) dX12_next_214 rfl rfl g9 ?_
            refine E.i2l dX12_next_215 ?_
            refine E.ladd dX12_next_216 ?_
            refine E.ldc2 dX12_next_217 kX12_219 ?_
            refine E.lsub dX12_next_220 ?_
            refine E.goto dX12_next_221 ?_
            exact tX12_next_L227 hw ih hf
def fX12_next_L114 (Fu : Nat) (a_tape : Nat → Int32) (v_taped : Int32) (v_from : Int32) (v_to : Int32) (v_sort : Int32) (v_worth : Int64) (s0 : Int32) : Option (Int32 × Int32 × Int32 × Int64) := if (s0 : Int32) = (3 : Int32) then (gd v_from 400 (fX12_next_L149 Fu Fu a_tape v_taped v_from (v_to + 1) s0 (((a_tape (v_from : Int32).toNatClampNeg) : Int32).toInt64))) else (fX12_next_L149 Fu Fu a_tape v_taped v_from v_to s0 v_worth)
set_option maxHeartbeats 4000000 in
set_option maxRecDepth 100000 in
theorem tX12_next_L114 {G : GT} {b : Nat} {o : Nat} {c0 : Hp} {n : Nat} (hw : e_wf (kM o) n) {v_thrown : Int32} {v_status : Int32} {a_refusals : Nat → Int32} {a_row : Nat → Int32} {a_images : Nat → Int32} {a_isKept : Nat → Int32} {v_fault : Int32} {v_bad : Int32} {v_nClauses : Int32} {a_nClause : Nat → Int32} {v_nCode : Int32} {a_nOp : Nat → Int32} {a_nArg : Nat → Int32} {v_nLeaves : Int32} {a_pile : Nat → Int32} {a_pileAt : Nat → Int32} {v_piled : Int32} {v_opened : Int32} {a_words : Nat → Int64} {a_headWords : Nat → Int64} {v_law : Int32} {a_set : Nat → Int64} {a_rest : Nat → Int64} {v_broken : Int32} {v_value : Int64} {v_sum : Int64} {a_chances : Nat → Int32} {a_votes : Nat → Int64} {a_costs : Nat → Int32} {a_table : Nat → Int64} {a_prices : Nat → Int32} {v_surely : Int64} {a_mostBy : Nat → Int64} {a_leastBy : Nat → Int64} {v_between : Int64} {v_steadyWays : Int32} {v_quashed : Int32} {v_but : Int32} {a_figures : Nat → Int32} {a_all : Nat → Int32} {a_lies : Nat → Int32} {a_since : Nat → Int32} {v_last : Int32} {v_state : Int64} {Fu : Nat} {a_tape : Nat → Int32} {v_taped : Int32} {v_from : Int32} {v_to : Int32} {v_sort : Int32} {v_worth : Int64} {s0 : Int32} {R : Int32 × Int32 × Int32 × Int64} (hf : fX12_next_L114 Fu a_tape v_taped v_from v_to v_sort v_worth s0 = some R) : E G b yX12_next cX12_next 1 none (e_rm 1 0 0) e_X0 (e_Z G b (pD none (e_ov (kM o) (wM G b o v_thrown v_status a_refusals a_row a_images a_isKept a_tape v_taped R.1 R.2.1 R.2.2.1 R.2.2.2 v_fault v_bad v_nClauses a_nClause v_nCode a_nOp a_nArg v_nLeaves a_pile a_pileAt v_piled v_opened a_words a_headWords v_law a_set a_rest v_broken v_value v_sum a_chances a_votes a_costs a_table a_prices v_surely a_mostBy a_leastBy v_between v_steadyWays v_quashed v_but a_figures a_all a_lies a_since v_last v_state) c0) n) 0 0) 114 [(0, .ref (b + o))] [.int s0, .ref (b + o)] (e_ov (kM o) (wM G b o v_thrown v_status a_refusals a_row a_images a_isKept a_tape v_taped v_from v_to v_sort v_worth v_fault v_bad v_nClauses a_nClause v_nCode a_nOp a_nArg v_nLeaves a_pile a_pileAt v_piled v_opened a_words a_headWords v_law a_set a_rest v_broken v_value v_sum a_chances a_votes a_costs a_table a_prices v_surely a_mostBy a_leastBy v_between v_steadyWays v_quashed v_but a_figures a_all a_lies a_since v_last v_state) c0) n 0 0 := by
  unfold fX12_next_L114 at hf
  refine E.put (es' := (wM G b o v_thrown v_status a_refusals a_row a_images a_isKept a_tape v_taped v_from v_to s0 v_worth v_fault v_bad v_nClauses a_nClause v_nCode a_nOp a_nArg v_nLeaves a_pile a_pileAt v_piled v_opened a_words a_headWords v_law a_set a_rest v_broken v_value v_sum a_chances a_votes a_costs a_table a_prices v_surely a_mostBy a_leastBy v_between v_steadyWays v_quashed v_but a_figures a_all a_lies a_since v_last v_state)) hw 0 o dX12_next_114 flX12_214 ftX12 rfl rfl rfl rfl rfl rfl (Nat.le_of_ble_eq_true rfl) rfl ?_
  refine E.aload_n 0 dX12_next_117 rfl ?_
  refine E.get hw 0 o dX12_next_118 flX12_214 rfl rfl rfl rfl ?_
  refine E.iconst (v := 3) dX12_next_121 (by decide) ?_
  refine E.icmp_ne dX12_next_122 (fun h => ?_) (fun h => ?_)
  · have hf := e_iff hf h
    exact tX12_next_L149 hw _ hf
  · have hf := e_ift hf h
    refine E.aload_n 0 dX12_next_125 rfl ?_
    refine E.aload_n 0 dX12_next_126 rfl ?_
    refine E.get hw 0 o dX12_next_127 flX12_23 rfl rfl rfl rfl ?_
    refine E.aload_n 0 dX12_next_130 rfl ?_
    refine E.get hw 0 o dX12_next_131 flX12_201 rfl rfl rfl rfl ?_
    obtain ⟨g6, hf⟩ := gd_some hf
    refine E.iald hw 5 (o + 5) dX12_next_134 rfl rfl g6 ?_
    refine E.i2l dX12_next_135 ?_
    refine E.put (es' := (wM G b o v_thrown v_status a_refusals a_row a_images a_isKept a_tape v_taped v_from v_to s0 (((a_tape (v_from : Int32).toNatClampNeg) : Int32).toInt64) v_fault v_bad v_nClauses a_nClause v_nCode a_nOp a_nArg v_nLeaves a_pile a_pileAt v_piled v_opened a_words a_headWords v_law a_set a_rest v_broken v_value v_sum a_chances a_votes a_costs a_table a_prices v_surely a_mostBy a_leastBy v_between v_steadyWays v_quashed v_but a_figures a_all a_lies a_since v_last v_state)) hw 0 o dX12_next_136 flX12_204 ftX12 rfl rfl rfl rfl rfl rfl (Nat.le_of_ble_eq_true rfl) rfl ?_
    refine E.aload_n 0 dX12_next_139 rfl ?_
    refine E.dup dX12_next_140 rfl ?_
    refine E.get hw 0 o dX12_next_141 flX12_191 rfl rfl rfl rfl ?_
    refine E.iconst (v := 1) dX12_next_144 (by decide) ?_
    refine E.iadd dX12_next_145 ?_
    refine E.put (es' := (wM G b o v_thrown v_status a_refusals a_row a_images a_isKept a_tape v_taped v_from (v_to + 1) s0 (((a_tape (v_from : Int32).toNatClampNeg) : Int32).toInt64) v_fault v_bad v_nClauses a_nClause v_nCode a_nOp a_nArg v_nLeaves a_pile a_pileAt v_piled v_opened a_words a_headWords v_law a_set a_rest v_broken v_value v_sum a_chances a_votes a_costs a_table a_prices v_surely a_mostBy a_leastBy v_between v_steadyWays v_quashed v_but a_figures a_all a_lies a_since v_last v_state)) hw 0 o dX12_next_146 flX12_191 ftX12 rfl rfl rfl rfl rfl rfl (Nat.le_of_ble_eq_true rfl) rfl ?_
    exact tX12_next_L149 hw _ hf
def fX12_next_L46 (Fu : Nat) (a_tape : Nat → Int32) (v_taped : Int32) (v_from : Int32) (v_to : Int32) (v_sort : Int32) (v_worth : Int64) : Option (Int32 × Int32 × Int32 × Int64) := if (v_from : Int32) = (v_taped : Int32) then (fX12_next_L114 Fu a_tape v_taped v_from v_from v_sort 0 0) else (gd v_from 400 ((fX12_isSmall (a_tape (v_from : Int32).toNatClampNeg)).bind fun r3 => (if (r3 : Int32) = 0 then (gd v_from 400 ((fX12_isDigit (a_tape (v_from : Int32).toNatClampNeg)).bind fun r5 => (if (r5 : Int32) = 0 then (fX12_next_L114 Fu a_tape v_taped v_from v_from v_sort 0 3) else (fX12_next_L114 Fu a_tape v_taped v_from v_from v_sort 0 2)))) else (fX12_next_L114 Fu a_tape v_taped v_from v_from v_sort 0 1))))
set_option maxHeartbeats 4000000 in
set_option maxRecDepth 100000 in
theorem tX12_next_L46 {G : GT} {b : Nat} {o : Nat} {c0 : Hp} {n : Nat} (hw : e_wf (kM o) n) {v_thrown : Int32} {v_status : Int32} {a_refusals : Nat → Int32} {a_row : Nat → Int32} {a_images : Nat → Int32} {a_isKept : Nat → Int32} {v_fault : Int32} {v_bad : Int32} {v_nClauses : Int32} {a_nClause : Nat → Int32} {v_nCode : Int32} {a_nOp : Nat → Int32} {a_nArg : Nat → Int32} {v_nLeaves : Int32} {a_pile : Nat → Int32} {a_pileAt : Nat → Int32} {v_piled : Int32} {v_opened : Int32} {a_words : Nat → Int64} {a_headWords : Nat → Int64} {v_law : Int32} {a_set : Nat → Int64} {a_rest : Nat → Int64} {v_broken : Int32} {v_value : Int64} {v_sum : Int64} {a_chances : Nat → Int32} {a_votes : Nat → Int64} {a_costs : Nat → Int32} {a_table : Nat → Int64} {a_prices : Nat → Int32} {v_surely : Int64} {a_mostBy : Nat → Int64} {a_leastBy : Nat → Int64} {v_between : Int64} {v_steadyWays : Int32} {v_quashed : Int32} {v_but : Int32} {a_figures : Nat → Int32} {a_all : Nat → Int32} {a_lies : Nat → Int32} {a_since : Nat → Int32} {v_last : Int32} {v_state : Int64} {Fu : Nat} {a_tape : Nat → Int32} {v_taped : Int32} {v_from : Int32} {v_to : Int32} {v_sort : Int32} {v_worth : Int64} {R : Int32 × Int32 × Int32 × Int64} (hf : fX12_next_L46 Fu a_tape v_taped v_from v_to v_sort v_worth = some R) : E G b yX12_next cX12_next 1 none (e_rm 1 0 0) e_X0 (e_Z G b (pD none (e_ov (kM o) (wM G b o v_thrown v_status a_refusals a_row a_images a_isKept a_tape v_taped R.1 R.2.1 R.2.2.1 R.2.2.2 v_fault v_bad v_nClauses a_nClause v_nCode a_nOp a_nArg v_nLeaves a_pile a_pileAt v_piled v_opened a_words a_headWords v_law a_set a_rest v_broken v_value v_sum a_chances a_votes a_costs a_table a_prices v_surely a_mostBy a_leastBy v_between v_steadyWays v_quashed v_but a_figures a_all a_lies a_since v_last v_state) c0) n) 0 0) 46 [(0, .ref (b + o))] [] (e_ov (kM o) (wM G b o v_thrown v_status a_refusals a_row a_images a_isKept a_tape v_taped v_from v_to v_sort v_worth v_fault v_bad v_nClauses a_nClause v_nCode a_nOp a_nArg v_nLeaves a_pile a_pileAt v_piled v_opened a_words a_headWords v_law a_set a_rest v_broken v_value v_sum a_chances a_votes a_costs a_table a_prices v_surely a_mostBy a_leastBy v_between v_steadyWays v_quashed v_but a_figures a_all a_lies a_since v_last v_state) c0) n 0 0 := by
  unfold fX12_next_L46 at hf
  refine E.aload_n 0 dX12_next_46 rfl ?_
  refine E.aload_n 0 dX12_next_47 rfl ?_
  refine E.get hw 0 o dX12_next_48 flX12_201 rfl rfl rfl rfl ?_
  refine E.put (es' := (wM G b o v_thrown v_status a_refusals a_row a_images a_isKept a_tape v_taped v_from v_from v_sort v_worth v_fault v_bad v_nClauses a_nClause v_nCode a_nOp a_nArg v_nLeaves a_pile a_pileAt v_piled v_opened a_words a_headWords v_law a_set a_rest v_broken v_value v_sum a_chances a_votes a_costs a_table a_prices v_surely a_mostBy a_leastBy v_between v_steadyWays v_quashed v_but a_figures a_all a_lies a_since v_last v_state)) hw 0 o dX12_next_51 flX12_191 ftX12 rfl rfl rfl rfl rfl rfl (Nat.le_of_ble_eq_true rfl) rfl ?_
  refine E.aload_n 0 dX12_next_54 rfl ?_
  refine E.lconst (v := 0) dX12_next_55 (by decide) ?_
  refine E.put (es' := (wM G b o v_thrown v_status a_refusals a_row a_images a_isKept a_tape v_taped v_from v_from v_sort 0 v_fault v_bad v_nClauses a_nClause v_nCode a_nOp a_nArg v_nLeaves a_pile a_pileAt v_piled v_opened a_words a_headWords v_law a_set a_rest v_broken v_value v_sum a_chances a_votes a_costs a_table a_prices v_surely a_mostBy a_leastBy v_between v_steadyWays v_quashed v_but a_figures a_all a_lies a_since v_last v_state)) hw 0 o dX12_next_56 flX12_204 ftX12 rfl rfl rfl rfl rfl rfl (Nat.le_of_ble_eq_true rfl) rfl ?_
  refine E.aload_n 0 dX12_next_59 rfl ?_
  refine E.aload_n 0 dX12_next_60 rfl ?_
  refine E.get hw 0 o dX12_next_61 flX12_201 rfl rfl rfl rfl ?_
  refine E.aload_n 0 dX12_next_64 rfl ?_
  refine E.get hw 0 o dX12_next_65 flX12_184 rfl rfl rfl rfl ?_
  refine E.icmp_ne dX12_next_68 (fun h => ?_) (fun h => ?_)
  · have hf := e_iff hf h
    refine E.aload_n 0 dX12_next_75 rfl ?_
    refine E.get hw 0 o dX12_next_76 flX12_23 rfl rfl rfl rfl ?_
    refine E.aload_n 0 dX12_next_79 rfl ?_
    refine E.get hw 0 o dX12_next_80 flX12_201 rfl rfl rfl rfl ?_
    obtain ⟨g2, hf⟩ := gd_some hf
    refine E.iald hw 5 (o + 5) dX12_next_83 rfl rfl g2 ?_
    obtain ⟨r3, hc3, hf⟩ := e_bind hf
    refine E.callSD [.ref (b + o)] dX12_next_84 mlX12_208 (mX12_isSmall hc3) ⟨Nat.le_of_ble_eq_true rfl, Nat.le_of_ble_eq_true rfl⟩ rfl rfl (Nat.le_of_ble_eq_true rfl) ⟨Nat.le_refl _, Nat.le_refl _⟩ rfl ?_
    refine E.if_eq dX12_next_87 (fun h => ?_) (fun h => ?_)
    · have hf := e_ift hf h
      refine E.aload_n 0 dX12_next_94 rfl ?_
      refine E.get hw 0 o dX12_next_95 flX12_23 rfl rfl rfl rfl ?_
      refine E.aload_n 0 dX12_next_98 rfl ?_
      refine E.get hw 0 o dX12_next_99 flX12_201 rfl rfl rfl rfl ?_
      obtain ⟨g4, hf⟩ := gd_some hf
      refine E.iald hw 5 (o + 5) dX12_next_102 rfl rfl g4 ?_
      obtain ⟨r5, hc5, hf⟩ := e_bind hf
      refine E.callSD [.ref (b + o)] dX12_next_103 mlX12_211 (mX12_isDigit hc5) ⟨Nat.le_of_ble_eq_true rfl, Nat.le_of_ble_eq_true rfl⟩ rfl rfl (Nat.le_of_ble_eq_true rfl) ⟨Nat.le_refl _, Nat.le_refl _⟩ rfl ?_
      refine E.if_eq dX12_next_106 (fun h => ?_) (fun h => ?_)
      · have hf := e_ift hf h
        refine E.iconst (v := 3) dX12_next_113 (by decide) ?_
        exact tX12_next_L114 hw hf
      · have hf := e_iff hf h
        refine E.iconst (v := 2) dX12_next_109 (by decide) ?_
        refine E.goto dX12_next_110 ?_
        exact tX12_next_L114 hw hf
    · have hf := e_iff hf h
      refine E.iconst (v := 1) dX12_next_90 (by decide) ?_
      refine E.goto dX12_next_91 ?_
      exact tX12_next_L114 hw hf
  · have hf := e_ift hf h
    refine E.iconst (v := 0) dX12_next_71 (by decide) ?_
    refine E.goto dX12_next_72 ?_
    exact tX12_next_L114 hw hf
def fX12_next_L8 (Fu : Nat) : Nat → (Nat → Int32) → Int32 → Int32 → Int32 → Int32 → Int64 → Option (Int32 × Int32 × Int32 × Int64)
  | 0, _, _, _, _, _, _ => none
  | k + 1, a_tape, v_taped, v_from, v_to, v_sort, v_worth => if (v_taped : Int32) ≤ (v_from : Int32) then (fX12_next_L46 Fu a_tape v_taped v_from v_to v_sort v_worth) else (gd v_from 400 (if ((a_tape (v_from : Int32).toNatClampNeg) : Int32) = (32 : Int32) then ((fX12_next_L8 Fu k) a_tape v_taped (v_from + 1) v_to v_sort v_worth) else (fX12_next_L46 Fu a_tape v_taped v_from v_to v_sort v_worth)))
set_option maxHeartbeats 4000000 in
set_option maxRecDepth 100000 in
theorem tX12_next_L8 {G : GT} {b : Nat} {o : Nat} {c0 : Hp} {n : Nat} (hw : e_wf (kM o) n) {v_thrown : Int32} {v_status : Int32} {a_refusals : Nat → Int32} {a_row : Nat → Int32} {a_images : Nat → Int32} {a_isKept : Nat → Int32} {v_fault : Int32} {v_bad : Int32} {v_nClauses : Int32} {a_nClause : Nat → Int32} {v_nCode : Int32} {a_nOp : Nat → Int32} {a_nArg : Nat → Int32} {v_nLeaves : Int32} {a_pile : Nat → Int32} {a_pileAt : Nat → Int32} {v_piled : Int32} {v_opened : Int32} {a_words : Nat → Int64} {a_headWords : Nat → Int64} {v_law : Int32} {a_set : Nat → Int64} {a_rest : Nat → Int64} {v_broken : Int32} {v_value : Int64} {v_sum : Int64} {a_chances : Nat → Int32} {a_votes : Nat → Int64} {a_costs : Nat → Int32} {a_table : Nat → Int64} {a_prices : Nat → Int32} {v_surely : Int64} {a_mostBy : Nat → Int64} {a_leastBy : Nat → Int64} {v_between : Int64} {v_steadyWays : Int32} {v_quashed : Int32} {v_but : Int32} {a_figures : Nat → Int32} {a_all : Nat → Int32} {a_lies : Nat → Int32} {a_since : Nat → Int32} {v_last : Int32} {v_state : Int64} {Fu : Nat} : ∀ (k : Nat) {a_tape : Nat → Int32} {v_taped : Int32} {v_from : Int32} {v_to : Int32} {v_sort : Int32} {v_worth : Int64} {R : Int32 × Int32 × Int32 × Int64}, fX12_next_L8 Fu k a_tape v_taped v_from v_to v_sort v_worth = some R → E G b yX12_next cX12_next 1 none (e_rm 1 0 0) e_X0 (e_Z G b (pD none (e_ov (kM o) (wM G b o v_thrown v_status a_refusals a_row a_images a_isKept a_tape v_taped R.1 R.2.1 R.2.2.1 R.2.2.2 v_fault v_bad v_nClauses a_nClause v_nCode a_nOp a_nArg v_nLeaves a_pile a_pileAt v_piled v_opened a_words a_headWords v_law a_set a_rest v_broken v_value v_sum a_chances a_votes a_costs a_table a_prices v_surely a_mostBy a_leastBy v_between v_steadyWays v_quashed v_but a_figures a_all a_lies a_since v_last v_state) c0) n) 0 0) 8 [(0, .ref (b + o))] [] (e_ov (kM o) (wM G b o v_thrown v_status a_refusals a_row a_images a_isKept a_tape v_taped v_from v_to v_sort v_worth v_fault v_bad v_nClauses a_nClause v_nCode a_nOp a_nArg v_nLeaves a_pile a_pileAt v_piled v_opened a_words a_headWords v_law a_set a_rest v_broken v_value v_sum a_chances a_votes a_costs a_table a_prices v_surely a_mostBy a_leastBy v_between v_steadyWays v_quashed v_but a_figures a_all a_lies a_since v_last v_state) c0) n 0 0 := by
  intro k
  induction k with
  | zero =>
    intro _ _ _ _ _ _ _ hf
    have hf : (none : Option (Int32 × Int32 × Int32 × Int64)) = some _ := hf
    cases hf
  | succ k ih =>
    intro a_tape v_taped v_from v_to v_sort v_worth R hf
    rw [fX12_next_L8] at hf
    refine E.aload_n 0 dX12_next_8 rfl ?_
    refine E.get hw 0 o dX12_next_9 flX12_201 rfl rfl rfl rfl ?_
    refine E.aload_n 0 dX12_next_12 rfl ?_
    refine E.get hw 0 o dX12_next_13 flX12_184 rfl rfl rfl rfl ?_
    refine E.icmp_ge dX12_next_16 (fun h => ?_) (fun h => ?_)
    · have hf := e_ift hf h
      exact tX12_next_L46 hw hf
    · have hf := e_iff hf h
      refine E.aload_n 0 dX12_next_19 rfl ?_
      refine E.get hw 0 o dX12_next_20 flX12_23 rfl rfl rfl rfl ?_
      refine E.aload_n 0 dX12_next_23 rfl ?_
      refine E.get hw 0 o dX12_next_24 flX12_201 rfl rfl rfl rfl ?_
      obtain ⟨g1, hf⟩ := gd_some hf
      refine E.iald hw 5 (o + 5) dX12_next_27 rfl rfl g1 ?_
      refine E.bipush (v := 32) dX12_next_28 (by decide) ?_
      refine E.icmp_ne dX12_next_30 (fun h => ?_) (fun h => ?_)
      · have hf := e_iff hf h
        exact tX12_next_L46 hw hf
      · have hf := e_ift hf h
        refine E.aload_n 0 dX12_next_33 rfl ?_
        refine E.dup dX12_next_34 rfl ?_
        refine E.get hw 0 o dX12_next_35 flX12_201 rfl rfl rfl rfl ?_
        refine E.iconst (v := 1) dX12_next_38 (by decide) ?_
        refine E.iadd dX12_next_39 ?_
        refine E.put (es' := (wM G b o v_thrown v_status a_refusals a_row a_images a_isKept a_tape v_taped (v_from + 1) v_to v_sort v_worth v_fault v_bad v_nClauses a_nClause v_nCode a_nOp a_nArg v_nLeaves a_pile a_pileAt v_piled v_opened a_words a_headWords v_law a_set a_rest v_broken v_value v_sum a_chances a_votes a_costs a_table a_prices v_surely a_mostBy a_leastBy v_between v_steadyWays v_quashed v_but a_figures a_all a_lies a_since v_last v_state)) hw 0 o dX12_next_40 flX12_201 ftX12 rfl rfl rfl rfl rfl rfl (Nat.le_of_ble_eq_true rfl) rfl ?_
        refine E.goto dX12_next_43 ?_
        exact ih hf
def fX12_next (Fu : Nat) (a_tape : Nat → Int32) (v_taped : Int32) (v_from : Int32) (v_to : Int32) (v_sort : Int32) (v_worth : Int64) : Option (Int32 × Int32 × Int32 × Int64) := fX12_next_L8 Fu Fu a_tape v_taped v_to v_to v_sort v_worth
set_option maxHeartbeats 4000000 in
set_option maxRecDepth 100000 in
theorem tX12_next {G : GT} {b : Nat} {o : Nat} {c0 : Hp} {n : Nat} (hw : e_wf (kM o) n) {v_thrown : Int32} {v_status : Int32} {a_refusals : Nat → Int32} {a_row : Nat → Int32} {a_images : Nat → Int32} {a_isKept : Nat → Int32} {v_fault : Int32} {v_bad : Int32} {v_nClauses : Int32} {a_nClause : Nat → Int32} {v_nCode : Int32} {a_nOp : Nat → Int32} {a_nArg : Nat → Int32} {v_nLeaves : Int32} {a_pile : Nat → Int32} {a_pileAt : Nat → Int32} {v_piled : Int32} {v_opened : Int32} {a_words : Nat → Int64} {a_headWords : Nat → Int64} {v_law : Int32} {a_set : Nat → Int64} {a_rest : Nat → Int64} {v_broken : Int32} {v_value : Int64} {v_sum : Int64} {a_chances : Nat → Int32} {a_votes : Nat → Int64} {a_costs : Nat → Int32} {a_table : Nat → Int64} {a_prices : Nat → Int32} {v_surely : Int64} {a_mostBy : Nat → Int64} {a_leastBy : Nat → Int64} {v_between : Int64} {v_steadyWays : Int32} {v_quashed : Int32} {v_but : Int32} {a_figures : Nat → Int32} {a_all : Nat → Int32} {a_lies : Nat → Int32} {a_since : Nat → Int32} {v_last : Int32} {v_state : Int64} {Fu : Nat} {a_tape : Nat → Int32} {v_taped : Int32} {v_from : Int32} {v_to : Int32} {v_sort : Int32} {v_worth : Int64} {R : Int32 × Int32 × Int32 × Int64} (hf : fX12_next Fu a_tape v_taped v_from v_to v_sort v_worth = some R) : E G b yX12_next cX12_next 1 none (e_rm 1 0 0) e_X0 (e_Z G b (pD none (e_ov (kM o) (wM G b o v_thrown v_status a_refusals a_row a_images a_isKept a_tape v_taped R.1 R.2.1 R.2.2.1 R.2.2.2 v_fault v_bad v_nClauses a_nClause v_nCode a_nOp a_nArg v_nLeaves a_pile a_pileAt v_piled v_opened a_words a_headWords v_law a_set a_rest v_broken v_value v_sum a_chances a_votes a_costs a_table a_prices v_surely a_mostBy a_leastBy v_between v_steadyWays v_quashed v_but a_figures a_all a_lies a_since v_last v_state) c0) n) 0 0) 0 [(0, .ref (b + o))] [] (e_ov (kM o) (wM G b o v_thrown v_status a_refusals a_row a_images a_isKept a_tape v_taped v_from v_to v_sort v_worth v_fault v_bad v_nClauses a_nClause v_nCode a_nOp a_nArg v_nLeaves a_pile a_pileAt v_piled v_opened a_words a_headWords v_law a_set a_rest v_broken v_value v_sum a_chances a_votes a_costs a_table a_prices v_surely a_mostBy a_leastBy v_between v_steadyWays v_quashed v_but a_figures a_all a_lies a_since v_last v_state) c0) n 0 0 := by
  unfold fX12_next at hf
  refine E.aload_n 0 dX12_next_0 rfl ?_
  refine E.aload_n 0 dX12_next_1 rfl ?_
  refine E.get hw 0 o dX12_next_2 flX12_191 rfl rfl rfl rfl ?_
  refine E.put (es' := (wM G b o v_thrown v_status a_refusals a_row a_images a_isKept a_tape v_taped v_to v_to v_sort v_worth v_fault v_bad v_nClauses a_nClause v_nCode a_nOp a_nArg v_nLeaves a_pile a_pileAt v_piled v_opened a_words a_headWords v_law a_set a_rest v_broken v_value v_sum a_chances a_votes a_costs a_table a_prices v_surely a_mostBy a_leastBy v_between v_steadyWays v_quashed v_but a_figures a_all a_lies a_since v_last v_state)) hw 0 o dX12_next_5 flX12_201 ftX12 rfl rfl rfl rfl rfl rfl (Nat.le_of_ble_eq_true rfl) rfl ?_
  exact tX12_next_L8 hw _ hf
set_option maxRecDepth 100000 in
theorem mX12_next {G : GT} {b : Nat} {o : Nat} {c0 : Hp} {n : Nat} (hw : e_wf (kM o) n) {v_thrown : Int32} {v_status : Int32} {a_refusals : Nat → Int32} {a_row : Nat → Int32} {a_images : Nat → Int32} {a_isKept : Nat → Int32} {v_fault : Int32} {v_bad : Int32} {v_nClauses : Int32} {a_nClause : Nat → Int32} {v_nCode : Int32} {a_nOp : Nat → Int32} {a_nArg : Nat → Int32} {v_nLeaves : Int32} {a_pile : Nat → Int32} {a_pileAt : Nat → Int32} {v_piled : Int32} {v_opened : Int32} {a_words : Nat → Int64} {a_headWords : Nat → Int64} {v_law : Int32} {a_set : Nat → Int64} {a_rest : Nat → Int64} {v_broken : Int32} {v_value : Int64} {v_sum : Int64} {a_chances : Nat → Int32} {a_votes : Nat → Int64} {a_costs : Nat → Int32} {a_table : Nat → Int64} {a_prices : Nat → Int32} {v_surely : Int64} {a_mostBy : Nat → Int64} {a_leastBy : Nat → Int64} {v_between : Int64} {v_steadyWays : Int32} {v_quashed : Int32} {v_but : Int32} {a_figures : Nat → Int32} {a_all : Nat → Int32} {a_lies : Nat → Int32} {a_since : Nat → Int32} {v_last : Int32} {v_state : Int64} {Fu : Nat} {a_tape : Nat → Int32} {v_taped : Int32} {v_from : Int32} {v_to : Int32} {v_sort : Int32} {v_worth : Int64} {R : Int32 × Int32 × Int32 × Int64} (hf : fX12_next Fu a_tape v_taped v_from v_to v_sort v_worth = some R) : e_C G b yX12_next cX12_next 1 none 1 0 0 [.ref (b + o)] (e_ov (kM o) (wM G b o v_thrown v_status a_refusals a_row a_images a_isKept a_tape v_taped v_from v_to v_sort v_worth v_fault v_bad v_nClauses a_nClause v_nCode a_nOp a_nArg v_nLeaves a_pile a_pileAt v_piled v_opened a_words a_headWords v_law a_set a_rest v_broken v_value v_sum a_chances a_votes a_costs a_table a_prices v_surely a_mostBy a_leastBy v_between v_steadyWays v_quashed v_but a_figures a_all a_lies a_since v_last v_state) c0) n (pD none (e_ov (kM o) (wM G b o v_thrown v_status a_refusals a_row a_images a_isKept a_tape v_taped R.1 R.2.1 R.2.2.1 R.2.2.2 v_fault v_bad v_nClauses a_nClause v_nCode a_nOp a_nArg v_nLeaves a_pile a_pileAt v_piled v_opened a_words a_headWords v_law a_set a_rest v_broken v_value v_sum a_chances a_votes a_costs a_table a_prices v_surely a_mostBy a_leastBy v_between v_steadyWays v_quashed v_but a_figures a_all a_lies a_since v_last v_state) c0) n) := e_C.of (by decide) (Nat.le_of_ble_eq_true rfl) (tX12_next hw hf)
def fX12_begin (Fu : Nat) (a_tape : Nat → Int32) (v_taped : Int32) (v_from : Int32) (v_to : Int32) (v_sort : Int32) (v_worth : Int64) (v_fault : Int32) (v_bad : Int32) : Option (Int32 × Int32 × Int32 × Int64 × Int32 × Int32) := (fX12_next Fu a_tape v_taped v_from 0 v_sort v_worth).bind fun r1 => (some (r1.1, r1.2.1, r1.2.2.1, r1.2.2.2, (-1 : Int32), 0))
set_option maxHeartbeats 4000000 in
set_option maxRecDepth 100000 in
theorem tX12_begin {G : GT} {b : Nat} {o : Nat} {c0 : Hp} {n : Nat} (hw : e_wf (kM o) n) {v_thrown : Int32} {v_status : Int32} {a_refusals : Nat → Int32} {a_row : Nat → Int32} {a_images : Nat → Int32} {a_isKept : Nat → Int32} {v_nClauses : Int32} {a_nClause : Nat → Int32} {v_nCode : Int32} {a_nOp : Nat → Int32} {a_nArg : Nat → Int32} {v_nLeaves : Int32} {a_pile : Nat → Int32} {a_pileAt : Nat → Int32} {v_piled : Int32} {v_opened : Int32} {a_words : Nat → Int64} {a_headWords : Nat → Int64} {v_law : Int32} {a_set : Nat → Int64} {a_rest : Nat → Int64} {v_broken : Int32} {v_value : Int64} {v_sum : Int64} {a_chances : Nat → Int32} {a_votes : Nat → Int64} {a_costs : Nat → Int32} {a_table : Nat → Int64} {a_prices : Nat → Int32} {v_surely : Int64} {a_mostBy : Nat → Int64} {a_leastBy : Nat → Int64} {v_between : Int64} {v_steadyWays : Int32} {v_quashed : Int32} {v_but : Int32} {a_figures : Nat → Int32} {a_all : Nat → Int32} {a_lies : Nat → Int32} {a_since : Nat → Int32} {v_last : Int32} {v_state : Int64} {Fu : Nat} {a_tape : Nat → Int32} {v_taped : Int32} {v_from : Int32} {v_to : Int32} {v_sort : Int32} {v_worth : Int64} {v_fault : Int32} {v_bad : Int32} {R : Int32 × Int32 × Int32 × Int64 × Int32 × Int32} (hf : fX12_begin Fu a_tape v_taped v_from v_to v_sort v_worth v_fault v_bad = some R) : E G b yX12_begin cX12_begin 1 none (e_rm 2 0 0) e_X0 (e_Z G b (pD none (e_ov (kM o) (wM G b o v_thrown v_status a_refusals a_row a_images a_isKept a_tape v_taped R.1 R.2.1 R.2.2.1 R.2.2.2.1 R.2.2.2.2.1 R.2.2.2.2.2 v_nClauses a_nClause v_nCode a_nOp a_nArg v_nLeaves a_pile a_pileAt v_piled v_opened a_words a_headWords v_law a_set a_rest v_broken v_value v_sum a_chances a_votes a_costs a_table a_prices v_surely a_mostBy a_leastBy v_between v_steadyWays v_quashed v_but a_figures a_all a_lies a_since v_last v_state) c0) n) 0 0) 0 [(0, .ref (b + o))] [] (e_ov (kM o) (wM G b o v_thrown v_status a_refusals a_row a_images a_isKept a_tape v_taped v_from v_to v_sort v_worth v_fault v_bad v_nClauses a_nClause v_nCode a_nOp a_nArg v_nLeaves a_pile a_pileAt v_piled v_opened a_words a_headWords v_law a_set a_rest v_broken v_value v_sum a_chances a_votes a_costs a_table a_prices v_surely a_mostBy a_leastBy v_between v_steadyWays v_quashed v_but a_figures a_all a_lies a_since v_last v_state) c0) n 0 0 := by
  unfold fX12_begin at hf
  refine E.aload_n 0 dX12_begin_0 rfl ?_
  refine E.iconst (v := 0) dX12_begin_1 (by decide) ?_
  refine E.put (es' := (wM G b o v_thrown v_status a_refusals a_row a_images a_isKept a_tape v_taped v_from 0 v_sort v_worth v_fault v_bad v_nClauses a_nClause v_nCode a_nOp a_nArg v_nLeaves a_pile a_pileAt v_piled v_opened a_words a_headWords v_law a_set a_rest v_broken v_value v_sum a_chances a_votes a_costs a_table a_prices v_surely a_mostBy a_leastBy v_between v_steadyWays v_quashed v_but a_figures a_all a_lies a_since v_last v_state)) hw 0 o dX12_begin_2 flX12_191 ftX12 rfl rfl rfl rfl rfl rfl (Nat.le_of_ble_eq_true rfl) rfl ?_
  refine E.aload_n 0 dX12_begin_5 rfl ?_
  refine E.iconst (v := 0) dX12_begin_6 (by decide) ?_
  refine E.put (es' := (wM G b o v_thrown v_status a_refusals a_row a_images a_isKept a_tape v_taped v_from 0 v_sort v_worth v_fault 0 v_nClauses a_nClause v_nCode a_nOp a_nArg v_nLeaves a_pile a_pileAt v_piled v_opened a_words a_headWords v_law a_set a_rest v_broken v_value v_sum a_chances a_votes a_costs a_table a_prices v_surely a_mostBy a_leastBy v_between v_steadyWays v_quashed v_but a_figures a_all a_lies a_since v_last v_state)) hw 0 o dX12_begin_7 flX12_194 ftX12 rfl rfl rfl rfl rfl rfl (Nat.le_of_ble_eq_true rfl) rfl ?_
  refine E.aload_n 0 dX12_begin_10 rfl ?_
  refine E.iconst (v := -1) dX12_begin_11 (by decide) ?_
  refine E.put (es' := (wM G b o v_thrown v_status a_refusals a_row a_images a_isKept a_tape v_taped v_from 0 v_sort v_worth (-1 : Int32) 0 v_nClauses a_nClause v_nCode a_nOp a_nArg v_nLeaves a_pile a_pileAt v_piled v_opened a_words a_headWords v_law a_set a_rest v_broken v_value v_sum a_chances a_votes a_costs a_table a_prices v_surely a_mostBy a_leastBy v_between v_steadyWays v_quashed v_but a_figures a_all a_lies a_since v_last v_state)) hw 0 o dX12_begin_12 flX12_26 ftX12 rfl rfl rfl rfl rfl rfl (Nat.le_of_ble_eq_true rfl) rfl ?_
  refine E.aload_n 0 dX12_begin_15 rfl ?_
  obtain ⟨r1, hc1, hf⟩ := e_bind hf
  refine E.callVD [] dX12_begin_16 mlX12_198 ⟨hw.sub (p := 0) rfl, e_ov_get hw.1 (p := 0) rfl rfl⟩ rfl rfl (mX12_next hw hc1) ⟨Nat.le_of_ble_eq_true rfl, Nat.le_of_ble_eq_true rfl⟩ rfl rfl (Nat.le_of_ble_eq_true rfl) ⟨Nat.le_refl _, Nat.le_refl _⟩ rfl ?_
  cases hf
  exact E.vret dX12_begin_19 (Nat.le_refl _) (Nat.le_refl _) (pD_rf _ _ _)
set_option maxRecDepth 100000 in
theorem mX12_begin {G : GT} {b : Nat} {o : Nat} {c0 : Hp} {n : Nat} (hw : e_wf (kM o) n) {v_thrown : Int32} {v_status : Int32} {a_refusals : Nat → Int32} {a_row : Nat → Int32} {a_images : Nat → Int32} {a_isKept : Nat → Int32} {v_nClauses : Int32} {a_nClause : Nat → Int32} {v_nCode : Int32} {a_nOp : Nat → Int32} {a_nArg : Nat → Int32} {v_nLeaves : Int32} {a_pile : Nat → Int32} {a_pileAt : Nat → Int32} {v_piled : Int32} {v_opened : Int32} {a_words : Nat → Int64} {a_headWords : Nat → Int64} {v_law : Int32} {a_set : Nat → Int64} {a_rest : Nat → Int64} {v_broken : Int32} {v_value : Int64} {v_sum : Int64} {a_chances : Nat → Int32} {a_votes : Nat → Int64} {a_costs : Nat → Int32} {a_table : Nat → Int64} {a_prices : Nat → Int32} {v_surely : Int64} {a_mostBy : Nat → Int64} {a_leastBy : Nat → Int64} {v_between : Int64} {v_steadyWays : Int32} {v_quashed : Int32} {v_but : Int32} {a_figures : Nat → Int32} {a_all : Nat → Int32} {a_lies : Nat → Int32} {a_since : Nat → Int32} {v_last : Int32} {v_state : Int64} {Fu : Nat} {a_tape : Nat → Int32} {v_taped : Int32} {v_from : Int32} {v_to : Int32} {v_sort : Int32} {v_worth : Int64} {v_fault : Int32} {v_bad : Int32} {R : Int32 × Int32 × Int32 × Int64 × Int32 × Int32} (hf : fX12_begin Fu a_tape v_taped v_from v_to v_sort v_worth v_fault v_bad = some R) : e_C G b yX12_begin cX12_begin 1 none 2 0 0 [.ref (b + o)] (e_ov (kM o) (wM G b o v_thrown v_status a_refusals a_row a_images a_isKept a_tape v_taped v_from v_to v_sort v_worth v_fault v_bad v_nClauses a_nClause v_nCode a_nOp a_nArg v_nLeaves a_pile a_pileAt v_piled v_opened a_words a_headWords v_law a_set a_rest v_broken v_value v_sum a_chances a_votes a_costs a_table a_prices v_surely a_mostBy a_leastBy v_between v_steadyWays v_quashed v_but a_figures a_all a_lies a_since v_last v_state) c0) n (pD none (e_ov (kM o) (wM G b o v_thrown v_status a_refusals a_row a_images a_isKept a_tape v_taped R.1 R.2.1 R.2.2.1 R.2.2.2.1 R.2.2.2.2.1 R.2.2.2.2.2 v_nClauses a_nClause v_nCode a_nOp a_nArg v_nLeaves a_pile a_pileAt v_piled v_opened a_words a_headWords v_law a_set a_rest v_broken v_value v_sum a_chances a_votes a_costs a_table a_prices v_surely a_mostBy a_leastBy v_between v_steadyWays v_quashed v_but a_figures a_all a_lies a_since v_last v_state) c0) n) := e_C.of (by decide) (Nat.le_of_ble_eq_true rfl) (tX12_begin hw hf)
