def fX12_isWord_L21 (v_sort : Int32) (v_worth : Int64) : Option (Int32) := some (0)
set_option maxHeartbeats 4000000 in
set_option maxRecDepth 100000 in
theorem tX12_isWord_L21 {G : GT} {b : Nat} {o : Nat} {c0 : Hp} {n : Nat} (hw : e_wf (kM o) n) {v_thrown : Int32} {v_status : Int32} {a_refusals : Nat → Int32} {a_row : Nat → Int32} {a_images : Nat → Int32} {a_isKept : Nat → Int32} {a_tape : Nat → Int32} {v_taped : Int32} {v_from : Int32} {v_to : Int32} {v_fault : Int32} {v_bad : Int32} {v_nClauses : Int32} {a_nClause : Nat → Int32} {v_nCode : Int32} {a_nOp : Nat → Int32} {a_nArg : Nat → Int32} {v_nLeaves : Int32} {a_pile : Nat → Int32} {a_pileAt : Nat → Int32} {v_piled : Int32} {v_opened : Int32} {a_words : Nat → Int64} {a_headWords : Nat → Int64} {v_law : Int32} {a_set : Nat → Int64} {a_rest : Nat → Int64} {v_broken : Int32} {v_value : Int64} {v_sum : Int64} {a_chances : Nat → Int32} {a_votes : Nat → Int64} {a_costs : Nat → Int32} {a_table : Nat → Int64} {a_prices : Nat → Int32} {v_surely : Int64} {a_mostBy : Nat → Int64} {a_leastBy : Nat → Int64} {v_between : Int64} {v_steadyWays : Int32} {v_quashed : Int32} {v_but : Int32} {a_figures : Nat → Int32} {a_all : Nat → Int32} {a_lies : Nat → Int32} {a_since : Nat → Int32} {v_last : Int32} {v_state : Int64} {v_sort : Int32} {v_worth : Int64} {R : Int32} (hf : fX12_isWord_L21 v_sort v_worth = some R) : E G b yX12_isWord cX12_isWord 3 (some .boolean) (e_rm 0 0 0) e_X0 (e_Z G b (pD (some (.int R)) (e_ov (kM o) (wM G b o v_thrown v_status a_refusals a_row a_images a_isKept a_tape v_taped v_from v_to v_sort v_worth v_fault v_bad v_nClauses a_nClause v_nCode a_nOp a_nArg v_nLeaves a_pile a_pileAt v_piled v_opened a_words a_headWords v_law a_set a_rest v_broken v_value v_sum a_chances a_votes a_costs a_table a_prices v_surely a_mostBy a_leastBy v_between v_steadyWays v_quashed v_but a_figures a_all a_lies a_since v_last v_state) c0) n) 0 0) 21 [] [] (e_ov (kM o) (wM G b o v_thrown v_status a_refusals a_row a_images a_isKept a_tape v_taped v_from v_to v_sort v_worth v_fault v_bad v_nClauses a_nClause v_nCode a_nOp a_nArg v_nLeaves a_pile a_pileAt v_piled v_opened a_words a_headWords v_law a_set a_rest v_broken v_value v_sum a_chances a_votes a_costs a_table a_prices v_surely a_mostBy a_leastBy v_between v_steadyWays v_quashed v_but a_figures a_all a_lies a_since v_last v_state) c0) n 0 0 := by
  unfold fX12_isWord_L21 at hf
  refine E.iconst (v := 0) dX12_isWord_21 (by decide) ?_
  cases hf
  exact E.zret dX12_isWord_22 rfl (Nat.le_refl _) (Nat.le_refl _) (pD_rf _ _ _)
def fX12_isWord (v_sort : Int32) (v_worth : Int64) (x1 : Int64) : Option (Int32) := if (v_sort : Int32) = (1 : Int32) then (if v_worth = x1 then (some (1)) else (fX12_isWord_L21 v_sort v_worth)) else (fX12_isWord_L21 v_sort v_worth)
set_option maxHeartbeats 4000000 in
set_option maxRecDepth 100000 in
theorem tX12_isWord {G : GT} {b : Nat} {o : Nat} {c0 : Hp} {n : Nat} (hw : e_wf (kM o) n) {v_thrown : Int32} {v_status : Int32} {a_refusals : Nat → Int32} {a_row : Nat → Int32} {a_images : Nat → Int32} {a_isKept : Nat → Int32} {a_tape : Nat → Int32} {v_taped : Int32} {v_from : Int32} {v_to : Int32} {v_fault : Int32} {v_bad : Int32} {v_nClauses : Int32} {a_nClause : Nat → Int32} {v_nCode : Int32} {a_nOp : Nat → Int32} {a_nArg : Nat → Int32} {v_nLeaves : Int32} {a_pile : Nat → Int32} {a_pileAt : Nat → Int32} {v_piled : Int32} {v_opened : Int32} {a_words : Nat → Int64} {a_headWords : Nat → Int64} {v_law : Int32} {a_set : Nat → Int64} {a_rest : Nat → Int64} {v_broken : Int32} {v_value : Int64} {v_sum : Int64} {a_chances : Nat → Int32} {a_votes : Nat → Int64} {a_costs : Nat → Int32} {a_table : Nat → Int64} {a_prices : Nat → Int32} {v_surely : Int64} {a_mostBy : Nat → Int64} {a_leastBy : Nat → Int64} {v_between : Int64} {v_steadyWays : Int32} {v_quashed : Int32} {v_but : Int32} {a_figures : Nat → Int32} {a_all : Nat → Int32} {a_lies : Nat → Int32} {a_since : Nat → Int32} {v_last : Int32} {v_state : Int64} {v_sort : Int32} {v_worth : Int64} {x1 : Int64} {R : Int32} (hf : fX12_isWord v_sort v_worth x1 = some R) : E G b yX12_isWord cX12_isWord 3 (some .boolean) (e_rm 0 0 0) e_X0 (e_Z G b (pD (some (.int R)) (e_ov (kM o) (wM G b o v_thrown v_status a_refusals a_row a_images a_isKept a_tape v_taped v_from v_to v_sort v_worth v_fault v_bad v_nClauses a_nClause v_nCode a_nOp a_nArg v_nLeaves a_pile a_pileAt v_piled v_opened a_words a_headWords v_law a_set a_rest v_broken v_value v_sum a_chances a_votes a_costs a_table a_prices v_surely a_mostBy a_leastBy v_between v_steadyWays v_quashed v_but a_figures a_all a_lies a_since v_last v_state) c0) n) 0 0) 0 [(0, .ref (b + o)), (1, .long x1)] [] (e_ov (kM o) (wM G b o v_thrown v_status a_refusals a_row a_images a_isKept a_tape v_taped v_from v_to v_sort v_worth v_fault v_bad v_nClauses a_nClause v_nCode a_nOp a_nArg v_nLeaves a_pile a_pileAt v_piled v_opened a_words a_headWords v_law a_set a_rest v_broken v_value v_sum a_chances a_votes a_costs a_table a_prices v_surely a_mostBy a_leastBy v_between v_steadyWays v_quashed v_but a_figures a_all a_lies a_since v_last v_state) c0) n 0 0 := by
  unfold fX12_isWord at hf
  refine E.aload_n 0 dX12_isWord_0 rfl ?_
  refine E.get hw 0 o dX12_isWord_1 flX12_214 rfl rfl rfl rfl ?_
  refine E.iconst (v := 1) dX12_isWord_4 (by decide) ?_
  refine E.icmp_ne dX12_isWord_5 (fun h => ?_) (fun h => ?_)
  · have hf := e_iff hf h
    refine E.locals [] rfl ?_
    exact tX12_isWord_L21 hw hf
  · have hf := e_ift hf h
    refine E.aload_n 0 dX12_isWord_8 rfl ?_
    refine E.get hw 0 o dX12_isWord_9 flX12_204 rfl rfl rfl rfl ?_
    refine E.lload_n 1 dX12_isWord_12 rfl ?_
    refine E.lc_ne dX12_isWord_13 dX12_isWord_14 (fun h => ?_) (fun h => ?_)
    · have hf := e_iff hf h
      refine E.locals [] rfl ?_
      exact tX12_isWord_L21 hw hf
    · have hf := e_ift hf h
      refine E.iconst (v := 1) dX12_isWord_17 (by decide) ?_
      refine E.goto dX12_isWord_18 ?_
      cases hf
      exact E.zret dX12_isWord_22 rfl (Nat.le_refl _) (Nat.le_refl _) (pD_rf _ _ _)
set_option maxRecDepth 100000 in
theorem mX12_isWord {G : GT} {b : Nat} {o : Nat} {c0 : Hp} {n : Nat} (hw : e_wf (kM o) n) {v_thrown : Int32} {v_status : Int32} {a_refusals : Nat → Int32} {a_row : Nat → Int32} {a_images : Nat → Int32} {a_isKept : Nat → Int32} {a_tape : Nat → Int32} {v_taped : Int32} {v_from : Int32} {v_to : Int32} {v_fault : Int32} {v_bad : Int32} {v_nClauses : Int32} {a_nClause : Nat → Int32} {v_nCode : Int32} {a_nOp : Nat → Int32} {a_nArg : Nat → Int32} {v_nLeaves : Int32} {a_pile : Nat → Int32} {a_pileAt : Nat → Int32} {v_piled : Int32} {v_opened : Int32} {a_words : Nat → Int64} {a_headWords : Nat → Int64} {v_law : Int32} {a_set : Nat → Int64} {a_rest : Nat → Int64} {v_broken : Int32} {v_value : Int64} {v_sum : Int64} {a_chances : Nat → Int32} {a_votes : Nat → Int64} {a_costs : Nat → Int32} {a_table : Nat → Int64} {a_prices : Nat → Int32} {v_surely : Int64} {a_mostBy : Nat → Int64} {a_leastBy : Nat → Int64} {v_between : Int64} {v_steadyWays : Int32} {v_quashed : Int32} {v_but : Int32} {a_figures : Nat → Int32} {a_all : Nat → Int32} {a_lies : Nat → Int32} {a_since : Nat → Int32} {v_last : Int32} {v_state : Int64} {v_sort : Int32} {v_worth : Int64} {x1 : Int64} {R : Int32} (hf : fX12_isWord v_sort v_worth x1 = some R) : e_C G b yX12_isWord cX12_isWord 3 (some .boolean) 0 0 0 [.ref (b + o), .long x1] (e_ov (kM o) (wM G b o v_thrown v_status a_refusals a_row a_images a_isKept a_tape v_taped v_from v_to v_sort v_worth v_fault v_bad v_nClauses a_nClause v_nCode a_nOp a_nArg v_nLeaves a_pile a_pileAt v_piled v_opened a_words a_headWords v_law a_set a_rest v_broken v_value v_sum a_chances a_votes a_costs a_table a_prices v_surely a_mostBy a_leastBy v_between v_steadyWays v_quashed v_but a_figures a_all a_lies a_since v_last v_state) c0) n (pD (some (.int R)) (e_ov (kM o) (wM G b o v_thrown v_status a_refusals a_row a_images a_isKept a_tape v_taped v_from v_to v_sort v_worth v_fault v_bad v_nClauses a_nClause v_nCode a_nOp a_nArg v_nLeaves a_pile a_pileAt v_piled v_opened a_words a_headWords v_law a_set a_rest v_broken v_value v_sum a_chances a_votes a_costs a_table a_prices v_surely a_mostBy a_leastBy v_between v_steadyWays v_quashed v_but a_figures a_all a_lies a_since v_last v_state) c0) n) := e_C.of (by decide) (Nat.le_of_ble_eq_true rfl) (tX12_isWord hw hf)
def fX12_isSign_L22 (v_sort : Int32) (v_worth : Int64) : Option (Int32) := some (0)
set_option maxHeartbeats 4000000 in
set_option maxRecDepth 100000 in
theorem tX12_isSign_L22 {G : GT} {b : Nat} {o : Nat} {c0 : Hp} {n : Nat} (hw : e_wf (kM o) n) {v_thrown : Int32} {v_status : Int32} {a_refusals : Nat → Int32} {a_row : Nat → Int32} {a_images : Nat → Int32} {a_isKept : Nat → Int32} {a_tape : Nat → Int32} {v_taped : Int32} {v_from : Int32} {v_to : Int32} {v_fault : Int32} {v_bad : Int32} {v_nClauses : Int32} {a_nClause : Nat → Int32} {v_nCode : Int32} {a_nOp : Nat → Int32} {a_nArg : Nat → Int32} {v_nLeaves : Int32} {a_pile : Nat → Int32} {a_pileAt : Nat → Int32} {v_piled : Int32} {v_opened : Int32} {a_words : Nat → Int64} {a_headWords : Nat → Int64} {v_law : Int32} {a_set : Nat → Int64} {a_rest : Nat → Int64} {v_broken : Int32} {v_value : Int64} {v_sum : Int64} {a_chances : Nat → Int32} {a_votes : Nat → Int64} {a_costs : Nat → Int32} {a_table : Nat → Int64} {a_prices : Nat → Int32} {v_surely : Int64} {a_mostBy : Nat → Int64} {a_leastBy : Nat → Int64} {v_between : Int64} {v_steadyWays : Int32} {v_quashed : Int32} {v_but : Int32} {a_figures : Nat → Int32} {a_all : Nat → Int32} {a_lies : Nat → Int32} {a_since : Nat → Int32} {v_last : Int32} {v_state : Int64} {v_sort : Int32} {v_worth : Int64} {R : Int32} (hf : fX12_isSign_L22 v_sort v_worth = some R) : E G b yX12_isSign cX12_isSign 2 (some .boolean) (e_rm 0 0 0) e_X0 (e_Z G b (pD (some (.int R)) (e_ov (kM o) (wM G b o v_thrown v_status a_refusals a_row a_images a_isKept a_tape v_taped v_from v_to v_sort v_worth v_fault v_bad v_nClauses a_nClause v_nCode a_nOp a_nArg v_nLeaves a_pile a_pileAt v_piled v_opened a_words a_headWords v_law a_set a_rest v_broken v_value v_sum a_chances a_votes a_costs a_table a_prices v_surely a_mostBy a_leastBy v_between v_steadyWays v_quashed v_but a_figures a_all a_lies a_since v_last v_state) c0) n) 0 0) 22 [] [] (e_ov (kM o) (wM G b o v_thrown v_status a_refusals a_row a_images a_isKept a_tape v_taped v_from v_to v_sort v_worth v_fault v_bad v_nClauses a_nClause v_nCode a_nOp a_nArg v_nLeaves a_pile a_pileAt v_piled v_opened a_words a_headWords v_law a_set a_rest v_broken v_value v_sum a_chances a_votes a_costs a_table a_prices v_surely a_mostBy a_leastBy v_between v_steadyWays v_quashed v_but a_figures a_all a_lies a_since v_last v_state) c0) n 0 0 := by
  unfold fX12_isSign_L22 at hf
  refine E.iconst (v := 0) dX12_isSign_22 (by decide) ?_
  cases hf
  exact E.zret dX12_isSign_23 rfl (Nat.le_refl _) (Nat.le_refl _) (pD_rf _ _ _)
def fX12_isSign (v_sort : Int32) (v_worth : Int64) (x1 : Int32) : Option (Int32) := if (v_sort : Int32) = (3 : Int32) then (if v_worth = ((x1 : Int32).toInt64) then (some (1)) else (fX12_isSign_L22 v_sort v_worth)) else (fX12_isSign_L22 v_sort v_worth)
set_option maxHeartbeats 4000000 in
set_option maxRecDepth 100000 in
theorem tX12_isSign {G : GT} {b : Nat} {o : Nat} {c0 : Hp} {n : Nat} (hw : e_wf (kM o) n) {v_thrown : Int32} {v_status : Int32} {a_refusals : Nat → Int32} {a_row : Nat → Int32} {a_images : Nat → Int32} {a_isKept : Nat → Int32} {a_tape : Nat → Int32} {v_taped : Int32} {v_from : Int32} {v_to : Int32} {v_fault : Int32} {v_bad : Int32} {v_nClauses : Int32} {a_nClause : Nat → Int32} {v_nCode : Int32} {a_nOp : Nat → Int32} {a_nArg : Nat → Int32} {v_nLeaves : Int32} {a_pile : Nat → Int32} {a_pileAt : Nat → Int32} {v_piled : Int32} {v_opened : Int32} {a_words : Nat → Int64} {a_headWords : Nat → Int64} {v_law : Int32} {a_set : Nat → Int64} {a_rest : Nat → Int64} {v_broken : Int32} {v_value : Int64} {v_sum : Int64} {a_chances : Nat → Int32} {a_votes : Nat → Int64} {a_costs : Nat → Int32} {a_table : Nat → Int64} {a_prices : Nat → Int32} {v_surely : Int64} {a_mostBy : Nat → Int64} {a_leastBy : Nat → Int64} {v_between : Int64} {v_steadyWays : Int32} {v_quashed : Int32} {v_but : Int32} {a_figures : Nat → Int32} {a_all : Nat → Int32} {a_lies : Nat → Int32} {a_since : Nat → Int32} {v_last : Int32} {v_state : Int64} {v_sort : Int32} {v_worth : Int64} {x1 : Int32} {R : Int32} (hf : fX12_isSign v_sort v_worth x1 = some R) : E G b yX12_isSign cX12_isSign 2 (some .boolean) (e_rm 0 0 0) e_X0 (e_Z G b (pD (some (.int R)) (e_ov (kM o) (wM G b o v_thrown v_status a_refusals a_row a_images a_isKept a_tape v_taped v_from v_to v_sort v_worth v_fault v_bad v_nClauses a_nClause v_nCode a_nOp a_nArg v_nLeaves a_pile a_pileAt v_piled v_opened a_words a_headWords v_law a_set a_rest v_broken v_value v_sum a_chances a_votes a_costs a_table a_prices v_surely a_mostBy a_leastBy v_between v_steadyWays v_quashed v_but a_figures a_all a_lies a_since v_last v_state) c0) n) 0 0) 0 [(0, .ref (b + o)), (1, .int x1)] [] (e_ov (kM o) (wM G b o v_thrown v_status a_refusals a_row a_images a_isKept a_tape v_taped v_from v_to v_sort v_worth v_fault v_bad v_nClauses a_nClause v_nCode a_nOp a_nArg v_nLeaves a_pile a_pileAt v_piled v_opened a_words a_headWords v_law a_set a_rest v_broken v_value v_sum a_chances a_votes a_costs a_table a_prices v_surely a_mostBy a_leastBy v_between v_steadyWays v_quashed v_but a_figures a_all a_lies a_since v_last v_state) c0) n 0 0 := by
  unfold fX12_isSign at hf
  refine E.aload_n 0 dX12_isSign_0 rfl ?_
  refine E.get hw 0 o dX12_isSign_1 flX12_214 rfl rfl rfl rfl ?_
  refine E.iconst (v := 3) dX12_isSign_4 (by decide) ?_
  refine E.icmp_ne dX12_isSign_5 (fun h => ?_) (fun h => ?_)
  · have hf := e_iff hf h
    refine E.locals [] rfl ?_
    exact tX12_isSign_L22 hw hf
  · have hf := e_ift hf h
    refine E.aload_n 0 dX12_isSign_8 rfl ?_
    refine E.get hw 0 o dX12_isSign_9 flX12_204 rfl rfl rfl rfl ?_
    refine E.iload_n 1 dX12_isSign_12 rfl ?_
    refine E.i2l dX12_isSign_13 ?_
    refine E.lc_ne dX12_isSign_14 dX12_isSign_15 (fun h => ?_) (fun h => ?_)
    · have hf := e_iff hf h
      refine E.locals [] rfl ?_
      exact tX12_isSign_L22 hw hf
    · have hf := e_ift hf h
      refine E.iconst (v := 1) dX12_isSign_18 (by decide) ?_
      refine E.goto dX12_isSign_19 ?_
      cases hf
      exact E.zret dX12_isSign_23 rfl (Nat.le_refl _) (Nat.le_refl _) (pD_rf _ _ _)
set_option maxRecDepth 100000 in
theorem mX12_isSign {G : GT} {b : Nat} {o : Nat} {c0 : Hp} {n : Nat} (hw : e_wf (kM o) n) {v_thrown : Int32} {v_status : Int32} {a_refusals : Nat → Int32} {a_row : Nat → Int32} {a_images : Nat → Int32} {a_isKept : Nat → Int32} {a_tape : Nat → Int32} {v_taped : Int32} {v_from : Int32} {v_to : Int32} {v_fault : Int32} {v_bad : Int32} {v_nClauses : Int32} {a_nClause : Nat → Int32} {v_nCode : Int32} {a_nOp : Nat → Int32} {a_nArg : Nat → Int32} {v_nLeaves : Int32} {a_pile : Nat → Int32} {a_pileAt : Nat → Int32} {v_piled : Int32} {v_opened : Int32} {a_words : Nat → Int64} {a_headWords : Nat → Int64} {v_law : Int32} {a_set : Nat → Int64} {a_rest : Nat → Int64} {v_broken : Int32} {v_value : Int64} {v_sum : Int64} {a_chances : Nat → Int32} {a_votes : Nat → Int64} {a_costs : Nat → Int32} {a_table : Nat → Int64} {a_prices : Nat → Int32} {v_surely : Int64} {a_mostBy : Nat → Int64} {a_leastBy : Nat → Int64} {v_between : Int64} {v_steadyWays : Int32} {v_quashed : Int32} {v_but : Int32} {a_figures : Nat → Int32} {a_all : Nat → Int32} {a_lies : Nat → Int32} {a_since : Nat → Int32} {v_last : Int32} {v_state : Int64} {v_sort : Int32} {v_worth : Int64} {x1 : Int32} {R : Int32} (hf : fX12_isSign v_sort v_worth x1 = some R) : e_C G b yX12_isSign cX12_isSign 2 (some .boolean) 0 0 0 [.ref (b + o), .int x1] (e_ov (kM o) (wM G b o v_thrown v_status a_refusals a_row a_images a_isKept a_tape v_taped v_from v_to v_sort v_worth v_fault v_bad v_nClauses a_nClause v_nCode a_nOp a_nArg v_nLeaves a_pile a_pileAt v_piled v_opened a_words a_headWords v_law a_set a_rest v_broken v_value v_sum a_chances a_votes a_costs a_table a_prices v_surely a_mostBy a_leastBy v_between v_steadyWays v_quashed v_but a_figures a_all a_lies a_since v_last v_state) c0) n (pD (some (.int R)) (e_ov (kM o) (wM G b o v_thrown v_status a_refusals a_row a_images a_isKept a_tape v_taped v_from v_to v_sort v_worth v_fault v_bad v_nClauses a_nClause v_nCode a_nOp a_nArg v_nLeaves a_pile a_pileAt v_piled v_opened a_words a_headWords v_law a_set a_rest v_broken v_value v_sum a_chances a_votes a_costs a_table a_prices v_surely a_mostBy a_leastBy v_between v_steadyWays v_quashed v_but a_figures a_all a_lies a_since v_last v_state) c0) n) := e_C.of (by decide) (Nat.le_of_ble_eq_true rfl) (tX12_isSign hw hf)
def fX12_must_L24 (Fu : Nat) (a_tape : Nat → Int32) (v_taped : Int32) (v_from : Int32) (v_to : Int32) (v_sort : Int32) (v_worth : Int64) (v_fault : Int32) (v_bad : Int32) : Option (Int32 × Int32 × Int32 × Int64 × Int32 × Int32) := if (v_bad : Int32) = 0 then ((fX12_next Fu a_tape v_taped v_from v_to v_sort v_worth).bind fun r1 => (some (r1.1, r1.2.1, r1.2.2.1, r1.2.2.2, v_fault, v_bad))) else (some (v_from, v_to, v_sort, v_worth, v_fault, v_bad))
set_option maxHeartbeats 4000000 in
set_option maxRecDepth 100000 in
theorem tX12_must_L24 {G : GT} {b : Nat} {o : Nat} {c0 : Hp} {n : Nat} (hw : e_wf (kM o) n) {v_thrown : Int32} {v_status : Int32} {a_refusals : Nat → Int32} {a_row : Nat → Int32} {a_images : Nat → Int32} {a_isKept : Nat → Int32} {v_nClauses : Int32} {a_nClause : Nat → Int32} {v_nCode : Int32} {a_nOp : Nat → Int32} {a_nArg : Nat → Int32} {v_nLeaves : Int32} {a_pile : Nat → Int32} {a_pileAt : Nat → Int32} {v_piled : Int32} {v_opened : Int32} {a_words : Nat → Int64} {a_headWords : Nat → Int64} {v_law : Int32} {a_set : Nat → Int64} {a_rest : Nat → Int64} {v_broken : Int32} {v_value : Int64} {v_sum : Int64} {a_chances : Nat → Int32} {a_votes : Nat → Int64} {a_costs : Nat → Int32} {a_table : Nat → Int64} {a_prices : Nat → Int32} {v_surely : Int64} {a_mostBy : Nat → Int64} {a_leastBy : Nat → Int64} {v_between : Int64} {v_steadyWays : Int32} {v_quashed : Int32} {v_but : Int32} {a_figures : Nat → Int32} {a_all : Nat → Int32} {a_lies : Nat → Int32} {a_since : Nat → Int32} {v_last : Int32} {v_state : Int64} {Fu : Nat} {a_tape : Nat → Int32} {v_taped : Int32} {v_from : Int32} {v_to : Int32} {v_sort : Int32} {v_worth : Int64} {v_fault : Int32} {v_bad : Int32} {R : Int32 × Int32 × Int32 × Int64 × Int32 × Int32} (hf : fX12_must_L24 Fu a_tape v_taped v_from v_to v_sort v_worth v_fault v_bad = some R) : E G b yX12_must cX12_must 2 none (e_rm 2 0 0) e_X0 (e_Z G b (pD none (e_ov (kM o) (wM G b o v_thrown v_status a_refusals a_row a_images a_isKept a_tape v_taped R.1 R.2.1 R.2.2.1 R.2.2.2.1 R.2.2.2.2.1 R.2.2.2.2.2 v_nClauses a_nClause v_nCode a_nOp a_nArg v_nLeaves a_pile a_pileAt v_piled v_opened a_words a_headWords v_law a_set a_rest v_broken v_value v_sum a_chances a_votes a_costs a_table a_prices v_surely a_mostBy a_leastBy v_between v_steadyWays v_quashed v_but a_figures a_all a_lies a_since v_last v_state) c0) n) 0 0) 24 [(0, .ref (b + o))] [] (e_ov (kM o) (wM G b o v_thrown v_status a_refusals a_row a_images a_isKept a_tape v_taped v_from v_to v_sort v_worth v_fault v_bad v_nClauses a_nClause v_nCode a_nOp a_nArg v_nLeaves a_pile a_pileAt v_piled v_opened a_words a_headWords v_law a_set a_rest v_broken v_value v_sum a_chances a_votes a_costs a_table a_prices v_surely a_mostBy a_leastBy v_between v_steadyWays v_quashed v_but a_figures a_all a_lies a_since v_last v_state) c0) n 0 0 := by
  unfold fX12_must_L24 at hf
  refine E.aload_n 0 dX12_must_24 rfl ?_
  refine E.get hw 0 o dX12_must_25 flX12_194 rfl rfl rfl rfl ?_
  refine E.if_ne dX12_must_28 (fun h => ?_) (fun h => ?_)
  · have hf := e_iff hf h
    cases hf
    exact E.vret dX12_must_35 (Nat.le_refl _) (Nat.le_refl _) (pD_rf _ _ _)
  · have hf := e_ift hf h
    refine E.aload_n 0 dX12_must_31 rfl ?_
    obtain ⟨r1, hc1, hf⟩ := e_bind hf
    refine E.callVD [] dX12_must_32 mlX12_198 ⟨hw.sub (p := 0) rfl, e_ov_get hw.1 (p := 0) rfl rfl⟩ rfl rfl (mX12_next hw hc1) ⟨Nat.le_of_ble_eq_true rfl, Nat.le_of_ble_eq_true rfl⟩ rfl rfl (Nat.le_of_ble_eq_true rfl) ⟨Nat.le_refl _, Nat.le_refl _⟩ rfl ?_
    cases hf
    exact E.vret dX12_must_35 (Nat.le_refl _) (Nat.le_refl _) (pD_rf _ _ _)
def fX12_must (Fu : Nat) (a_tape : Nat → Int32) (v_taped : Int32) (v_from : Int32) (v_to : Int32) (v_sort : Int32) (v_worth : Int64) (v_fault : Int32) (v_bad : Int32) (x1 : Int32) : Option (Int32 × Int32 × Int32 × Int64 × Int32 × Int32) := if (v_bad : Int32) = 0 then (if (x1 : Int32) = 0 then (fX12_must_L24 Fu a_tape v_taped v_from v_to v_sort v_worth v_from 1) else (fX12_must_L24 Fu a_tape v_taped v_from v_to v_sort v_worth v_fault v_bad)) else (fX12_must_L24 Fu a_tape v_taped v_from v_to v_sort v_worth v_fault v_bad)
set_option maxHeartbeats 4000000 in
set_option maxRecDepth 100000 in
theorem tX12_must {G : GT} {b : Nat} {o : Nat} {c0 : Hp} {n : Nat} (hw : e_wf (kM o) n) {v_thrown : Int32} {v_status : Int32} {a_refusals : Nat → Int32} {a_row : Nat → Int32} {a_images : Nat → Int32} {a_isKept : Nat → Int32} {v_nClauses : Int32} {a_nClause : Nat → Int32} {v_nCode : Int32} {a_nOp : Nat → Int32} {a_nArg : Nat → Int32} {v_nLeaves : Int32} {a_pile : Nat → Int32} {a_pileAt : Nat → Int32} {v_piled : Int32} {v_opened : Int32} {a_words : Nat → Int64} {a_headWords : Nat → Int64} {v_law : Int32} {a_set : Nat → Int64} {a_rest : Nat → Int64} {v_broken : Int32} {v_value : Int64} {v_sum : Int64} {a_chances : Nat → Int32} {a_votes : Nat → Int64} {a_costs : Nat → Int32} {a_table : Nat → Int64} {a_prices : Nat → Int32} {v_surely : Int64} {a_mostBy : Nat → Int64} {a_leastBy : Nat → Int64} {v_between : Int64} {v_steadyWays : Int32} {v_quashed : Int32} {v_but : Int32} {a_figures : Nat → Int32} {a_all : Nat → Int32} {a_lies : Nat → Int32} {a_since : Nat → Int32} {v_last : Int32} {v_state : Int64} {Fu : Nat} {a_tape : Nat → Int32} {v_taped : Int32} {v_from : Int32} {v_to : Int32} {v_sort : Int32} {v_worth : Int64} {v_fault : Int32} {v_bad : Int32} {x1 : Int32} {R : Int32 × Int32 × Int32 × Int64 × Int32 × Int32} (hf : fX12_must Fu a_tape v_taped v_from v_to v_sort v_worth v_fault v_bad x1 = some R) : E G b yX12_must cX12_must 2 none (e_rm 2 0 0) e_X0 (e_Z G b (pD none (e_ov (kM o) (wM G b o v_thrown v_status a_refusals a_row a_images a_isKept a_tape v_taped R.1 R.2.1 R.2.2.1 R.2.2.2.1 R.2.2.2.2.1 R.2.2.2.2.2 v_nClauses a_nClause v_nCode a_nOp a_nArg v_nLeaves a_pile a_pileAt v_piled v_opened a_words a_headWords v_law a_set a_rest v_broken v_value v_sum a_chances a_votes a_costs a_table a_prices v_surely a_mostBy a_leastBy v_between v_steadyWays v_quashed v_but a_figures a_all a_lies a_since v_last v_state) c0) n) 0 0) 0 [(0, .ref (b + o)), (1, .int x1)] [] (e_ov (kM o) (wM G b o v_thrown v_status a_refusals a_row a_images a_isKept a_tape v_taped v_from v_to v_sort v_worth v_fault v_bad v_nClauses a_nClause v_nCode a_nOp a_nArg v_nLeaves a_pile a_pileAt v_piled v_opened a_words a_headWords v_law a_set a_rest v_broken v_value v_sum a_chances a_votes a_costs a_table a_prices v_surely a_mostBy a_leastBy v_between v_steadyWays v_quashed v_but a_figures a_all a_lies a_since v_last v_state) c0) n 0 0 := by
  unfold fX12_must at hf
  refine E.aload_n 0 dX12_must_0 rfl ?_
  refine E.get hw 0 o dX12_must_1 flX12_194 rfl rfl rfl rfl ?_
  refine E.if_ne dX12_must_4 (fun h => ?_) (fun h => ?_)
  · have hf := e_iff hf h
    refine E.locals [0] rfl ?_
    exact tX12_must_L24 hw hf
  · have hf := e_ift hf h
    refine E.iload_n 1 dX12_must_7 rfl ?_
    refine E.if_ne dX12_must_8 (fun h => ?_) (fun h => ?_)
    · have hf := e_iff hf h
      refine E.locals [0] rfl ?_
      exact tX12_must_L24 hw hf
    · have hf := e_ift hf h
      refine E.aload_n 0 dX12_must_11 rfl ?_
      refine E.iconst (v := 1) dX12_must_12 (by decide) ?_
      refine E.put (es' := (wM G b o v_thrown v_status a_refusals a_row a_images a_isKept a_tape v_taped v_from v_to v_sort v_worth v_fault 1 v_nClauses a_nClause v_nCode a_nOp a_nArg v_nLeaves a_pile a_pileAt v_piled v_opened a_words a_headWords v_law a_set a_rest v_broken v_value v_sum a_chances a_votes a_costs a_table a_prices v_surely a_mostBy a_leastBy v_between v_steadyWays v_quashed v_but a_figures a_all a_lies a_since v_last v_state)) hw 0 o dX12_must_13 flX12_194 ftX12 rfl rfl rfl rfl rfl rfl (Nat.le_of_ble_eq_true rfl) rfl ?_
      refine E.aload_n 0 dX12_must_16 rfl ?_
      refine E.aload_n 0 dX12_must_17 rfl ?_
      refine E.get hw 0 o dX12_must_18 flX12_201 rfl rfl rfl rfl ?_
      refine E.put (es' := (wM G b o v_thrown v_status a_refusals a_row a_images a_isKept a_tape v_taped v_from v_to v_sort v_worth v_from 1 v_nClauses a_nClause v_nCode a_nOp a_nArg v_nLeaves a_pile a_pileAt v_piled v_opened a_words a_headWords v_law a_set a_rest v_broken v_value v_sum a_chances a_votes a_costs a_table a_prices v_surely a_mostBy a_leastBy v_between v_steadyWays v_quashed v_but a_figures a_all a_lies a_since v_last v_state)) hw 0 o dX12_must_21 flX12_26 ftX12 rfl rfl rfl rfl rfl rfl (Nat.le_of_ble_eq_true rfl) rfl ?_
      refine E.locals [0] rfl ?_
      exact tX12_must_L24 hw hf
set_option maxRecDepth 100000 in
theorem mX12_must {G : GT} {b : Nat} {o : Nat} {c0 : Hp} {n : Nat} (hw : e_wf (kM o) n) {v_thrown : Int32} {v_status : Int32} {a_refusals : Nat → Int32} {a_row : Nat → Int32} {a_images : Nat → Int32} {a_isKept : Nat → Int32} {v_nClauses : Int32} {a_nClause : Nat → Int32} {v_nCode : Int32} {a_nOp : Nat → Int32} {a_nArg : Nat → Int32} {v_nLeaves : Int32} {a_pile : Nat → Int32} {a_pileAt : Nat → Int32} {v_piled : Int32} {v_opened : Int32} {a_words : Nat → Int64} {a_headWords : Nat → Int64} {v_law : Int32} {a_set : Nat → Int64} {a_rest : Nat → Int64} {v_broken : Int32} {v_value : Int64} {v_sum : Int64} {a_chances : Nat → Int32} {a_votes : Nat → Int64} {a_costs : Nat → Int32} {a_table : Nat → Int64} {a_prices : Nat → Int32} {v_surely : Int64} {a_mostBy : Nat → Int64} {a_leastBy : Nat → Int64} {v_between : Int64} {v_steadyWays : Int32} {v_quashed : Int32} {v_but : Int32} {a_figures : Nat → Int32} {a_all : Nat → Int32} {a_lies : Nat → Int32} {a_since : Nat → Int32} {v_last : Int32} {v_state : Int64} {Fu : Nat} {a_tape : Nat → Int32} {v_taped : Int32} {v_from : Int32} {v_to : Int32} {v_sort : Int32} {v_worth : Int64} {v_fault : Int32} {v_bad : Int32} {x1 : Int32} {R : Int32 × Int32 × Int32 × Int64 × Int32 × Int32} (hf : fX12_must Fu a_tape v_taped v_from v_to v_sort v_worth v_fault v_bad x1 = some R) : e_C G b yX12_must cX12_must 2 none 2 0 0 [.ref (b + o), .int x1] (e_ov (kM o) (wM G b o v_thrown v_status a_refusals a_row a_images a_isKept a_tape v_taped v_from v_to v_sort v_worth v_fault v_bad v_nClauses a_nClause v_nCode a_nOp a_nArg v_nLeaves a_pile a_pileAt v_piled v_opened a_words a_headWords v_law a_set a_rest v_broken v_value v_sum a_chances a_votes a_costs a_table a_prices v_surely a_mostBy a_leastBy v_between v_steadyWays v_quashed v_but a_figures a_all a_lies a_since v_last v_state) c0) n (pD none (e_ov (kM o) (wM G b o v_thrown v_status a_refusals a_row a_images a_isKept a_tape v_taped R.1 R.2.1 R.2.2.1 R.2.2.2.1 R.2.2.2.2.1 R.2.2.2.2.2 v_nClauses a_nClause v_nCode a_nOp a_nArg v_nLeaves a_pile a_pileAt v_piled v_opened a_words a_headWords v_law a_set a_rest v_broken v_value v_sum a_chances a_votes a_costs a_table a_prices v_surely a_mostBy a_leastBy v_between v_steadyWays v_quashed v_but a_figures a_all a_lies a_since v_last v_state) c0) n) := e_C.of (by decide) (Nat.le_of_ble_eq_true rfl) (tX12_must hw hf)
def fX12_fault (v_thrown : Int32) (v_fault : Int32) : Option (Int32 × Int32) := some (v_fault, 0)
set_option maxHeartbeats 4000000 in
set_option maxRecDepth 100000 in
theorem tX12_fault {G : GT} {b : Nat} {o : Nat} {c0 : Hp} {n : Nat} (hw : e_wf (kM o) n) {v_status : Int32} {a_refusals : Nat → Int32} {a_row : Nat → Int32} {a_images : Nat → Int32} {a_isKept : Nat → Int32} {a_tape : Nat → Int32} {v_taped : Int32} {v_from : Int32} {v_to : Int32} {v_sort : Int32} {v_worth : Int64} {v_bad : Int32} {v_nClauses : Int32} {a_nClause : Nat → Int32} {v_nCode : Int32} {a_nOp : Nat → Int32} {a_nArg : Nat → Int32} {v_nLeaves : Int32} {a_pile : Nat → Int32} {a_pileAt : Nat → Int32} {v_piled : Int32} {v_opened : Int32} {a_words : Nat → Int64} {a_headWords : Nat → Int64} {v_law : Int32} {a_set : Nat → Int64} {a_rest : Nat → Int64} {v_broken : Int32} {v_value : Int64} {v_sum : Int64} {a_chances : Nat → Int32} {a_votes : Nat → Int64} {a_costs : Nat → Int32} {a_table : Nat → Int64} {a_prices : Nat → Int32} {v_surely : Int64} {a_mostBy : Nat → Int64} {a_leastBy : Nat → Int64} {v_between : Int64} {v_steadyWays : Int32} {v_quashed : Int32} {v_but : Int32} {a_figures : Nat → Int32} {a_all : Nat → Int32} {a_lies : Nat → Int32} {a_since : Nat → Int32} {v_last : Int32} {v_state : Int64} {v_thrown : Int32} {v_fault : Int32} {R : Int32 × Int32} (hf : fX12_fault v_thrown v_fault = some R) : E G b yX12_fault cX12_fault 1 (some .int) (e_rm 0 0 0) e_X0 (e_Z G b (pD (some (.int R.1)) (e_ov (kM o) (wM G b o R.2 v_status a_refusals a_row a_images a_isKept a_tape v_taped v_from v_to v_sort v_worth v_fault v_bad v_nClauses a_nClause v_nCode a_nOp a_nArg v_nLeaves a_pile a_pileAt v_piled v_opened a_words a_headWords v_law a_set a_rest v_broken v_value v_sum a_chances a_votes a_costs a_table a_prices v_surely a_mostBy a_leastBy v_between v_steadyWays v_quashed v_but a_figures a_all a_lies a_since v_last v_state) c0) n) 0 0) 0 [(0, .ref (b + o))] [] (e_ov (kM o) (wM G b o v_thrown v_status a_refusals a_row a_images a_isKept a_tape v_taped v_from v_to v_sort v_worth v_fault v_bad v_nClauses a_nClause v_nCode a_nOp a_nArg v_nLeaves a_pile a_pileAt v_piled v_opened a_words a_headWords v_law a_set a_rest v_broken v_value v_sum a_chances a_votes a_costs a_table a_prices v_surely a_mostBy a_leastBy v_between v_steadyWays v_quashed v_but a_figures a_all a_lies a_since v_last v_state) c0) n 0 0 := by
  unfold fX12_fault at hf
  refine E.aload_n 0 dX12_fault_0 rfl ?_
  refine E.iconst (v := 0) dX12_fault_1 (by decide) ?_
  refine E.put (es' := (wM G b o 0 v_status a_refusals a_row a_images a_isKept a_tape v_taped v_from v_to v_sort v_worth v_fault v_bad v_nClauses a_nClause v_nCode a_nOp a_nArg v_nLeaves a_pile a_pileAt v_piled v_opened a_words a_headWords v_law a_set a_rest v_broken v_value v_sum a_chances a_votes a_costs a_table a_prices v_surely a_mostBy a_leastBy v_between v_steadyWays v_quashed v_but a_figures a_all a_lies a_since v_last v_state)) hw 0 o dX12_fault_2 flX12_124 ftX12 rfl rfl rfl rfl rfl rfl (Nat.le_of_ble_eq_true rfl) rfl ?_
  refine E.aload_n 0 dX12_fault_5 rfl ?_
  refine E.get hw 0 o dX12_fault_6 flX12_26 rfl rfl rfl rfl ?_
  cases hf
  exact E.iret dX12_fault_9 (Nat.le_refl _) (Nat.le_refl _) (pD_rf _ _ _)
set_option maxRecDepth 100000 in
theorem mX12_fault {G : GT} {b : Nat} {o : Nat} {c0 : Hp} {n : Nat} (hw : e_wf (kM o) n) {v_status : Int32} {a_refusals : Nat → Int32} {a_row : Nat → Int32} {a_images : Nat → Int32} {a_isKept : Nat → Int32} {a_tape : Nat → Int32} {v_taped : Int32} {v_from : Int32} {v_to : Int32} {v_sort : Int32} {v_worth : Int64} {v_bad : Int32} {v_nClauses : Int32} {a_nClause : Nat → Int32} {v_nCode : Int32} {a_nOp : Nat → Int32} {a_nArg : Nat → Int32} {v_nLeaves : Int32} {a_pile : Nat → Int32} {a_pileAt : Nat → Int32} {v_piled : Int32} {v_opened : Int32} {a_words : Nat → Int64} {a_headWords : Nat → Int64} {v_law : Int32} {a_set : Nat → Int64} {a_rest : Nat → Int64} {v_broken : Int32} {v_value : Int64} {v_sum : Int64} {a_chances : Nat → Int32} {a_votes : Nat → Int64} {a_costs : Nat → Int32} {a_table : Nat → Int64} {a_prices : Nat → Int32} {v_surely : Int64} {a_mostBy : Nat → Int64} {a_leastBy : Nat → Int64} {v_between : Int64} {v_steadyWays : Int32} {v_quashed : Int32} {v_but : Int32} {a_figures : Nat → Int32} {a_all : Nat → Int32} {a_lies : Nat → Int32} {a_since : Nat → Int32} {v_last : Int32} {v_state : Int64} {v_thrown : Int32} {v_fault : Int32} {R : Int32 × Int32} (hf : fX12_fault v_thrown v_fault = some R) : e_C G b yX12_fault cX12_fault 1 (some .int) 0 0 0 [.ref (b + o)] (e_ov (kM o) (wM G b o v_thrown v_status a_refusals a_row a_images a_isKept a_tape v_taped v_from v_to v_sort v_worth v_fault v_bad v_nClauses a_nClause v_nCode a_nOp a_nArg v_nLeaves a_pile a_pileAt v_piled v_opened a_words a_headWords v_law a_set a_rest v_broken v_value v_sum a_chances a_votes a_costs a_table a_prices v_surely a_mostBy a_leastBy v_between v_steadyWays v_quashed v_but a_figures a_all a_lies a_since v_last v_state) c0) n (pD (some (.int R.1)) (e_ov (kM o) (wM G b o R.2 v_status a_refusals a_row a_images a_isKept a_tape v_taped v_from v_to v_sort v_worth v_fault v_bad v_nClauses a_nClause v_nCode a_nOp a_nArg v_nLeaves a_pile a_pileAt v_piled v_opened a_words a_headWords v_law a_set a_rest v_broken v_value v_sum a_chances a_votes a_costs a_table a_prices v_surely a_mostBy a_leastBy v_between v_steadyWays v_quashed v_but a_figures a_all a_lies a_since v_last v_state) c0) n) := e_C.of (by decide) (Nat.le_of_ble_eq_true rfl) (tX12_fault hw hf)
def fX12_emit (v_nCode : Int32) (a_nOp : Nat → Int32) (a_nArg : Nat → Int32) (x1 : Int32) (x2 : Int32) : Option (Int32 × (Nat → Int32) × (Nat → Int32)) := gd v_nCode 400 (gd v_nCode 400 (some ((v_nCode + 1), (va_up a_nOp (v_nCode : Int32).toNatClampNeg x1), (va_up a_nArg (v_nCode : Int32).toNatClampNeg x2))))
set_option maxHeartbeats 4000000 in
set_option maxRecDepth 100000 in
theorem tX12_emit {G : GT} {b : Nat} {o : Nat} {c0 : Hp} {n : Nat} (hw : e_wf (kM o) n) {v_thrown : Int32} {v_status : Int32} {a_refusals : Nat → Int32} {a_row : Nat → Int32} {a_images : Nat → Int32} {a_isKept : Nat → Int32} {a_tape : Nat → Int32} {v_taped : Int32} {v_from : Int32} {v_to : Int32} {v_sort : Int32} {v_worth : Int64} {v_fault : Int32} {v_bad : Int32} {v_nClauses : Int32} {a_nClause : Nat → Int32} {v_nLeaves : Int32} {a_pile : Nat → Int32} {a_pileAt : Nat → Int32} {v_piled : Int32} {v_opened : Int32} {a_words : Nat → Int64} {a_headWords : Nat → Int64} {v_law : Int32} {a_set : Nat → Int64} {a_rest : Nat → Int64} {v_broken : Int32} {v_value : Int64} {v_sum : Int64} {a_chances : Nat → Int32} {a_votes : Nat → Int64} {a_costs : Nat → Int32} {a_table : Nat → Int64} {a_prices : Nat → Int32} {v_surely : Int64} {a_mostBy : Nat → Int64} {a_leastBy : Nat → Int64} {v_between : Int64} {v_steadyWays : Int32} {v_quashed : Int32} {v_but : Int32} {a_figures : Nat → Int32} {a_all : Nat → Int32} {a_lies : Nat → Int32} {a_since : Nat → Int32} {v_last : Int32} {v_state : Int64} {v_nCode : Int32} {a_nOp : Nat → Int32} {a_nArg : Nat → Int32} {x1 : Int32} {x2 : Int32} {R : Int32 × (Nat → Int32) × (Nat → Int32)} (hf : fX12_emit v_nCode a_nOp a_nArg x1 x2 = some R) : E G b yX12_emit cX12_emit 3 none (e_rm 0 0 0) e_X0 (e_Z G b (pD none (e_ov (kM o) (wM G b o v_thrown v_status a_refusals a_row a_images a_isKept a_tape v_taped v_from v_to v_sort v_worth v_fault v_bad v_nClauses a_nClause R.1 R.2.1 R.2.2 v_nLeaves a_pile a_pileAt v_piled v_opened a_words a_headWords v_law a_set a_rest v_broken v_value v_sum a_chances a_votes a_costs a_table a_prices v_surely a_mostBy a_leastBy v_between v_steadyWays v_quashed v_but a_figures a_all a_lies a_since v_last v_state) c0) n) 0 0) 0 [(0, .ref (b + o)), (1, .int x1), (2, .int x2)] [] (e_ov (kM o) (wM G b o v_thrown v_status a_refusals a_row a_images a_isKept a_tape v_taped v_from v_to v_sort v_worth v_fault v_bad v_nClauses a_nClause v_nCode a_nOp a_nArg v_nLeaves a_pile a_pileAt v_piled v_opened a_words a_headWords v_law a_set a_rest v_broken v_value v_sum a_chances a_votes a_costs a_table a_prices v_surely a_mostBy a_leastBy v_between v_steadyWays v_quashed v_but a_figures a_all a_lies a_since v_last v_state) c0) n 0 0 := by
  unfold fX12_emit at hf
  refine E.aload_n 0 dX12_emit_0 rfl ?_
  refine E.get hw 0 o dX12_emit_1 flX12_33 rfl rfl rfl rfl ?_
  refine E.aload_n 0 dX12_emit_4 rfl ?_
  refine E.get hw 0 o dX12_emit_5 flX12_233 rfl rfl rfl rfl ?_
  refine E.iload_n 1 dX12_emit_8 rfl ?_
  obtain ⟨g1, hf⟩ := gd_some hf
  refine E.iast (es' := (wM G b o v_thrown v_status a_refusals a_row a_images a_isKept a_tape v_taped v_from v_to v_sort v_worth v_fault v_bad v_nClauses a_nClause v_nCode (va_up a_nOp (v_nCode : Int32).toNatClampNeg x1) a_nArg v_nLeaves a_pile a_pileAt v_piled v_opened a_words a_headWords v_law a_set a_rest v_broken v_value v_sum a_chances a_votes a_costs a_table a_prices v_surely a_mostBy a_leastBy v_between v_steadyWays v_quashed v_but a_figures a_all a_lies a_since v_last v_state)) hw 7 (o + 7) dX12_emit_9 rfl rfl g1 rfl ?_
  refine E.aload_n 0 dX12_emit_10 rfl ?_
  refine E.get hw 0 o dX12_emit_11 flX12_36 rfl rfl rfl rfl ?_
  refine E.aload_n 0 dX12_emit_14 rfl ?_
  refine E.get hw 0 o dX12_emit_15 flX12_233 rfl rfl rfl rfl ?_
  refine E.iload_n 2 dX12_emit_18 rfl ?_
  obtain ⟨g2, hf⟩ := gd_some hf
  refine E.iast (es' := (wM G b o v_thrown v_status a_refusals a_row a_images a_isKept a_tape v_taped v_from v_to v_sort v_worth v_fault v_bad v_nClauses a_nClause v_nCode (va_up a_nOp (v_nCode : Int32).toNatClampNeg x1) (va_up a_nArg (v_nCode : Int32).toNatClampNeg x2) v_nLeaves a_pile a_pileAt v_piled v_opened a_words a_headWords v_law a_set a_rest v_broken v_value v_sum a_chances a_votes a_costs a_table a_prices v_surely a_mostBy a_leastBy v_between v_steadyWays v_quashed v_but a_figures a_all a_lies a_since v_last v_state)) hw 8 (o + 8) dX12_emit_19 rfl rfl g2 rfl ?_
  refine E.aload_n 0 dX12_emit_20 rfl ?_
  refine E.dup dX12_emit_21 rfl ?_
  refine E.get hw 0 o dX12_emit_22 flX12_233 rfl rfl rfl rfl ?_
  refine E.iconst (v := 1) dX12_emit_25 (by decide) ?_
  refine E.iadd dX12_emit_26 ?_
  refine E.put (es' := (wM G b o v_thrown v_status a_refusals a_row a_images a_isKept a_tape v_taped v_from v_to v_sort v_worth v_fault v_bad v_nClauses a_nClause (v_nCode + 1) (va_up a_nOp (v_nCode : Int32).toNatClampNeg x1) (va_up a_nArg (v_nCode : Int32).toNatClampNeg x2) v_nLeaves a_pile a_pileAt v_piled v_opened a_words a_headWords v_law a_set a_rest v_broken v_value v_sum a_chances a_votes a_costs a_table a_prices v_surely a_mostBy a_leastBy v_between v_steadyWays v_quashed v_but a_figures a_all a_lies a_since v_last v_state)) hw 0 o dX12_emit_27 flX12_233 ftX12 rfl rfl rfl rfl rfl rfl (Nat.le_of_ble_eq_true rfl) rfl ?_
  cases hf
  exact E.vret dX12_emit_30 (Nat.le_refl _) (Nat.le_refl _) (pD_rf _ _ _)
set_option maxRecDepth 100000 in
theorem mX12_emit {G : GT} {b : Nat} {o : Nat} {c0 : Hp} {n : Nat} (hw : e_wf (kM o) n) {v_thrown : Int32} {v_status : Int32} {a_refusals : Nat → Int32} {a_row : Nat → Int32} {a_images : Nat → Int32} {a_isKept : Nat → Int32} {a_tape : Nat → Int32} {v_taped : Int32} {v_from : Int32} {v_to : Int32} {v_sort : Int32} {v_worth : Int64} {v_fault : Int32} {v_bad : Int32} {v_nClauses : Int32} {a_nClause : Nat → Int32} {v_nLeaves : Int32} {a_pile : Nat → Int32} {a_pileAt : Nat → Int32} {v_piled : Int32} {v_opened : Int32} {a_words : Nat → Int64} {a_headWords : Nat → Int64} {v_law : Int32} {a_set : Nat → Int64} {a_rest : Nat → Int64} {v_broken : Int32} {v_value : Int64} {v_sum : Int64} {a_chances : Nat → Int32} {a_votes : Nat → Int64} {a_costs : Nat → Int32} {a_table : Nat → Int64} {a_prices : Nat → Int32} {v_surely : Int64} {a_mostBy : Nat → Int64} {a_leastBy : Nat → Int64} {v_between : Int64} {v_steadyWays : Int32} {v_quashed : Int32} {v_but : Int32} {a_figures : Nat → Int32} {a_all : Nat → Int32} {a_lies : Nat → Int32} {a_since : Nat → Int32} {v_last : Int32} {v_state : Int64} {v_nCode : Int32} {a_nOp : Nat → Int32} {a_nArg : Nat → Int32} {x1 : Int32} {x2 : Int32} {R : Int32 × (Nat → Int32) × (Nat → Int32)} (hf : fX12_emit v_nCode a_nOp a_nArg x1 x2 = some R) : e_C G b yX12_emit cX12_emit 3 none 0 0 0 [.ref (b + o), .int x1, .int x2] (e_ov (kM o) (wM G b o v_thrown v_status a_refusals a_row a_images a_isKept a_tape v_taped v_from v_to v_sort v_worth v_fault v_bad v_nClauses a_nClause v_nCode a_nOp a_nArg v_nLeaves a_pile a_pileAt v_piled v_opened a_words a_headWords v_law a_set a_rest v_broken v_value v_sum a_chances a_votes a_costs a_table a_prices v_surely a_mostBy a_leastBy v_between v_steadyWays v_quashed v_but a_figures a_all a_lies a_since v_last v_state) c0) n (pD none (e_ov (kM o) (wM G b o v_thrown v_status a_refusals a_row a_images a_isKept a_tape v_taped v_from v_to v_sort v_worth v_fault v_bad v_nClauses a_nClause R.1 R.2.1 R.2.2 v_nLeaves a_pile a_pileAt v_piled v_opened a_words a_headWords v_law a_set a_rest v_broken v_value v_sum a_chances a_votes a_costs a_table a_prices v_surely a_mostBy a_leastBy v_between v_steadyWays v_quashed v_but a_figures a_all a_lies a_since v_last v_state) c0) n) := e_C.of (by decide) (Nat.le_of_ble_eq_true rfl) (tX12_emit hw hf)
def fX12_push (a_pile : Nat → Int32) (a_pileAt : Nat → Int32) (v_piled : Int32) (x1 : Int32) (x2 : Int32) : Option ((Nat → Int32) × (Nat → Int32) × Int32) := gd v_piled 400 (gd v_piled 400 (some ((va_up a_pile (v_piled : Int32).toNatClampNeg x1), (va_up a_pileAt (v_piled : Int32).toNatClampNeg x2), (v_piled + 1))))
set_option maxHeartbeats 4000000 in
set_option maxRecDepth 100000 in
theorem tX12_push {G : GT} {b : Nat} {o : Nat} {c0 : Hp} {n : Nat} (hw : e_wf (kM o) n) {v_thrown : Int32} {v_status : Int32} {a_refusals : Nat → Int32} {a_row : Nat → Int32} {a_images : Nat → Int32} {a_isKept : Nat → Int32} {a_tape : Nat → Int32} {v_taped : Int32} {v_from : Int32} {v_to : Int32} {v_sort : Int32} {v_worth : Int64} {v_fault : Int32} {v_bad : Int32} {v_nClauses : Int32} {a_nClause : Nat → Int32} {v_nCode : Int32} {a_nOp : Nat → Int32} {a_nArg : Nat → Int32} {v_nLeaves : Int32} {v_opened : Int32} {a_words : Nat → Int64} {a_headWords : Nat → Int64} {v_law : Int32} {a_set : Nat → Int64} {a_rest : Nat → Int64} {v_broken : Int32} {v_value : Int64} {v_sum : Int64} {a_chances : Nat → Int32} {a_votes : Nat → Int64} {a_costs : Nat → Int32} {a_table : Nat → Int64} {a_prices : Nat → Int32} {v_surely : Int64} {a_mostBy : Nat → Int64} {a_leastBy : Nat → Int64} {v_between : Int64} {v_steadyWays : Int32} {v_quashed : Int32} {v_but : Int32} {a_figures : Nat → Int32} {a_all : Nat → Int32} {a_lies : Nat → Int32} {a_since : Nat → Int32} {v_last : Int32} {v_state : Int64} {a_pile : Nat → Int32} {a_pileAt : Nat → Int32} {v_piled : Int32} {x1 : Int32} {x2 : Int32} {R : (Nat → Int32) × (Nat → Int32) × Int32} (hf : fX12_push a_pile a_pileAt v_piled x1 x2 = some R) : E G b yX12_push cX12_push 3 none (e_rm 0 0 0) e_X0 (e_Z G b (pD none (e_ov (kM o) (wM G b o v_thrown v_status a_refusals a_row a_images a_isKept a_tape v_taped v_from v_to v_sort v_worth v_fault v_bad v_nClauses a_nClause v_nCode a_nOp a_nArg v_nLeaves R.1 R.2.1 R.2.2 v_opened a_words a_headWords v_law a_set a_rest v_broken v_value v_sum a_chances a_votes a_costs a_table a_prices v_surely a_mostBy a_leastBy v_between v_steadyWays v_quashed v_but a_figures a_all a_lies a_since v_last v_state) c0) n) 0 0) 0 [(0, .ref (b + o)), (1, .int x1), (2, .int x2)] [] (e_ov (kM o) (wM G b o v_thrown v_status a_refusals a_row a_images a_isKept a_tape v_taped v_from v_to v_sort v_worth v_fault v_bad v_nClauses a_nClause v_nCode a_nOp a_nArg v_nLeaves a_pile a_pileAt v_piled v_opened a_words a_headWords v_law a_set a_rest v_broken v_value v_sum a_chances a_votes a_costs a_table a_prices v_surely a_mostBy a_leastBy v_between v_steadyWays v_quashed v_but a_figures a_all a_lies a_since v_last v_state) c0) n 0 0 := by
  unfold fX12_push at hf
  refine E.aload_n 0 dX12_push_0 rfl ?_
  refine E.get hw 0 o dX12_push_1 flX12_39 rfl rfl rfl rfl ?_
  refine E.aload_n 0 dX12_push_4 rfl ?_
  refine E.get hw 0 o dX12_push_5 flX12_236 rfl rfl rfl rfl ?_
  refine E.iload_n 1 dX12_push_8 rfl ?_
  obtain ⟨g1, hf⟩ := gd_some hf
  refine E.iast (es' := (wM G b o v_thrown v_status a_refusals a_row a_images a_isKept a_tape v_taped v_from v_to v_sort v_worth v_fault v_bad v_nClauses a_nClause v_nCode a_nOp a_nArg v_nLeaves (va_up a_pile (v_piled : Int32).toNatClampNeg x1) a_pileAt v_piled v_opened a_words a_headWords v_law a_set a_rest v_broken v_value v_sum a_chances a_votes a_costs a_table a_prices v_surely a_mostBy a_leastBy v_between v_steadyWays v_quashed v_but a_figures a_all a_lies a_since v_last v_state)) hw 9 (o + 9) dX12_push_9 rfl rfl g1 rfl ?_
  refine E.aload_n 0 dX12_push_10 rfl ?_
  refine E.get hw 0 o dX12_push_11 flX12_42 rfl rfl rfl rfl ?_
  refine E.aload_n 0 dX12_push_14 rfl ?_
  refine E.get hw 0 o dX12_push_15 flX12_236 rfl rfl rfl rfl ?_
  refine E.iload_n 2 dX12_push_18 rfl ?_
  obtain ⟨g2, hf⟩ := gd_some hf
  refine E.iast (es' := (wM G b o v_thrown v_status a_refusals a_row a_images a_isKept a_tape v_taped v_from v_to v_sort v_worth v_fault v_bad v_nClauses a_nClause v_nCode a_nOp a_nArg v_nLeaves (va_up a_pile (v_piled : Int32).toNatClampNeg x1) (va_up a_pileAt (v_piled : Int32).toNatClampNeg x2) v_piled v_opened a_words a_headWords v_law a_set a_rest v_broken v_value v_sum a_chances a_votes a_costs a_table a_prices v_surely a_mostBy a_leastBy v_between v_steadyWays v_quashed v_but a_figures a_all a_lies a_since v_last v_state)) hw 10 (o + 10) dX12_push_19 rfl rfl g2 rfl ?_
  refine E.aload_n 0 dX12_push_20 rfl ?_
  refine E.dup dX12_push_21 rfl ?_
  refine E.get hw 0 o dX12_push_22 flX12_236 rfl rfl rfl rfl ?_
  refine E.iconst (v := 1) dX12_push_25 (by decide) ?_
  refine E.iadd dX12_push_26 ?_
  refine E.put (es' := (wM G b o v_thrown v_status a_refusals a_row a_images a_isKept a_tape v_taped v_from v_to v_sort v_worth v_fault v_bad v_nClauses a_nClause v_nCode a_nOp a_nArg v_nLeaves (va_up a_pile (v_piled : Int32).toNatClampNeg x1) (va_up a_pileAt (v_piled : Int32).toNatClampNeg x2) (v_piled + 1) v_opened a_words a_headWords v_law a_set a_rest v_broken v_value v_sum a_chances a_votes a_costs a_table a_prices v_surely a_mostBy a_leastBy v_between v_steadyWays v_quashed v_but a_figures a_all a_lies a_since v_last v_state)) hw 0 o dX12_push_27 flX12_236 ftX12 rfl rfl rfl rfl rfl rfl (Nat.le_of_ble_eq_true rfl) rfl ?_
  cases hf
  exact E.vret dX12_push_30 (Nat.le_refl _) (Nat.le_refl _) (pD_rf _ _ _)
set_option maxRecDepth 100000 in
theorem mX12_push {G : GT} {b : Nat} {o : Nat} {c0 : Hp} {n : Nat} (hw : e_wf (kM o) n) {v_thrown : Int32} {v_status : Int32} {a_refusals : Nat → Int32} {a_row : Nat → Int32} {a_images : Nat → Int32} {a_isKept : Nat → Int32} {a_tape : Nat → Int32} {v_taped : Int32} {v_from : Int32} {v_to : Int32} {v_sort : Int32} {v_worth : Int64} {v_fault : Int32} {v_bad : Int32} {v_nClauses : Int32} {a_nClause : Nat → Int32} {v_nCode : Int32} {a_nOp : Nat → Int32} {a_nArg : Nat → Int32} {v_nLeaves : Int32} {v_opened : Int32} {a_words : Nat → Int64} {a_headWords : Nat → Int64} {v_law : Int32} {a_set : Nat → Int64} {a_rest : Nat → Int64} {v_broken : Int32} {v_value : Int64} {v_sum : Int64} {a_chances : Nat → Int32} {a_votes : Nat → Int64} {a_costs : Nat → Int32} {a_table : Nat → Int64} {a_prices : Nat → Int32} {v_surely : Int64} {a_mostBy : Nat → Int64} {a_leastBy : Nat → Int64} {v_between : Int64} {v_steadyWays : Int32} {v_quashed : Int32} {v_but : Int32} {a_figures : Nat → Int32} {a_all : Nat → Int32} {a_lies : Nat → Int32} {a_since : Nat → Int32} {v_last : Int32} {v_state : Int64} {a_pile : Nat → Int32} {a_pileAt : Nat → Int32} {v_piled : Int32} {x1 : Int32} {x2 : Int32} {R : (Nat → Int32) × (Nat → Int32) × Int32} (hf : fX12_push a_pile a_pileAt v_piled x1 x2 = some R) : e_C G b yX12_push cX12_push 3 none 0 0 0 [.ref (b + o), .int x1, .int x2] (e_ov (kM o) (wM G b o v_thrown v_status a_refusals a_row a_images a_isKept a_tape v_taped v_from v_to v_sort v_worth v_fault v_bad v_nClauses a_nClause v_nCode a_nOp a_nArg v_nLeaves a_pile a_pileAt v_piled v_opened a_words a_headWords v_law a_set a_rest v_broken v_value v_sum a_chances a_votes a_costs a_table a_prices v_surely a_mostBy a_leastBy v_between v_steadyWays v_quashed v_but a_figures a_all a_lies a_since v_last v_state) c0) n (pD none (e_ov (kM o) (wM G b o v_thrown v_status a_refusals a_row a_images a_isKept a_tape v_taped v_from v_to v_sort v_worth v_fault v_bad v_nClauses a_nClause v_nCode a_nOp a_nArg v_nLeaves R.1 R.2.1 R.2.2 v_opened a_words a_headWords v_law a_set a_rest v_broken v_value v_sum a_chances a_votes a_costs a_table a_prices v_surely a_mostBy a_leastBy v_between v_steadyWays v_quashed v_but a_figures a_all a_lies a_since v_last v_state) c0) n) := e_C.of (by decide) (Nat.le_of_ble_eq_true rfl) (tX12_push hw hf)
def fX12_binds (x0 : Int32) : Option (Int32) := if (x0 : Int32) < (30 : Int32) then (if (x0 : Int32) = (29 : Int32) then (some (1)) else (if (x0 : Int32) = (28 : Int32) then (some (2)) else (if (x0 : Int32) = (27 : Int32) then (some (3)) else (if (x0 : Int32) < (24 : Int32) then (if (x0 : Int32) < (22 : Int32) then (some (5)) else (some (6))) else (some (4)))))) else (some (0))
set_option maxHeartbeats 4000000 in
set_option maxRecDepth 100000 in
theorem tX12_binds {G : GT} {b : Nat} {c : Hp} {n : Nat} {x0 : Int32} {R : Int32} (hf : fX12_binds x0 = some R) : E G b yX12_binds cX12_binds 1 (some .int) (e_rm 0 0 0) e_X0 (e_Z G b (pD (some (.int R)) c n) 0 0) 0 [(0, .int x0)] [] c n 0 0 := by
  unfold fX12_binds at hf
  refine E.iload_n 0 dX12_binds_0 rfl ?_
  refine E.bipush (v := 30) dX12_binds_1 (by decide) ?_
  refine E.icmp_lt dX12_binds_3 (fun h => ?_) (fun h => ?_)
  · have hf := e_ift hf h
    refine E.iload_n 0 dX12_binds_10 rfl ?_
    refine E.bipush (v := 29) dX12_binds_11 (by decide) ?_
    refine E.icmp_ne dX12_binds_13 (fun h => ?_) (fun h => ?_)
    · have hf := e_iff hf h
      refine E.iload_n 0 dX12_binds_20 rfl ?_
      refine E.bipush (v := 28) dX12_binds_21 (by decide) ?_
      refine E.icmp_ne dX12_binds_23 (fun h => ?_) (fun h => ?_)
      · have hf := e_iff hf h
        refine E.iload_n 0 dX12_binds_30 rfl ?_
        refine E.bipush (v := 27) dX12_binds_31 (by decide) ?_
        refine E.icmp_ne dX12_binds_33 (fun h => ?_) (fun h => ?_)
        · have hf := e_iff hf h
          refine E.iload_n 0 dX12_binds_40 rfl ?_
          refine E.bipush (v := 24) dX12_binds_41 (by decide) ?_
          refine E.icmp_lt dX12_binds_43 (fun h => ?_) (fun h => ?_)
          · have hf := e_ift hf h
            refine E.iload_n 0 dX12_binds_50 rfl ?_
            refine E.bipush (v := 22) dX12_binds_51 (by decide) ?_
            refine E.icmp_lt dX12_binds_53 (fun h => ?_) (fun h => ?_)
            · have hf := e_ift hf h
              refine E.iconst (v := 5) dX12_binds_61 (by decide) ?_
              cases hf
              exact E.iret dX12_binds_62 (Nat.le_refl _) (Nat.le_refl _) (pD_rf _ _ _)
            · have hf := e_iff hf h
              refine E.bipush (v := 6) dX12_binds_56 (by decide) ?_
              refine E.goto dX12_binds_58 ?_
              cases hf
              exact E.iret dX12_binds_62 (Nat.le_refl _) (Nat.le_refl _) (pD_rf _ _ _)
          · have hf := e_iff hf h
            refine E.iconst (v := 4) dX12_binds_46 (by decide) ?_
            refine E.goto dX12_binds_47 ?_
            cases hf
            exact E.iret dX12_binds_62 (Nat.le_refl _) (Nat.le_refl _) (pD_rf _ _ _)
        · have hf := e_ift hf h
          refine E.iconst (v := 3) dX12_binds_36 (by decide) ?_
          refine E.goto dX12_binds_37 ?_
          cases hf
          exact E.iret dX12_binds_62 (Nat.le_refl _) (Nat.le_refl _) (pD_rf _ _ _)
      · have hf := e_ift hf h
        refine E.iconst (v := 2) dX12_binds_26 (by decide) ?_
        refine E.goto dX12_binds_27 ?_
        cases hf
        exact E.iret dX12_binds_62 (Nat.le_refl _) (Nat.le_refl _) (pD_rf _ _ _)
    · have hf := e_ift hf h
      refine E.iconst (v := 1) dX12_binds_16 (by decide) ?_
      refine E.goto dX12_binds_17 ?_
      cases hf
      exact E.iret dX12_binds_62 (Nat.le_refl _) (Nat.le_refl _) (pD_rf _ _ _)
  · have hf := e_iff hf h
    refine E.iconst (v := 0) dX12_binds_6 (by decide) ?_
    refine E.goto dX12_binds_7 ?_
    cases hf
    exact E.iret dX12_binds_62 (Nat.le_refl _) (Nat.le_refl _) (pD_rf _ _ _)
set_option maxRecDepth 100000 in
theorem mX12_binds {G : GT} {b : Nat} {c : Hp} {n : Nat} {x0 : Int32} {R : Int32} (hf : fX12_binds x0 = some R) : e_C G b yX12_binds cX12_binds 1 (some .int) 0 0 0 [.int x0] c n (pD (some (.int R)) c n) := e_C.of (by decide) (Nat.le_of_ble_eq_true rfl) (tX12_binds hf)
def fX12_settle_L63 (Fu : Nat) (k0 : Int32 → (Nat → Int32) → (Nat → Int32) → (Nat → Int32) → (Nat → Int32) → Int32 → Int32 → Option (Int32 × (Nat → Int32) × (Nat → Int32) × Int32)) (v_nCode : Int32) (a_nOp : Nat → Int32) (a_nArg : Nat → Int32) (a_pile : Nat → Int32) (a_pileAt : Nat → Int32) (v_piled : Int32) (x1 : Int32) : Option (Int32 × (Nat → Int32) × (Nat → Int32) × Int32) := gd v_piled 400 (gd (a_pileAt (v_piled : Int32).toNatClampNeg) 400 (k0 v_nCode a_nOp (va_up a_nArg ((a_pileAt (v_piled : Int32).toNatClampNeg) : Int32).toNatClampNeg v_nCode) a_pile a_pileAt v_piled x1))
set_option maxHeartbeats 4000000 in
set_option maxRecDepth 100000 in
theorem tX12_settle_L63 {G : GT} {b : Nat} {o : Nat} {c0 : Hp} {n : Nat} (hw : e_wf (kM o) n) {v_thrown : Int32} {v_status : Int32} {a_refusals : Nat → Int32} {a_row : Nat → Int32} {a_images : Nat → Int32} {a_isKept : Nat → Int32} {a_tape : Nat → Int32} {v_taped : Int32} {v_from : Int32} {v_to : Int32} {v_sort : Int32} {v_worth : Int64} {v_fault : Int32} {v_bad : Int32} {v_nClauses : Int32} {a_nClause : Nat → Int32} {v_nLeaves : Int32} {v_opened : Int32} {a_words : Nat → Int64} {a_headWords : Nat → Int64} {v_law : Int32} {a_set : Nat → Int64} {a_rest : Nat → Int64} {v_broken : Int32} {v_value : Int64} {v_sum : Int64} {a_chances : Nat → Int32} {a_votes : Nat → Int64} {a_costs : Nat → Int32} {a_table : Nat → Int64} {a_prices : Nat → Int32} {v_surely : Int64} {a_mostBy : Nat → Int64} {a_leastBy : Nat → Int64} {v_between : Int64} {v_steadyWays : Int32} {v_quashed : Int32} {v_but : Int32} {a_figures : Nat → Int32} {a_all : Nat → Int32} {a_lies : Nat → Int32} {a_since : Nat → Int32} {v_last : Int32} {v_state : Int64} {Fu : Nat} {k0 : Int32 → (Nat → Int32) → (Nat → Int32) → (Nat → Int32) → (Nat → Int32) → Int32 → Int32 → Option (Int32 × (Nat → Int32) × (Nat → Int32) × Int32)} (hk0 : ∀ {v_nCode : Int32} {a_nOp : Nat → Int32} {a_nArg : Nat → Int32} {a_pile : Nat → Int32} {a_pileAt : Nat → Int32} {v_piled : Int32} {x1 : Int32} {R : Int32 × (Nat → Int32) × (Nat → Int32) × Int32}, k0 v_nCode a_nOp a_nArg a_pile a_pileAt v_piled x1 = some R → E G b yX12_settle cX12_settle 2 none (e_rm 1 0 0) e_X0 (e_Z G b (pD none (e_ov (kM o) (wM G b o v_thrown v_status a_refusals a_row a_images a_isKept a_tape v_taped v_from v_to v_sort v_worth v_fault v_bad v_nClauses a_nClause R.1 R.2.1 R.2.2.1 v_nLeaves a_pile a_pileAt R.2.2.2 v_opened a_words a_headWords v_law a_set a_rest v_broken v_value v_sum a_chances a_votes a_costs a_table a_prices v_surely a_mostBy a_leastBy v_between v_steadyWays v_quashed v_but a_figures a_all a_lies a_since v_last v_state) c0) n) 0 0) 0 [(0, .ref (b + o)), (1, .int x1)] [] (e_ov (kM o) (wM G b o v_thrown v_status a_refusals a_row a_images a_isKept a_tape v_taped v_from v_to v_sort v_worth v_fault v_bad v_nClauses a_nClause v_nCode a_nOp a_nArg v_nLeaves a_pile a_pileAt v_piled v_opened a_words a_headWords v_law a_set a_rest v_broken v_value v_sum a_chances a_votes a_costs a_table a_prices v_surely a_mostBy a_leastBy v_between v_steadyWays v_quashed v_but a_figures a_all a_lies a_since v_last v_state) c0) n 0 0) {v_nCode : Int32} {a_nOp : Nat → Int32} {a_nArg : Nat → Int32} {a_pile : Nat → Int32} {a_pileAt : Nat → Int32} {v_piled : Int32} {x1 : Int32} {R : Int32 × (Nat → Int32) × (Nat → Int32) × Int32} (hf : fX12_settle_L63 Fu k0 v_nCode a_nOp a_nArg a_pile a_pileAt v_piled x1 = some R) : E G b yX12_settle cX12_settle 2 none (e_rm 1 0 0) e_X0 (e_Z G b (pD none (e_ov (kM o) (wM G b o v_thrown v_status a_refusals a_row a_images a_isKept a_tape v_taped v_from v_to v_sort v_worth v_fault v_bad v_nClauses a_nClause R.1 R.2.1 R.2.2.1 v_nLeaves a_pile a_pileAt R.2.2.2 v_opened a_words a_headWords v_law a_set a_rest v_broken v_value v_sum a_chances a_votes a_costs a_table a_prices v_surely a_mostBy a_leastBy v_between v_steadyWays v_quashed v_but a_figures a_all a_lies a_since v_last v_state) c0) n) 0 0) 63 [(0, .ref (b + o)), (1, .int x1)] [] (e_ov (kM o) (wM G b o v_thrown v_status a_refusals a_row a_images a_isKept a_tape v_taped v_from v_to v_sort v_worth v_fault v_bad v_nClauses a_nClause v_nCode a_nOp a_nArg v_nLeaves a_pile a_pileAt v_piled v_opened a_words a_headWords v_law a_set a_rest v_broken v_value v_sum a_chances a_votes a_costs a_table a_prices v_surely a_mostBy a_leastBy v_between v_steadyWays v_quashed v_but a_figures a_all a_lies a_since v_last v_state) c0) n 0 0 := by
  unfold fX12_settle_L63 at hf
  refine E.aload_n 0 dX12_settle_63 rfl ?_
  refine E.get hw 0 o dX12_settle_64 flX12_36 rfl rfl rfl rfl ?_
  refine E.aload_n 0 dX12_settle_67 rfl ?_
  refine E.get hw 0 o dX12_settle_68 flX12_42 rfl rfl rfl rfl ?_
  refine E.aload_n 0 dX12_settle_71 rfl ?_
  refine E.get hw 0 o dX12_settle_72 flX12_236 rfl rfl rfl rfl ?_
  obtain ⟨g7, hf⟩ := gd_some hf
  refine E.iald hw 10 (o + 10) dX12_settle_75 rfl rfl g7 ?_
  refine E.aload_n 0 dX12_settle_76 rfl ?_
  refine E.get hw 0 o dX12_settle_77 flX12_233 rfl rfl rfl rfl ?_
  obtain ⟨g8, hf⟩ := gd_some hf
  refine E.iast (es' := (wM G b o v_thrown v_status a_refusals a_row a_images a_isKept a_tape v_taped v_from v_to v_sort v_worth v_fault v_bad v_nClauses a_nClause v_nCode a_nOp (va_up a_nArg ((a_pileAt (v_piled : Int32).toNatClampNeg) : Int32).toNatClampNeg v_nCode) v_nLeaves a_pile a_pileAt v_piled v_opened a_words a_headWords v_law a_set a_rest v_broken v_value v_sum a_chances a_votes a_costs a_table a_prices v_surely a_mostBy a_leastBy v_between v_steadyWays v_quashed v_but a_figures a_all a_lies a_since v_last v_state)) hw 8 (o + 8) dX12_settle_80 rfl rfl g8 rfl ?_
  refine E.goto dX12_settle_81 ?_
  exact hk0 hf
def fX12_settle_L0 (Fu : Nat) : Nat → Int32 → (Nat → Int32) → (Nat → Int32) → (Nat → Int32) → (Nat → Int32) → Int32 → Int32 → Option (Int32 × (Nat → Int32) × (Nat → Int32) × Int32)
  | 0, _, _, _, _, _, _, _ => none
  | k + 1, v_nCode, a_nOp, a_nArg, a_pile, a_pileAt, v_piled, x1 => if (v_piled : Int32) ≤ 0 then (some (v_nCode, a_nOp, a_nArg, v_piled)) else (gd (v_piled - 1) 400 ((fX12_binds (a_pile ((v_piled - 1) : Int32).toNatClampNeg)).bind fun r2 => (if (r2 : Int32) < (x1 : Int32) then (some (v_nCode, a_nOp, a_nArg, v_piled)) else (gd (v_piled - 1) 400 (if ((a_pile ((v_piled - 1) : Int32).toNatClampNeg) : Int32) = (28 : Int32) then (fX12_settle_L63 Fu (fX12_settle_L0 Fu k) v_nCode a_nOp a_nArg a_pile a_pileAt (v_piled - 1) x1) else (gd (v_piled - 1) 400 (if ((a_pile ((v_piled - 1) : Int32).toNatClampNeg) : Int32) = (29 : Int32) then (fX12_settle_L63 Fu (fX12_settle_L0 Fu k) v_nCode a_nOp a_nArg a_pile a_pileAt (v_piled - 1) x1) else (gd (v_piled - 1) 400 ((fX12_emit v_nCode a_nOp a_nArg (a_pile ((v_piled - 1) : Int32).toNatClampNeg) 0).bind fun r6 => ((fX12_settle_L0 Fu k) r6.1 r6.2.1 r6.2.2 a_pile a_pileAt (v_piled - 1) x1))))))))))
set_option maxHeartbeats 4000000 in
set_option maxRecDepth 100000 in
theorem tX12_settle_L0 {G : GT} {b : Nat} {o : Nat} {c0 : Hp} {n : Nat} (hw : e_wf (kM o) n) {v_thrown : Int32} {v_status : Int32} {a_refusals : Nat → Int32} {a_row : Nat → Int32} {a_images : Nat → Int32} {a_isKept : Nat → Int32} {a_tape : Nat → Int32} {v_taped : Int32} {v_from : Int32} {v_to : Int32} {v_sort : Int32} {v_worth : Int64} {v_fault : Int32} {v_bad : Int32} {v_nClauses : Int32} {a_nClause : Nat → Int32} {v_nLeaves : Int32} {v_opened : Int32} {a_words : Nat → Int64} {a_headWords : Nat → Int64} {v_law : Int32} {a_set : Nat → Int64} {a_rest : Nat → Int64} {v_broken : Int32} {v_value : Int64} {v_sum : Int64} {a_chances : Nat → Int32} {a_votes : Nat → Int64} {a_costs : Nat → Int32} {a_table : Nat → Int64} {a_prices : Nat → Int32} {v_surely : Int64} {a_mostBy : Nat → Int64} {a_leastBy : Nat → Int64} {v_between : Int64} {v_steadyWays : Int32} {v_quashed : Int32} {v_but : Int32} {a_figures : Nat → Int32} {a_all : Nat → Int32} {a_lies : Nat → Int32} {a_since : Nat → Int32} {v_last : Int32} {v_state : Int64} {Fu : Nat} : ∀ (k : Nat) {v_nCode : Int32} {a_nOp : Nat → Int32} {a_nArg : Nat → Int32} {a_pile : Nat → Int32} {a_pileAt : Nat → Int32} {v_piled : Int32} {x1 : Int32} {R : Int32 × (Nat → Int32) × (Nat → Int32) × Int32}, fX12_settle_L0 Fu k v_nCode a_nOp a_nArg a_pile a_pileAt v_piled x1 = some R → E G b yX12_settle cX12_settle 2 none (e_rm 1 0 0) e_X0 (e_Z G b (pD none (e_ov (kM o) (wM G b o v_thrown v_status a_refusals a_row a_images a_isKept a_tape v_taped v_from v_to v_sort v_worth v_fault v_bad v_nClauses a_nClause R.1 R.2.1 R.2.2.1 v_nLeaves a_pile a_pileAt R.2.2.2 v_opened a_words a_headWords v_law a_set a_rest v_broken v_value v_sum a_chances a_votes a_costs a_table a_prices v_surely a_mostBy a_leastBy v_between v_steadyWays v_quashed v_but a_figures a_all a_lies a_since v_last v_state) c0) n) 0 0) 0 [(0, .ref (b + o)), (1, .int x1)] [] (e_ov (kM o) (wM G b o v_thrown v_status a_refusals a_row a_images a_isKept a_tape v_taped v_from v_to v_sort v_worth v_fault v_bad v_nClauses a_nClause v_nCode a_nOp a_nArg v_nLeaves a_pile a_pileAt v_piled v_opened a_words a_headWords v_law a_set a_rest v_broken v_value v_sum a_chances a_votes a_costs a_table a_prices v_surely a_mostBy a_leastBy v_between v_steadyWays v_quashed v_but a_figures a_all a_lies a_since v_last v_state) c0) n 0 0 := by
  intro k
  induction k with
  | zero =>
    intro _ _ _ _ _ _ _ _ hf
    have hf : (none : Option (Int32 × (Nat → Int32) × (Nat → Int32) × Int32)) = some _ := hf
    cases hf
  | succ k ih =>
    intro v_nCode a_nOp a_nArg a_pile a_pileAt v_piled x1 R hf
    rw [fX12_settle_L0] at hf
    refine E.aload_n 0 dX12_settle_0 rfl ?_
    refine E.get hw 0 o dX12_settle_1 flX12_236 rfl rfl rfl rfl ?_
    refine E.if_le dX12_settle_4 (fun h => ?_) (fun h => ?_)
    · have hf := e_ift hf h
      cases hf
      exact E.vret dX12_settle_101 (Nat.le_refl _) (Nat.le_refl _) (pD_rf _ _ _)
    · have hf := e_iff hf h
      refine E.aload_n 0 dX12_settle_7 rfl ?_
      refine E.get hw 0 o dX12_settle_8 flX12_39 rfl rfl rfl rfl ?_
      refine E.aload_n 0 dX12_settle_11 rfl ?_
      refine E.get hw 0 o dX12_settle_12 flX12_236 rfl rfl rfl rfl ?_
      refine E.iconst (v := 1) dX12_settle_15 (by decide) ?_
      refine E.isub dX12_settle_16 ?_
      obtain ⟨g1, hf⟩ := gd_some hf
      refine E.iald hw 9 (o + 9) dX12_settle_17 rfl rfl g1 ?_
      obtain ⟨r2, hc2, hf⟩ := e_bind hf
      refine E.callSD [] dX12_settle_18 mlX12_239 (mX12_binds hc2) ⟨Nat.le_of_ble_eq_true rfl, Nat.le_of_ble_eq_true rfl⟩ rfl rfl (Nat.le_of_ble_eq_true rfl) ⟨Nat.le_refl _, Nat.le_refl _⟩ rfl ?_
      refine E.iload_n 1 dX12_settle_21 rfl ?_
      refine E.icmp_lt dX12_settle_22 (fun h => ?_) (fun h => ?_)
      · have hf := e_ift hf h
        cases hf
        exact E.vret dX12_settle_101 (Nat.le_refl _) (Nat.le_refl _) (pD_rf _ _ _)
      · have hf := e_iff hf h
        refine E.aload_n 0 dX12_settle_25 rfl ?_
        refine E.dup dX12_settle_26 rfl ?_
        refine E.get hw 0 o dX12_settle_27 flX12_236 rfl rfl rfl rfl ?_
        refine E.iconst (v := 1) dX12_settle_30 (by decide) ?_
        refine E.isub dX12_settle_31 ?_
        refine E.put (es' := (wM G b o v_thrown v_status a_refusals a_row a_images a_isKept a_tape v_taped v_from v_to v_sort v_worth v_fault v_bad v_nClauses a_nClause v_nCode a_nOp a_nArg v_nLeaves a_pile a_pileAt (v_piled - 1) v_opened a_words a_headWords v_law a_set a_rest v_broken v_value v_sum a_chances a_votes a_costs a_table a_prices v_surely a_mostBy a_leastBy v_between v_steadyWays v_quashed v_but a_figures a_all a_lies a_since v_last v_state)) hw 0 o dX12_settle_32 flX12_236 ftX12 rfl rfl rfl rfl rfl rfl (Nat.le_of_ble_eq_true rfl) rfl ?_
        refine E.aload_n 0 dX12_settle_35 rfl ?_
        refine E.get hw 0 o dX12_settle_36 flX12_39 rfl rfl rfl rfl ?_
        refine E.aload_n 0 dX12_settle_39 rfl ?_
        refine E.get hw 0 o dX12_settle_40 flX12_236 rfl rfl rfl rfl ?_
        obtain ⟨g3, hf⟩ := gd_some hf
        refine E.iald hw 9 (o + 9) dX12_settle_43 rfl rfl g3 ?_
        refine E.bipush (v := 28) dX12_settle_44 (by decide) ?_
        refine E.icmp_eq dX12_settle_46 (fun h => ?_) (fun h => ?_)
        · have hf := e_ift hf h
          exact tX12_settle_L63 hw ih hf
        · have hf := e_iff hf h
          refine E.aload_n 0 dX12_settle_49 rfl ?_
          refine E.get hw 0 o dX12_settle_50 flX12_39 rfl rfl rfl rfl ?_
          refine E.aload_n 0 dX12_settle_53 rfl ?_
          refine E.get hw 0 o dX12_settle_54 flX12_236 rfl rfl rfl rfl ?_
          obtain ⟨g4, hf⟩ := gd_some hf
          refine E.iald hw 9 (o + 9) dX12_settle_57 rfl rfl g4 ?_
          refine E.bipush (v := 29) dX12_settle_58 (by decide) ?_
          refine E.icmp_ne dX12_settle_60 (fun h => ?_) (fun h => ?_)
          · have hf := e_iff hf h
            refine E.aload_n 0 dX12_settle_84 rfl ?_
            refine E.aload_n 0 dX12_settle_85 rfl ?_
            refine E.get hw 0 o dX12_settle_86 flX12_39 rfl rfl rfl rfl ?_
            refine E.aload_n 0 dX12_settle_89 rfl ?_
            refine E.get hw 0 o dX12_settle_90 flX12_236 rfl rfl rfl rfl ?_
            obtain ⟨g5, hf⟩ := gd_some hf
            refine E.iald hw 9 (o + 9) dX12_settle_93 rfl rfl g5 ?_
            refine E.iconst (v := 0) dX12_settle_94 (by decide) ?_
            obtain ⟨r6, hc6, hf⟩ := e_bind hf
            refine E.callVD [] dX12_settle_95 mlX12_242 ⟨hw.sub (p := 0) rfl, e_ov_get hw.1 (p := 0) rfl rfl⟩ rfl rfl (mX12_emit hw hc6) ⟨Nat.le_of_ble_eq_true rfl, Nat.le_of_ble_eq_true rfl⟩ rfl rfl (Nat.le_of_ble_eq_true rfl) ⟨Nat.le_refl _, Nat.le_refl _⟩ rfl ?_
            refine E.goto dX12_settle_98 ?_
            exact ih hf
          · have hf := e_ift hf h
            exact tX12_settle_L63 hw ih hf
def fX12_settle (Fu : Nat) (v_nCode : Int32) (a_nOp : Nat → Int32) (a_nArg : Nat → Int32) (a_pile : Nat → Int32) (a_pileAt : Nat → Int32) (v_piled : Int32) (x1 : Int32) : Option (Int32 × (Nat → Int32) × (Nat → Int32) × Int32) := fX12_settle_L0 Fu Fu v_nCode a_nOp a_nArg a_pile a_pileAt v_piled x1
set_option maxRecDepth 100000 in
theorem mX12_settle {G : GT} {b : Nat} {o : Nat} {c0 : Hp} {n : Nat} (hw : e_wf (kM o) n) {v_thrown : Int32} {v_status : Int32} {a_refusals : Nat → Int32} {a_row : Nat → Int32} {a_images : Nat → Int32} {a_isKept : Nat → Int32} {a_tape : Nat → Int32} {v_taped : Int32} {v_from : Int32} {v_to : Int32} {v_sort : Int32} {v_worth : Int64} {v_fault : Int32} {v_bad : Int32} {v_nClauses : Int32} {a_nClause : Nat → Int32} {v_nLeaves : Int32} {v_opened : Int32} {a_words : Nat → Int64} {a_headWords : Nat → Int64} {v_law : Int32} {a_set : Nat → Int64} {a_rest : Nat → Int64} {v_broken : Int32} {v_value : Int64} {v_sum : Int64} {a_chances : Nat → Int32} {a_votes : Nat → Int64} {a_costs : Nat → Int32} {a_table : Nat → Int64} {a_prices : Nat → Int32} {v_surely : Int64} {a_mostBy : Nat → Int64} {a_leastBy : Nat → Int64} {v_between : Int64} {v_steadyWays : Int32} {v_quashed : Int32} {v_but : Int32} {a_figures : Nat → Int32} {a_all : Nat → Int32} {a_lies : Nat → Int32} {a_since : Nat → Int32} {v_last : Int32} {v_state : Int64} {Fu : Nat} {v_nCode : Int32} {a_nOp : Nat → Int32} {a_nArg : Nat → Int32} {a_pile : Nat → Int32} {a_pileAt : Nat → Int32} {v_piled : Int32} {x1 : Int32} {R : Int32 × (Nat → Int32) × (Nat → Int32) × Int32} (hf : fX12_settle Fu v_nCode a_nOp a_nArg a_pile a_pileAt v_piled x1 = some R) : e_C G b yX12_settle cX12_settle 2 none 1 0 0 [.ref (b + o), .int x1] (e_ov (kM o) (wM G b o v_thrown v_status a_refusals a_row a_images a_isKept a_tape v_taped v_from v_to v_sort v_worth v_fault v_bad v_nClauses a_nClause v_nCode a_nOp a_nArg v_nLeaves a_pile a_pileAt v_piled v_opened a_words a_headWords v_law a_set a_rest v_broken v_value v_sum a_chances a_votes a_costs a_table a_prices v_surely a_mostBy a_leastBy v_between v_steadyWays v_quashed v_but a_figures a_all a_lies a_since v_last v_state) c0) n (pD none (e_ov (kM o) (wM G b o v_thrown v_status a_refusals a_row a_images a_isKept a_tape v_taped v_from v_to v_sort v_worth v_fault v_bad v_nClauses a_nClause R.1 R.2.1 R.2.2.1 v_nLeaves a_pile a_pileAt R.2.2.2 v_opened a_words a_headWords v_law a_set a_rest v_broken v_value v_sum a_chances a_votes a_costs a_table a_prices v_surely a_mostBy a_leastBy v_between v_steadyWays v_quashed v_but a_figures a_all a_lies a_since v_last v_state) c0) n) := e_C.of (by decide) (Nat.le_of_ble_eq_true rfl) (tX12_settle_L0 hw _ hf)
def fX12_inner_L4 (Fu : Nat) : Nat → (Nat → Int32) → Int32 → Int32 → Int32 → Option (Int32)
  | 0, _, _, _, _ => none
  | k + 1, a_pile, v_piled, x1, x2 => if (v_piled : Int32) ≤ (x2 : Int32) then (some (x1)) else (gd x2 400 (if ((a_pile (x2 : Int32).toNatClampNeg) : Int32) < (30 : Int32) then ((fX12_inner_L4 Fu k) a_pile v_piled x1 (x2 + 1)) else (gd x2 400 ((fX12_inner_L4 Fu k) a_pile v_piled (a_pile (x2 : Int32).toNatClampNeg) (x2 + 1)))))
set_option maxHeartbeats 4000000 in
set_option maxRecDepth 100000 in
theorem tX12_inner_L4 {G : GT} {b : Nat} {o : Nat} {c0 : Hp} {n : Nat} (hw : e_wf (kM o) n) {v_thrown : Int32} {v_status : Int32} {a_refusals : Nat → Int32} {a_row : Nat → Int32} {a_images : Nat → Int32} {a_isKept : Nat → Int32} {a_tape : Nat → Int32} {v_taped : Int32} {v_from : Int32} {v_to : Int32} {v_sort : Int32} {v_worth : Int64} {v_fault : Int32} {v_bad : Int32} {v_nClauses : Int32} {a_nClause : Nat → Int32} {v_nCode : Int32} {a_nOp : Nat → Int32} {a_nArg : Nat → Int32} {v_nLeaves : Int32} {a_pileAt : Nat → Int32} {v_opened : Int32} {a_words : Nat → Int64} {a_headWords : Nat → Int64} {v_law : Int32} {a_set : Nat → Int64} {a_rest : Nat → Int64} {v_broken : Int32} {v_value : Int64} {v_sum : Int64} {a_chances : Nat → Int32} {a_votes : Nat → Int64} {a_costs : Nat → Int32} {a_table : Nat → Int64} {a_prices : Nat → Int32} {v_surely : Int64} {a_mostBy : Nat → Int64} {a_leastBy : Nat → Int64} {v_between : Int64} {v_steadyWays : Int32} {v_quashed : Int32} {v_but : Int32} {a_figures : Nat → Int32} {a_all : Nat → Int32} {a_lies : Nat → Int32} {a_since : Nat → Int32} {v_last : Int32} {v_state : Int64} {Fu : Nat} : ∀ (k : Nat) {a_pile : Nat → Int32} {v_piled : Int32} {x1 : Int32} {x2 : Int32} {R : Int32}, fX12_inner_L4 Fu k a_pile v_piled x1 x2 = some R → E G b yX12_inner cX12_inner 3 (some .int) (e_rm 0 0 0) e_X0 (e_Z G b (pD (some (.int R)) (e_ov (kM o) (wM G b o v_thrown v_status a_refusals a_row a_images a_isKept a_tape v_taped v_from v_to v_sort v_worth v_fault v_bad v_nClauses a_nClause v_nCode a_nOp a_nArg v_nLeaves a_pile a_pileAt v_piled v_opened a_words a_headWords v_law a_set a_rest v_broken v_value v_sum a_chances a_votes a_costs a_table a_prices v_surely a_mostBy a_leastBy v_between v_steadyWays v_quashed v_but a_figures a_all a_lies a_since v_last v_state) c0) n) 0 0) 4 [(0, .ref (b + o)), (1, .int x1), (2, .int x2)] [] (e_ov (kM o) (wM G b o v_thrown v_status a_refusals a_row a_images a_isKept a_tape v_taped v_from v_to v_sort v_worth v_fault v_bad v_nClauses a_nClause v_nCode a_nOp a_nArg v_nLeaves a_pile a_pileAt v_piled v_opened a_words a_headWords v_law a_set a_rest v_broken v_value v_sum a_chances a_votes a_costs a_table a_prices v_surely a_mostBy a_leastBy v_between v_steadyWays v_quashed v_but a_figures a_all a_lies a_since v_last v_state) c0) n 0 0 := by
  intro k
  induction k with
  | zero =>
    intro _ _ _ _ _ hf
    have hf : (none : Option (Int32)) = some _ := hf
    cases hf
  | succ k ih =>
    intro a_pile v_piled x1 x2 R hf
    rw [fX12_inner_L4] at hf
    refine E.iload_n 2 dX12_inner_4 rfl ?_
    refine E.aload_n 0 dX12_inner_5 rfl ?_
    refine E.get hw 0 o dX12_inner_6 flX12_236 rfl rfl rfl rfl ?_
    refine E.icmp_ge dX12_inner_9 (fun h => ?_) (fun h => ?_)
    · have hf := e_ift hf h
      refine E.iload_n 1 dX12_inner_40 rfl ?_
      cases hf
      exact E.iret dX12_inner_41 (Nat.le_refl _) (Nat.le_refl _) (pD_rf _ _ _)
    · have hf := e_iff hf h
      refine E.aload_n 0 dX12_inner_12 rfl ?_
      refine E.get hw 0 o dX12_inner_13 flX12_39 rfl rfl rfl rfl ?_
      refine E.iload_n 2 dX12_inner_16 rfl ?_
      obtain ⟨g1, hf⟩ := gd_some hf
      refine E.iald hw 9 (o + 9) dX12_inner_17 rfl rfl g1 ?_
      refine E.bipush (v := 30) dX12_inner_18 (by decide) ?_
      refine E.icmp_lt dX12_inner_20 (fun h => ?_) (fun h => ?_)
      · have hf := e_ift hf h
        refine E.iload_n 1 dX12_inner_32 rfl ?_
        refine E.istore_n (lv' := [(1, .int x1), (0, .ref (b + o)), (2, .int x2)]) dX12_inner_33 (by decide) rfl ?_
        refine E.iinc (q := 2) (v := (x2 + 1)) (lv' := [(2, .int (x2 + 1)), (1, .int x1), (0, .ref (b + o))]) dX12_inner_34 rfl rfl (by decide) rfl ?_
        refine E.goto dX12_inner_37 ?_
        refine E.locals [2, 1, 0] rfl ?_
        exact ih hf
      · have hf := e_iff hf h
        refine E.aload_n 0 dX12_inner_23 rfl ?_
        refine E.get hw 0 o dX12_inner_24 flX12_39 rfl rfl rfl rfl ?_
        refine E.iload_n 2 dX12_inner_27 rfl ?_
        obtain ⟨g2, hf⟩ := gd_some hf
        refine E.iald hw 9 (o + 9) dX12_inner_28 rfl rfl g2 ?_
        refine E.goto dX12_inner_29 ?_
        refine E.istore_n (lv' := [(1, .int (a_pile (x2 : Int32).toNatClampNeg)), (0, .ref (b + o)), (2, .int x2)]) dX12_inner_33 (by decide) rfl ?_
        refine E.iinc (q := 2) (v := (x2 + 1)) (lv' := [(2, .int (x2 + 1)), (1, .int (a_pile (x2 : Int32).toNatClampNeg)), (0, .ref (b + o))]) dX12_inner_34 rfl rfl (by decide) rfl ?_
        refine E.goto dX12_inner_37 ?_
        refine E.locals [2, 1, 0] rfl ?_
        exact ih hf
def fX12_inner (Fu : Nat) (a_pile : Nat → Int32) (v_piled : Int32) : Option (Int32) := fX12_inner_L4 Fu Fu a_pile v_piled (-1 : Int32) 0
set_option maxHeartbeats 4000000 in
set_option maxRecDepth 100000 in
theorem tX12_inner {G : GT} {b : Nat} {o : Nat} {c0 : Hp} {n : Nat} (hw : e_wf (kM o) n) {v_thrown : Int32} {v_status : Int32} {a_refusals : Nat → Int32} {a_row : Nat → Int32} {a_images : Nat → Int32} {a_isKept : Nat → Int32} {a_tape : Nat → Int32} {v_taped : Int32} {v_from : Int32} {v_to : Int32} {v_sort : Int32} {v_worth : Int64} {v_fault : Int32} {v_bad : Int32} {v_nClauses : Int32} {a_nClause : Nat → Int32} {v_nCode : Int32} {a_nOp : Nat → Int32} {a_nArg : Nat → Int32} {v_nLeaves : Int32} {a_pileAt : Nat → Int32} {v_opened : Int32} {a_words : Nat → Int64} {a_headWords : Nat → Int64} {v_law : Int32} {a_set : Nat → Int64} {a_rest : Nat → Int64} {v_broken : Int32} {v_value : Int64} {v_sum : Int64} {a_chances : Nat → Int32} {a_votes : Nat → Int64} {a_costs : Nat → Int32} {a_table : Nat → Int64} {a_prices : Nat → Int32} {v_surely : Int64} {a_mostBy : Nat → Int64} {a_leastBy : Nat → Int64} {v_between : Int64} {v_steadyWays : Int32} {v_quashed : Int32} {v_but : Int32} {a_figures : Nat → Int32} {a_all : Nat → Int32} {a_lies : Nat → Int32} {a_since : Nat → Int32} {v_last : Int32} {v_state : Int64} {Fu : Nat} {a_pile : Nat → Int32} {v_piled : Int32} {R : Int32} (hf : fX12_inner Fu a_pile v_piled = some R) : E G b yX12_inner cX12_inner 3 (some .int) (e_rm 0 0 0) e_X0 (e_Z G b (pD (some (.int R)) (e_ov (kM o) (wM G b o v_thrown v_status a_refusals a_row a_images a_isKept a_tape v_taped v_from v_to v_sort v_worth v_fault v_bad v_nClauses a_nClause v_nCode a_nOp a_nArg v_nLeaves a_pile a_pileAt v_piled v_opened a_words a_headWords v_law a_set a_rest v_broken v_value v_sum a_chances a_votes a_costs a_table a_prices v_surely a_mostBy a_leastBy v_between v_steadyWays v_quashed v_but a_figures a_all a_lies a_since v_last v_state) c0) n) 0 0) 0 [(0, .ref (b + o))] [] (e_ov (kM o) (wM G b o v_thrown v_status a_refusals a_row a_images a_isKept a_tape v_taped v_from v_to v_sort v_worth v_fault v_bad v_nClauses a_nClause v_nCode a_nOp a_nArg v_nLeaves a_pile a_pileAt v_piled v_opened a_words a_headWords v_law a_set a_rest v_broken v_value v_sum a_chances a_votes a_costs a_table a_prices v_surely a_mostBy a_leastBy v_between v_steadyWays v_quashed v_but a_figures a_all a_lies a_since v_last v_state) c0) n 0 0 := by
  unfold fX12_inner at hf
  refine E.iconst (v := -1) dX12_inner_0 (by decide) ?_
  refine E.istore_n (lv' := [(1, .int (-1 : Int32)), (0, .ref (b + o))]) dX12_inner_1 (by decide) rfl ?_
  refine E.iconst (v := 0) dX12_inner_2 (by decide) ?_
  refine E.istore_n (lv' := [(2, .int 0), (1, .int (-1 : Int32)), (0, .ref (b + o))]) dX12_inner_3 (by decide) rfl ?_
  refine E.locals [2, 1, 0] rfl ?_
  exact tX12_inner_L4 hw _ hf
set_option maxRecDepth 100000 in
theorem mX12_inner {G : GT} {b : Nat} {o : Nat} {c0 : Hp} {n : Nat} (hw : e_wf (kM o) n) {v_thrown : Int32} {v_status : Int32} {a_refusals : Nat → Int32} {a_row : Nat → Int32} {a_images : Nat → Int32} {a_isKept : Nat → Int32} {a_tape : Nat → Int32} {v_taped : Int32} {v_from : Int32} {v_to : Int32} {v_sort : Int32} {v_worth : Int64} {v_fault : Int32} {v_bad : Int32} {v_nClauses : Int32} {a_nClause : Nat → Int32} {v_nCode : Int32} {a_nOp : Nat → Int32} {a_nArg : Nat → Int32} {v_nLeaves : Int32} {a_pileAt : Nat → Int32} {v_opened : Int32} {a_words : Nat → Int64} {a_headWords : Nat → Int64} {v_law : Int32} {a_set : Nat → Int64} {a_rest : Nat → Int64} {v_broken : Int32} {v_value : Int64} {v_sum : Int64} {a_chances : Nat → Int32} {a_votes : Nat → Int64} {a_costs : Nat → Int32} {a_table : Nat → Int64} {a_prices : Nat → Int32} {v_surely : Int64} {a_mostBy : Nat → Int64} {a_leastBy : Nat → Int64} {v_between : Int64} {v_steadyWays : Int32} {v_quashed : Int32} {v_but : Int32} {a_figures : Nat → Int32} {a_all : Nat → Int32} {a_lies : Nat → Int32} {a_since : Nat → Int32} {v_last : Int32} {v_state : Int64} {Fu : Nat} {a_pile : Nat → Int32} {v_piled : Int32} {R : Int32} (hf : fX12_inner Fu a_pile v_piled = some R) : e_C G b yX12_inner cX12_inner 3 (some .int) 0 0 0 [.ref (b + o)] (e_ov (kM o) (wM G b o v_thrown v_status a_refusals a_row a_images a_isKept a_tape v_taped v_from v_to v_sort v_worth v_fault v_bad v_nClauses a_nClause v_nCode a_nOp a_nArg v_nLeaves a_pile a_pileAt v_piled v_opened a_words a_headWords v_law a_set a_rest v_broken v_value v_sum a_chances a_votes a_costs a_table a_prices v_surely a_mostBy a_leastBy v_between v_steadyWays v_quashed v_but a_figures a_all a_lies a_since v_last v_state) c0) n (pD (some (.int R)) (e_ov (kM o) (wM G b o v_thrown v_status a_refusals a_row a_images a_isKept a_tape v_taped v_from v_to v_sort v_worth v_fault v_bad v_nClauses a_nClause v_nCode a_nOp a_nArg v_nLeaves a_pile a_pileAt v_piled v_opened a_words a_headWords v_law a_set a_rest v_broken v_value v_sum a_chances a_votes a_costs a_table a_prices v_surely a_mostBy a_leastBy v_between v_steadyWays v_quashed v_but a_figures a_all a_lies a_since v_last v_state) c0) n) := e_C.of (by decide) (Nat.le_of_ble_eq_true rfl) (tX12_inner hw hf)
def fX12_isCompared_L63 (Fu : Nat) (a_pile : Nat → Int32) (v_piled : Int32) : Option (Int32) := some (0)
set_option maxHeartbeats 4000000 in
set_option maxRecDepth 100000 in
theorem tX12_isCompared_L63 {G : GT} {b : Nat} {o : Nat} {c0 : Hp} {n : Nat} (hw : e_wf (kM o) n) {v_thrown : Int32} {v_status : Int32} {a_refusals : Nat → Int32} {a_row : Nat → Int32} {a_images : Nat → Int32} {a_isKept : Nat → Int32} {a_tape : Nat → Int32} {v_taped : Int32} {v_from : Int32} {v_to : Int32} {v_sort : Int32} {v_worth : Int64} {v_fault : Int32} {v_bad : Int32} {v_nClauses : Int32} {a_nClause : Nat → Int32} {v_nCode : Int32} {a_nOp : Nat → Int32} {a_nArg : Nat → Int32} {v_nLeaves : Int32} {a_pileAt : Nat → Int32} {v_opened : Int32} {a_words : Nat → Int64} {a_headWords : Nat → Int64} {v_law : Int32} {a_set : Nat → Int64} {a_rest : Nat → Int64} {v_broken : Int32} {v_value : Int64} {v_sum : Int64} {a_chances : Nat → Int32} {a_votes : Nat → Int64} {a_costs : Nat → Int32} {a_table : Nat → Int64} {a_prices : Nat → Int32} {v_surely : Int64} {a_mostBy : Nat → Int64} {a_leastBy : Nat → Int64} {v_between : Int64} {v_steadyWays : Int32} {v_quashed : Int32} {v_but : Int32} {a_figures : Nat → Int32} {a_all : Nat → Int32} {a_lies : Nat → Int32} {a_since : Nat → Int32} {v_last : Int32} {v_state : Int64} {Fu : Nat} {a_pile : Nat → Int32} {v_piled : Int32} {R : Int32} (hf : fX12_isCompared_L63 Fu a_pile v_piled = some R) : E G b yX12_isCompared cX12_isCompared 2 (some .boolean) (e_rm 1 0 0) e_X0 (e_Z G b (pD (some (.int R)) (e_ov (kM o) (wM G b o v_thrown v_status a_refusals a_row a_images a_isKept a_tape v_taped v_from v_to v_sort v_worth v_fault v_bad v_nClauses a_nClause v_nCode a_nOp a_nArg v_nLeaves a_pile a_pileAt v_piled v_opened a_words a_headWords v_law a_set a_rest v_broken v_value v_sum a_chances a_votes a_costs a_table a_prices v_surely a_mostBy a_leastBy v_between v_steadyWays v_quashed v_but a_figures a_all a_lies a_since v_last v_state) c0) n) 0 0) 63 [] [] (e_ov (kM o) (wM G b o v_thrown v_status a_refusals a_row a_images a_isKept a_tape v_taped v_from v_to v_sort v_worth v_fault v_bad v_nClauses a_nClause v_nCode a_nOp a_nArg v_nLeaves a_pile a_pileAt v_piled v_opened a_words a_headWords v_law a_set a_rest v_broken v_value v_sum a_chances a_votes a_costs a_table a_prices v_surely a_mostBy a_leastBy v_between v_steadyWays v_quashed v_but a_figures a_all a_lies a_since v_last v_state) c0) n 0 0 := by
  unfold fX12_isCompared_L63 at hf
  refine E.iconst (v := 0) dX12_isCompared_63 (by decide) ?_
  cases hf
  exact E.zret dX12_isCompared_64 rfl (Nat.le_refl _) (Nat.le_refl _) (pD_rf _ _ _)
def fX12_isCompared_L36 (Fu : Nat) (a_pile : Nat → Int32) (v_piled : Int32) (x1 : Int32) : Option (Int32) := if (x1 : Int32) < 0 then (fX12_isCompared_L63 Fu a_pile v_piled) else (gd x1 400 ((fX12_in (((a_pile (x1 : Int32).toNatClampNeg) : Int32).toInt64) 24 26).bind fun r4 => (if (r4 : Int32) = 0 then (fX12_isCompared_L63 Fu a_pile v_piled) else (some (1)))))
set_option maxHeartbeats 4000000 in
set_option maxRecDepth 100000 in
theorem tX12_isCompared_L36 {G : GT} {b : Nat} {o : Nat} {c0 : Hp} {n : Nat} (hw : e_wf (kM o) n) {v_thrown : Int32} {v_status : Int32} {a_refusals : Nat → Int32} {a_row : Nat → Int32} {a_images : Nat → Int32} {a_isKept : Nat → Int32} {a_tape : Nat → Int32} {v_taped : Int32} {v_from : Int32} {v_to : Int32} {v_sort : Int32} {v_worth : Int64} {v_fault : Int32} {v_bad : Int32} {v_nClauses : Int32} {a_nClause : Nat → Int32} {v_nCode : Int32} {a_nOp : Nat → Int32} {a_nArg : Nat → Int32} {v_nLeaves : Int32} {a_pileAt : Nat → Int32} {v_opened : Int32} {a_words : Nat → Int64} {a_headWords : Nat → Int64} {v_law : Int32} {a_set : Nat → Int64} {a_rest : Nat → Int64} {v_broken : Int32} {v_value : Int64} {v_sum : Int64} {a_chances : Nat → Int32} {a_votes : Nat → Int64} {a_costs : Nat → Int32} {a_table : Nat → Int64} {a_prices : Nat → Int32} {v_surely : Int64} {a_mostBy : Nat → Int64} {a_leastBy : Nat → Int64} {v_between : Int64} {v_steadyWays : Int32} {v_quashed : Int32} {v_but : Int32} {a_figures : Nat → Int32} {a_all : Nat → Int32} {a_lies : Nat → Int32} {a_since : Nat → Int32} {v_last : Int32} {v_state : Int64} {Fu : Nat} {a_pile : Nat → Int32} {v_piled : Int32} {x1 : Int32} {R : Int32} (hf : fX12_isCompared_L36 Fu a_pile v_piled x1 = some R) : E G b yX12_isCompared cX12_isCompared 2 (some .boolean) (e_rm 1 0 0) e_X0 (e_Z G b (pD (some (.int R)) (e_ov (kM o) (wM G b o v_thrown v_status a_refusals a_row a_images a_isKept a_tape v_taped v_from v_to v_sort v_worth v_fault v_bad v_nClauses a_nClause v_nCode a_nOp a_nArg v_nLeaves a_pile a_pileAt v_piled v_opened a_words a_headWords v_law a_set a_rest v_broken v_value v_sum a_chances a_votes a_costs a_table a_prices v_surely a_mostBy a_leastBy v_between v_steadyWays v_quashed v_but a_figures a_all a_lies a_since v_last v_state) c0) n) 0 0) 36 [(0, .ref (b + o)), (1, .int x1)] [] (e_ov (kM o) (wM G b o v_thrown v_status a_refusals a_row a_images a_isKept a_tape v_taped v_from v_to v_sort v_worth v_fault v_bad v_nClauses a_nClause v_nCode a_nOp a_nArg v_nLeaves a_pile a_pileAt v_piled v_opened a_words a_headWords v_law a_set a_rest v_broken v_value v_sum a_chances a_votes a_costs a_table a_prices v_surely a_mostBy a_leastBy v_between v_steadyWays v_quashed v_but a_figures a_all a_lies a_since v_last v_state) c0) n 0 0 := by
  unfold fX12_isCompared_L36 at hf
  refine E.iload_n 1 dX12_isCompared_36 rfl ?_
  refine E.if_lt dX12_isCompared_37 (fun h => ?_) (fun h => ?_)
  · have hf := e_ift hf h
    refine E.locals [] rfl ?_
    exact tX12_isCompared_L63 hw hf
  · have hf := e_iff hf h
    refine E.aload_n 0 dX12_isCompared_40 rfl ?_
    refine E.get hw 0 o dX12_isCompared_41 flX12_39 rfl rfl rfl rfl ?_
    refine E.iload_n 1 dX12_isCompared_44 rfl ?_
    obtain ⟨g3, hf⟩ := gd_some hf
    refine E.iald hw 9 (o + 9) dX12_isCompared_45 rfl rfl g3 ?_
    refine E.i2l dX12_isCompared_46 ?_
    refine E.ldc2 dX12_isCompared_47 kX12_248 ?_
    refine E.ldc2 dX12_isCompared_50 kX12_250 ?_
    obtain ⟨r4, hc4, hf⟩ := e_bind hf
    refine E.callSD [] dX12_isCompared_53 mlX12_134 (mX12_in hc4) ⟨Nat.le_of_ble_eq_true rfl, Nat.le_of_ble_eq_true rfl⟩ rfl rfl (Nat.le_of_ble_eq_true rfl) ⟨Nat.le_refl _, Nat.le_refl _⟩ rfl ?_
    refine E.if_eq dX12_isCompared_56 (fun h => ?_) (fun h => ?_)
    · have hf := e_ift hf h
      refine E.locals [] rfl ?_
      exact tX12_isCompared_L63 hw hf
    · have hf := e_iff hf h
      refine E.iconst (v := 1) dX12_isCompared_59 (by decide) ?_
      refine E.goto dX12_isCompared_60 ?_
      cases hf
      exact E.zret dX12_isCompared_64 rfl (Nat.le_refl _) (Nat.le_refl _) (pD_rf _ _ _)
def fX12_isCompared_L7 (Fu : Nat) : Nat → (Nat → Int32) → Int32 → Int32 → Option (Int32)
  | 0, _, _, _ => none
  | k + 1, a_pile, v_piled, x1 => if (x1 : Int32) < 0 then (fX12_isCompared_L36 Fu a_pile v_piled x1) else (gd x1 400 ((fX12_in (((a_pile (x1 : Int32).toNatClampNeg) : Int32).toInt64) 20 23).bind fun r2 => (if (r2 : Int32) = 0 then (fX12_isCompared_L36 Fu a_pile v_piled x1) else ((fX12_isCompared_L7 Fu k) a_pile v_piled (x1 + (-1 : Int32))))))
set_option maxHeartbeats 4000000 in
set_option maxRecDepth 100000 in
theorem tX12_isCompared_L7 {G : GT} {b : Nat} {o : Nat} {c0 : Hp} {n : Nat} (hw : e_wf (kM o) n) {v_thrown : Int32} {v_status : Int32} {a_refusals : Nat → Int32} {a_row : Nat → Int32} {a_images : Nat → Int32} {a_isKept : Nat → Int32} {a_tape : Nat → Int32} {v_taped : Int32} {v_from : Int32} {v_to : Int32} {v_sort : Int32} {v_worth : Int64} {v_fault : Int32} {v_bad : Int32} {v_nClauses : Int32} {a_nClause : Nat → Int32} {v_nCode : Int32} {a_nOp : Nat → Int32} {a_nArg : Nat → Int32} {v_nLeaves : Int32} {a_pileAt : Nat → Int32} {v_opened : Int32} {a_words : Nat → Int64} {a_headWords : Nat → Int64} {v_law : Int32} {a_set : Nat → Int64} {a_rest : Nat → Int64} {v_broken : Int32} {v_value : Int64} {v_sum : Int64} {a_chances : Nat → Int32} {a_votes : Nat → Int64} {a_costs : Nat → Int32} {a_table : Nat → Int64} {a_prices : Nat → Int32} {v_surely : Int64} {a_mostBy : Nat → Int64} {a_leastBy : Nat → Int64} {v_between : Int64} {v_steadyWays : Int32} {v_quashed : Int32} {v_but : Int32} {a_figures : Nat → Int32} {a_all : Nat → Int32} {a_lies : Nat → Int32} {a_since : Nat → Int32} {v_last : Int32} {v_state : Int64} {Fu : Nat} : ∀ (k : Nat) {a_pile : Nat → Int32} {v_piled : Int32} {x1 : Int32} {R : Int32}, fX12_isCompared_L7 Fu k a_pile v_piled x1 = some R → E G b yX12_isCompared cX12_isCompared 2 (some .boolean) (e_rm 1 0 0) e_X0 (e_Z G b (pD (some (.int R)) (e_ov (kM o) (wM G b o v_thrown v_status a_refusals a_row a_images a_isKept a_tape v_taped v_from v_to v_sort v_worth v_fault v_bad v_nClauses a_nClause v_nCode a_nOp a_nArg v_nLeaves a_pile a_pileAt v_piled v_opened a_words a_headWords v_law a_set a_rest v_broken v_value v_sum a_chances a_votes a_costs a_table a_prices v_surely a_mostBy a_leastBy v_between v_steadyWays v_quashed v_but a_figures a_all a_lies a_since v_last v_state) c0) n) 0 0) 7 [(0, .ref (b + o)), (1, .int x1)] [] (e_ov (kM o) (wM G b o v_thrown v_status a_refusals a_row a_images a_isKept a_tape v_taped v_from v_to v_sort v_worth v_fault v_bad v_nClauses a_nClause v_nCode a_nOp a_nArg v_nLeaves a_pile a_pileAt v_piled v_opened a_words a_headWords v_law a_set a_rest v_broken v_value v_sum a_chances a_votes a_costs a_table a_prices v_surely a_mostBy a_leastBy v_between v_steadyWays v_quashed v_but a_figures a_all a_lies a_since v_last v_state) c0) n 0 0 := by
  intro k
  induction k with
  | zero =>
    intro _ _ _ _ hf
    have hf : (none : Option (Int32)) = some _ := hf
    cases hf
  | succ k ih =>
    intro a_pile v_piled x1 R hf
    rw [fX12_isCompared_L7] at hf
    refine E.iload_n 1 dX12_isCompared_7 rfl ?_
    refine E.if_lt dX12_isCompared_8 (fun h => ?_) (fun h => ?_)
    · have hf := e_ift hf h
      exact tX12_isCompared_L36 hw hf
    · have hf := e_iff hf h
      refine E.aload_n 0 dX12_isCompared_11 rfl ?_
      refine E.get hw 0 o dX12_isCompared_12 flX12_39 rfl rfl rfl rfl ?_
      refine E.iload_n 1 dX12_isCompared_15 rfl ?_
      obtain ⟨g1, hf⟩ := gd_some hf
      refine E.iald hw 9 (o + 9) dX12_isCompared_16 rfl rfl g1 ?_
      refine E.i2l dX12_isCompared_17 ?_
      refine E.ldc2 dX12_isCompared_18 kX12_246 ?_
      refine E.ldc2 dX12_isCompared_21 kX12_141 ?_
      obtain ⟨r2, hc2, hf⟩ := e_bind hf
      refine E.callSD [] dX12_isCompared_24 mlX12_134 (mX12_in hc2) ⟨Nat.le_of_ble_eq_true rfl, Nat.le_of_ble_eq_true rfl⟩ rfl rfl (Nat.le_of_ble_eq_true rfl) ⟨Nat.le_refl _, Nat.le_refl _⟩ rfl ?_
      refine E.if_eq dX12_isCompared_27 (fun h => ?_) (fun h => ?_)
      · have hf := e_ift hf h
        exact tX12_isCompared_L36 hw hf
      · have hf := e_iff hf h
        refine E.iinc (q := 1) (v := (x1 + (-1 : Int32))) (lv' := [(1, .int (x1 + (-1 : Int32))), (0, .ref (b + o))]) dX12_isCompared_30 rfl rfl (by decide) rfl ?_
        refine E.goto dX12_isCompared_33 ?_
        refine E.locals [1, 0] rfl ?_
        exact ih hf
def fX12_isCompared (Fu : Nat) (a_pile : Nat → Int32) (v_piled : Int32) : Option (Int32) := fX12_isCompared_L7 Fu Fu a_pile v_piled (v_piled - 1)
set_option maxHeartbeats 4000000 in
set_option maxRecDepth 100000 in
theorem tX12_isCompared {G : GT} {b : Nat} {o : Nat} {c0 : Hp} {n : Nat} (hw : e_wf (kM o) n) {v_thrown : Int32} {v_status : Int32} {a_refusals : Nat → Int32} {a_row : Nat → Int32} {a_images : Nat → Int32} {a_isKept : Nat → Int32} {a_tape : Nat → Int32} {v_taped : Int32} {v_from : Int32} {v_to : Int32} {v_sort : Int32} {v_worth : Int64} {v_fault : Int32} {v_bad : Int32} {v_nClauses : Int32} {a_nClause : Nat → Int32} {v_nCode : Int32} {a_nOp : Nat → Int32} {a_nArg : Nat → Int32} {v_nLeaves : Int32} {a_pileAt : Nat → Int32} {v_opened : Int32} {a_words : Nat → Int64} {a_headWords : Nat → Int64} {v_law : Int32} {a_set : Nat → Int64} {a_rest : Nat → Int64} {v_broken : Int32} {v_value : Int64} {v_sum : Int64} {a_chances : Nat → Int32} {a_votes : Nat → Int64} {a_costs : Nat → Int32} {a_table : Nat → Int64} {a_prices : Nat → Int32} {v_surely : Int64} {a_mostBy : Nat → Int64} {a_leastBy : Nat → Int64} {v_between : Int64} {v_steadyWays : Int32} {v_quashed : Int32} {v_but : Int32} {a_figures : Nat → Int32} {a_all : Nat → Int32} {a_lies : Nat → Int32} {a_since : Nat → Int32} {v_last : Int32} {v_state : Int64} {Fu : Nat} {a_pile : Nat → Int32} {v_piled : Int32} {R : Int32} (hf : fX12_isCompared Fu a_pile v_piled = some R) : E G b yX12_isCompared cX12_isCompared 2 (some .boolean) (e_rm 1 0 0) e_X0 (e_Z G b (pD (some (.int R)) (e_ov (kM o) (wM G b o v_thrown v_status a_refusals a_row a_images a_isKept a_tape v_taped v_from v_to v_sort v_worth v_fault v_bad v_nClauses a_nClause v_nCode a_nOp a_nArg v_nLeaves a_pile a_pileAt v_piled v_opened a_words a_headWords v_law a_set a_rest v_broken v_value v_sum a_chances a_votes a_costs a_table a_prices v_surely a_mostBy a_leastBy v_between v_steadyWays v_quashed v_but a_figures a_all a_lies a_since v_last v_state) c0) n) 0 0) 0 [(0, .ref (b + o))] [] (e_ov (kM o) (wM G b o v_thrown v_status a_refusals a_row a_images a_isKept a_tape v_taped v_from v_to v_sort v_worth v_fault v_bad v_nClauses a_nClause v_nCode a_nOp a_nArg v_nLeaves a_pile a_pileAt v_piled v_opened a_words a_headWords v_law a_set a_rest v_broken v_value v_sum a_chances a_votes a_costs a_table a_prices v_surely a_mostBy a_leastBy v_between v_steadyWays v_quashed v_but a_figures a_all a_lies a_since v_last v_state) c0) n 0 0 := by
  unfold fX12_isCompared at hf
  refine E.aload_n 0 dX12_isCompared_0 rfl ?_
  refine E.get hw 0 o dX12_isCompared_1 flX12_236 rfl rfl rfl rfl ?_
  refine E.iconst (v := 1) dX12_isCompared_4 (by decide) ?_
  refine E.isub dX12_isCompared_5 ?_
  refine E.istore_n (lv' := [(1, .int (v_piled - 1)), (0, .ref (b + o))]) dX12_isCompared_6 (by decide) rfl ?_
  refine E.locals [1, 0] rfl ?_
  exact tX12_isCompared_L7 hw _ hf
set_option maxRecDepth 100000 in
theorem mX12_isCompared {G : GT} {b : Nat} {o : Nat} {c0 : Hp} {n : Nat} (hw : e_wf (kM o) n) {v_thrown : Int32} {v_status : Int32} {a_refusals : Nat → Int32} {a_row : Nat → Int32} {a_images : Nat → Int32} {a_isKept : Nat → Int32} {a_tape : Nat → Int32} {v_taped : Int32} {v_from : Int32} {v_to : Int32} {v_sort : Int32} {v_worth : Int64} {v_fault : Int32} {v_bad : Int32} {v_nClauses : Int32} {a_nClause : Nat → Int32} {v_nCode : Int32} {a_nOp : Nat → Int32} {a_nArg : Nat → Int32} {v_nLeaves : Int32} {a_pileAt : Nat → Int32} {v_opened : Int32} {a_words : Nat → Int64} {a_headWords : Nat → Int64} {v_law : Int32} {a_set : Nat → Int64} {a_rest : Nat → Int64} {v_broken : Int32} {v_value : Int64} {v_sum : Int64} {a_chances : Nat → Int32} {a_votes : Nat → Int64} {a_costs : Nat → Int32} {a_table : Nat → Int64} {a_prices : Nat → Int32} {v_surely : Int64} {a_mostBy : Nat → Int64} {a_leastBy : Nat → Int64} {v_between : Int64} {v_steadyWays : Int32} {v_quashed : Int32} {v_but : Int32} {a_figures : Nat → Int32} {a_all : Nat → Int32} {a_lies : Nat → Int32} {a_since : Nat → Int32} {v_last : Int32} {v_state : Int64} {Fu : Nat} {a_pile : Nat → Int32} {v_piled : Int32} {R : Int32} (hf : fX12_isCompared Fu a_pile v_piled = some R) : e_C G b yX12_isCompared cX12_isCompared 2 (some .boolean) 1 0 0 [.ref (b + o)] (e_ov (kM o) (wM G b o v_thrown v_status a_refusals a_row a_images a_isKept a_tape v_taped v_from v_to v_sort v_worth v_fault v_bad v_nClauses a_nClause v_nCode a_nOp a_nArg v_nLeaves a_pile a_pileAt v_piled v_opened a_words a_headWords v_law a_set a_rest v_broken v_value v_sum a_chances a_votes a_costs a_table a_prices v_surely a_mostBy a_leastBy v_between v_steadyWays v_quashed v_but a_figures a_all a_lies a_since v_last v_state) c0) n (pD (some (.int R)) (e_ov (kM o) (wM G b o v_thrown v_status a_refusals a_row a_images a_isKept a_tape v_taped v_from v_to v_sort v_worth v_fault v_bad v_nClauses a_nClause v_nCode a_nOp a_nArg v_nLeaves a_pile a_pileAt v_piled v_opened a_words a_headWords v_law a_set a_rest v_broken v_value v_sum a_chances a_votes a_costs a_table a_prices v_surely a_mostBy a_leastBy v_between v_steadyWays v_quashed v_but a_figures a_all a_lies a_since v_last v_state) c0) n) := e_C.of (by decide) (Nat.le_of_ble_eq_true rfl) (tX12_isCompared hw hf)
def fX12_partAt_L4 (Fu : Nat) : Nat → Int32 → Int64 → (Nat → Int64) → Int32 → Int32 → Option (Int32)
  | 0, _, _, _, _, _ => none
  | k + 1, v_sort, v_worth, a_words, x1, x2 => if (10 : Int32) ≤ (x2 : Int32) then (some (x1)) else (gd x2 10 ((fX12_isWord v_sort v_worth (a_words (x2 : Int32).toNatClampNeg)).bind fun r2 => (if (r2 : Int32) = 0 then ((fX12_partAt_L4 Fu k) v_sort v_worth a_words x1 (x2 + 1)) else ((fX12_partAt_L4 Fu k) v_sort v_worth a_words (x2 + 1) (x2 + 1)))))
set_option maxHeartbeats 4000000 in
set_option maxRecDepth 100000 in
theorem tX12_partAt_L4 {G : GT} {b : Nat} {o : Nat} {c0 : Hp} {n : Nat} (hw : e_wf (kM o) n) {v_thrown : Int32} {v_status : Int32} {a_refusals : Nat → Int32} {a_row : Nat → Int32} {a_images : Nat → Int32} {a_isKept : Nat → Int32} {a_tape : Nat → Int32} {v_taped : Int32} {v_from : Int32} {v_to : Int32} {v_fault : Int32} {v_bad : Int32} {v_nClauses : Int32} {a_nClause : Nat → Int32} {v_nCode : Int32} {a_nOp : Nat → Int32} {a_nArg : Nat → Int32} {v_nLeaves : Int32} {a_pile : Nat → Int32} {a_pileAt : Nat → Int32} {v_piled : Int32} {v_opened : Int32} {a_headWords : Nat → Int64} {v_law : Int32} {a_set : Nat → Int64} {a_rest : Nat → Int64} {v_broken : Int32} {v_value : Int64} {v_sum : Int64} {a_chances : Nat → Int32} {a_votes : Nat → Int64} {a_costs : Nat → Int32} {a_table : Nat → Int64} {a_prices : Nat → Int32} {v_surely : Int64} {a_mostBy : Nat → Int64} {a_leastBy : Nat → Int64} {v_between : Int64} {v_steadyWays : Int32} {v_quashed : Int32} {v_but : Int32} {a_figures : Nat → Int32} {a_all : Nat → Int32} {a_lies : Nat → Int32} {a_since : Nat → Int32} {v_last : Int32} {v_state : Int64} {Fu : Nat} : ∀ (k : Nat) {v_sort : Int32} {v_worth : Int64} {a_words : Nat → Int64} {x1 : Int32} {x2 : Int32} {R : Int32}, fX12_partAt_L4 Fu k v_sort v_worth a_words x1 x2 = some R → E G b yX12_partAt cX12_partAt 3 (some .int) (e_rm 1 0 0) e_X0 (e_Z G b (pD (some (.int R)) (e_ov (kM o) (wM G b o v_thrown v_status a_refusals a_row a_images a_isKept a_tape v_taped v_from v_to v_sort v_worth v_fault v_bad v_nClauses a_nClause v_nCode a_nOp a_nArg v_nLeaves a_pile a_pileAt v_piled v_opened a_words a_headWords v_law a_set a_rest v_broken v_value v_sum a_chances a_votes a_costs a_table a_prices v_surely a_mostBy a_leastBy v_between v_steadyWays v_quashed v_but a_figures a_all a_lies a_since v_last v_state) c0) n) 0 0) 4 [(0, .ref (b + o)), (1, .int x1), (2, .int x2)] [] (e_ov (kM o) (wM G b o v_thrown v_status a_refusals a_row a_images a_isKept a_tape v_taped v_from v_to v_sort v_worth v_fault v_bad v_nClauses a_nClause v_nCode a_nOp a_nArg v_nLeaves a_pile a_pileAt v_piled v_opened a_words a_headWords v_law a_set a_rest v_broken v_value v_sum a_chances a_votes a_costs a_table a_prices v_surely a_mostBy a_leastBy v_between v_steadyWays v_quashed v_but a_figures a_all a_lies a_since v_last v_state) c0) n 0 0 := by
  intro k
  induction k with
  | zero =>
    intro _ _ _ _ _ _ hf
    have hf : (none : Option (Int32)) = some _ := hf
    cases hf
  | succ k ih =>
    intro v_sort v_worth a_words x1 x2 R hf
    rw [fX12_partAt_L4] at hf
    refine E.iload_n 2 dX12_partAt_4 rfl ?_
    refine E.bipush (v := 10) dX12_partAt_5 (by decide) ?_
    refine E.icmp_ge dX12_partAt_7 (fun h => ?_) (fun h => ?_)
    · have hf := e_ift hf h
      refine E.iload_n 1 dX12_partAt_37 rfl ?_
      cases hf
      exact E.iret dX12_partAt_38 (Nat.le_refl _) (Nat.le_refl _) (pD_rf _ _ _)
    · have hf := e_iff hf h
      refine E.aload_n 0 dX12_partAt_10 rfl ?_
      refine E.aload_n 0 dX12_partAt_11 rfl ?_
      refine E.get hw 0 o dX12_partAt_12 flX12_65 rfl rfl rfl rfl ?_
      refine E.iload_n 2 dX12_partAt_15 rfl ?_
      obtain ⟨g1, hf⟩ := gd_some hf
      refine E.lald hw 11 (o + 11) dX12_partAt_16 rfl rfl g1 ?_
      obtain ⟨r2, hc2, hf⟩ := e_bind hf
      refine E.callVD [] dX12_partAt_17 mlX12_252 ⟨hw.sub (p := 0) rfl, e_ov_get hw.1 (p := 0) rfl rfl⟩ rfl rfl (mX12_isWord hw hc2) ⟨Nat.le_of_ble_eq_true rfl, Nat.le_of_ble_eq_true rfl⟩ rfl rfl (Nat.le_of_ble_eq_true rfl) ⟨Nat.le_refl _, Nat.le_refl _⟩ rfl ?_
      refine E.if_eq dX12_partAt_20 (fun h => ?_) (fun h => ?_)
      · have hf := e_ift hf h
        refine E.iload_n 1 dX12_partAt_29 rfl ?_
        refine E.istore_n (lv' := [(1, .int x1), (0, .ref (b + o)), (2, .int x2)]) dX12_partAt_30 (by decide) rfl ?_
        refine E.iinc (q := 2) (v := (x2 + 1)) (lv' := [(2, .int (x2 + 1)), (1, .int x1), (0, .ref (b + o))]) dX12_partAt_31 rfl rfl (by decide) rfl ?_
        refine E.goto dX12_partAt_34 ?_
        refine E.locals [2, 1, 0] rfl ?_
        exact ih hf
      · have hf := e_iff hf h
        refine E.iload_n 2 dX12_partAt_23 rfl ?_
        refine E.iconst (v := 1) dX12_partAt_24 (by decide) ?_
        refine E.iadd dX12_partAt_25 ?_
        refine E.goto dX12_partAt_26 ?_
        refine E.istore_n (lv' := [(1, .int (x2 + 1)), (0, .ref (b + o)), (2, .int x2)]) dX12_partAt_30 (by decide) rfl ?_
        refine E.iinc (q := 2) (v := (x2 + 1)) (lv' := [(2, .int (x2 + 1)), (1, .int (x2 + 1)), (0, .ref (b + o))]) dX12_partAt_31 rfl rfl (by decide) rfl ?_
        refine E.goto dX12_partAt_34 ?_
        refine E.locals [2, 1, 0] rfl ?_
        exact ih hf
def fX12_partAt (Fu : Nat) (v_sort : Int32) (v_worth : Int64) (a_words : Nat → Int64) : Option (Int32) := fX12_partAt_L4 Fu Fu v_sort v_worth a_words (-1 : Int32) 0
set_option maxHeartbeats 4000000 in
set_option maxRecDepth 100000 in
theorem tX12_partAt {G : GT} {b : Nat} {o : Nat} {c0 : Hp} {n : Nat} (hw : e_wf (kM o) n) {v_thrown : Int32} {v_status : Int32} {a_refusals : Nat → Int32} {a_row : Nat → Int32} {a_images : Nat → Int32} {a_isKept : Nat → Int32} {a_tape : Nat → Int32} {v_taped : Int32} {v_from : Int32} {v_to : Int32} {v_fault : Int32} {v_bad : Int32} {v_nClauses : Int32} {a_nClause : Nat → Int32} {v_nCode : Int32} {a_nOp : Nat → Int32} {a_nArg : Nat → Int32} {v_nLeaves : Int32} {a_pile : Nat → Int32} {a_pileAt : Nat → Int32} {v_piled : Int32} {v_opened : Int32} {a_headWords : Nat → Int64} {v_law : Int32} {a_set : Nat → Int64} {a_rest : Nat → Int64} {v_broken : Int32} {v_value : Int64} {v_sum : Int64} {a_chances : Nat → Int32} {a_votes : Nat → Int64} {a_costs : Nat → Int32} {a_table : Nat → Int64} {a_prices : Nat → Int32} {v_surely : Int64} {a_mostBy : Nat → Int64} {a_leastBy : Nat → Int64} {v_between : Int64} {v_steadyWays : Int32} {v_quashed : Int32} {v_but : Int32} {a_figures : Nat → Int32} {a_all : Nat → Int32} {a_lies : Nat → Int32} {a_since : Nat → Int32} {v_last : Int32} {v_state : Int64} {Fu : Nat} {v_sort : Int32} {v_worth : Int64} {a_words : Nat → Int64} {R : Int32} (hf : fX12_partAt Fu v_sort v_worth a_words = some R) : E G b yX12_partAt cX12_partAt 3 (some .int) (e_rm 1 0 0) e_X0 (e_Z G b (pD (some (.int R)) (e_ov (kM o) (wM G b o v_thrown v_status a_refusals a_row a_images a_isKept a_tape v_taped v_from v_to v_sort v_worth v_fault v_bad v_nClauses a_nClause v_nCode a_nOp a_nArg v_nLeaves a_pile a_pileAt v_piled v_opened a_words a_headWords v_law a_set a_rest v_broken v_value v_sum a_chances a_votes a_costs a_table a_prices v_surely a_mostBy a_leastBy v_between v_steadyWays v_quashed v_but a_figures a_all a_lies a_since v_last v_state) c0) n) 0 0) 0 [(0, .ref (b + o))] [] (e_ov (kM o) (wM G b o v_thrown v_status a_refusals a_row a_images a_isKept a_tape v_taped v_from v_to v_sort v_worth v_fault v_bad v_nClauses a_nClause v_nCode a_nOp a_nArg v_nLeaves a_pile a_pileAt v_piled v_opened a_words a_headWords v_law a_set a_rest v_broken v_value v_sum a_chances a_votes a_costs a_table a_prices v_surely a_mostBy a_leastBy v_between v_steadyWays v_quashed v_but a_figures a_all a_lies a_since v_last v_state) c0) n 0 0 := by
  unfold fX12_partAt at hf
  refine E.iconst (v := -1) dX12_partAt_0 (by decide) ?_
  refine E.istore_n (lv' := [(1, .int (-1 : Int32)), (0, .ref (b + o))]) dX12_partAt_1 (by decide) rfl ?_
  refine E.iconst (v := 0) dX12_partAt_2 (by decide) ?_
  refine E.istore_n (lv' := [(2, .int 0), (1, .int (-1 : Int32)), (0, .ref (b + o))]) dX12_partAt_3 (by decide) rfl ?_
  refine E.locals [2, 1, 0] rfl ?_
  exact tX12_partAt_L4 hw _ hf
set_option maxRecDepth 100000 in
theorem mX12_partAt {G : GT} {b : Nat} {o : Nat} {c0 : Hp} {n : Nat} (hw : e_wf (kM o) n) {v_thrown : Int32} {v_status : Int32} {a_refusals : Nat → Int32} {a_row : Nat → Int32} {a_images : Nat → Int32} {a_isKept : Nat → Int32} {a_tape : Nat → Int32} {v_taped : Int32} {v_from : Int32} {v_to : Int32} {v_fault : Int32} {v_bad : Int32} {v_nClauses : Int32} {a_nClause : Nat → Int32} {v_nCode : Int32} {a_nOp : Nat → Int32} {a_nArg : Nat → Int32} {v_nLeaves : Int32} {a_pile : Nat → Int32} {a_pileAt : Nat → Int32} {v_piled : Int32} {v_opened : Int32} {a_headWords : Nat → Int64} {v_law : Int32} {a_set : Nat → Int64} {a_rest : Nat → Int64} {v_broken : Int32} {v_value : Int64} {v_sum : Int64} {a_chances : Nat → Int32} {a_votes : Nat → Int64} {a_costs : Nat → Int32} {a_table : Nat → Int64} {a_prices : Nat → Int32} {v_surely : Int64} {a_mostBy : Nat → Int64} {a_leastBy : Nat → Int64} {v_between : Int64} {v_steadyWays : Int32} {v_quashed : Int32} {v_but : Int32} {a_figures : Nat → Int32} {a_all : Nat → Int32} {a_lies : Nat → Int32} {a_since : Nat → Int32} {v_last : Int32} {v_state : Int64} {Fu : Nat} {v_sort : Int32} {v_worth : Int64} {a_words : Nat → Int64} {R : Int32} (hf : fX12_partAt Fu v_sort v_worth a_words = some R) : e_C G b yX12_partAt cX12_partAt 3 (some .int) 1 0 0 [.ref (b + o)] (e_ov (kM o) (wM G b o v_thrown v_status a_refusals a_row a_images a_isKept a_tape v_taped v_from v_to v_sort v_worth v_fault v_bad v_nClauses a_nClause v_nCode a_nOp a_nArg v_nLeaves a_pile a_pileAt v_piled v_opened a_words a_headWords v_law a_set a_rest v_broken v_value v_sum a_chances a_votes a_costs a_table a_prices v_surely a_mostBy a_leastBy v_between v_steadyWays v_quashed v_but a_figures a_all a_lies a_since v_last v_state) c0) n (pD (some (.int R)) (e_ov (kM o) (wM G b o v_thrown v_status a_refusals a_row a_images a_isKept a_tape v_taped v_from v_to v_sort v_worth v_fault v_bad v_nClauses a_nClause v_nCode a_nOp a_nArg v_nLeaves a_pile a_pileAt v_piled v_opened a_words a_headWords v_law a_set a_rest v_broken v_value v_sum a_chances a_votes a_costs a_table a_prices v_surely a_mostBy a_leastBy v_between v_steadyWays v_quashed v_but a_figures a_all a_lies a_since v_last v_state) c0) n) := e_C.of (by decide) (Nat.le_of_ble_eq_true rfl) (tX12_partAt hw hf)
def fX12_openBracket_L15 (Fu : Nat) (a_tape : Nat → Int32) (v_taped : Int32) (v_from : Int32) (v_to : Int32) (v_sort : Int32) (v_worth : Int64) (v_fault : Int32) (v_bad : Int32) (a_pile : Nat → Int32) (a_pileAt : Nat → Int32) (v_piled : Int32) (v_opened : Int32) (x1 : Int32) (s0 : Int32) : Option (Int32 × Int32 × Int32 × Int64 × Int32 × Int32 × (Nat → Int32) × (Nat → Int32) × Int32 × Int32) := (fX12_must Fu a_tape v_taped v_from v_to v_sort v_worth v_fault v_bad s0).bind fun r1 => (if (r1.2.2.2.2.2 : Int32) = 0 then ((fX12_push a_pile a_pileAt v_piled x1 0).bind fun r2 => (some (r1.1, r1.2.1, r1.2.2.1, r1.2.2.2.1, r1.2.2.2.2.1, r1.2.2.2.2.2, r2.1, r2.2.1, r2.2.2, (v_opened + 1)))) else (some (r1.1, r1.2.1, r1.2.2.1, r1.2.2.2.1, r1.2.2.2.2.1, r1.2.2.2.2.2, a_pile, a_pileAt, v_piled, v_opened)))
set_option maxHeartbeats 4000000 in
set_option maxRecDepth 100000 in
theorem tX12_openBracket_L15 {G : GT} {b : Nat} {o : Nat} {c0 : Hp} {n : Nat} (hw : e_wf (kM o) n) {v_thrown : Int32} {v_status : Int32} {a_refusals : Nat → Int32} {a_row : Nat → Int32} {a_images : Nat → Int32} {a_isKept : Nat → Int32} {v_nClauses : Int32} {a_nClause : Nat → Int32} {v_nCode : Int32} {a_nOp : Nat → Int32} {a_nArg : Nat → Int32} {v_nLeaves : Int32} {a_words : Nat → Int64} {a_headWords : Nat → Int64} {v_law : Int32} {a_set : Nat → Int64} {a_rest : Nat → Int64} {v_broken : Int32} {v_value : Int64} {v_sum : Int64} {a_chances : Nat → Int32} {a_votes : Nat → Int64} {a_costs : Nat → Int32} {a_table : Nat → Int64} {a_prices : Nat → Int32} {v_surely : Int64} {a_mostBy : Nat → Int64} {a_leastBy : Nat → Int64} {v_between : Int64} {v_steadyWays : Int32} {v_quashed : Int32} {v_but : Int32} {a_figures : Nat → Int32} {a_all : Nat → Int32} {a_lies : Nat → Int32} {a_since : Nat → Int32} {v_last : Int32} {v_state : Int64} {Fu : Nat} {a_tape : Nat → Int32} {v_taped : Int32} {v_from : Int32} {v_to : Int32} {v_sort : Int32} {v_worth : Int64} {v_fault : Int32} {v_bad : Int32} {a_pile : Nat → Int32} {a_pileAt : Nat → Int32} {v_piled : Int32} {v_opened : Int32} {x1 : Int32} {s0 : Int32} {R : Int32 × Int32 × Int32 × Int64 × Int32 × Int32 × (Nat → Int32) × (Nat → Int32) × Int32 × Int32} (hf : fX12_openBracket_L15 Fu a_tape v_taped v_from v_to v_sort v_worth v_fault v_bad a_pile a_pileAt v_piled v_opened x1 s0 = some R) : E G b yX12_openBracket cX12_openBracket 2 none (e_rm 3 0 0) e_X0 (e_Z G b (pD none (e_ov (kM o) (wM G b o v_thrown v_status a_refusals a_row a_images a_isKept a_tape v_taped R.1 R.2.1 R.2.2.1 R.2.2.2.1 R.2.2.2.2.1 R.2.2.2.2.2.1 v_nClauses a_nClause v_nCode a_nOp a_nArg v_nLeaves R.2.2.2.2.2.2.1 R.2.2.2.2.2.2.2.1 R.2.2.2.2.2.2.2.2.1 R.2.2.2.2.2.2.2.2.2 a_words a_headWords v_law a_set a_rest v_broken v_value v_sum a_chances a_votes a_costs a_table a_prices v_surely a_mostBy a_leastBy v_between v_steadyWays v_quashed v_but a_figures a_all a_lies a_since v_last v_state) c0) n) 0 0) 15 [(0, .ref (b + o)), (1, .int x1)] [.int s0, .ref (b + o)] (e_ov (kM o) (wM G b o v_thrown v_status a_refusals a_row a_images a_isKept a_tape v_taped v_from v_to v_sort v_worth v_fault v_bad v_nClauses a_nClause v_nCode a_nOp a_nArg v_nLeaves a_pile a_pileAt v_piled v_opened a_words a_headWords v_law a_set a_rest v_broken v_value v_sum a_chances a_votes a_costs a_table a_prices v_surely a_mostBy a_leastBy v_between v_steadyWays v_quashed v_but a_figures a_all a_lies a_since v_last v_state) c0) n 0 0 := by
  unfold fX12_openBracket_L15 at hf
  obtain ⟨r1, hc1, hf⟩ := e_bind hf
  refine E.callVD [] dX12_openBracket_15 mlX12_229 ⟨hw.sub (p := 0) rfl, e_ov_get hw.1 (p := 0) rfl rfl⟩ rfl rfl (mX12_must hw hc1) ⟨Nat.le_of_ble_eq_true rfl, Nat.le_of_ble_eq_true rfl⟩ rfl rfl (Nat.le_of_ble_eq_true rfl) ⟨Nat.le_refl _, Nat.le_refl _⟩ rfl ?_
  refine E.aload_n 0 dX12_openBracket_18 rfl ?_
  refine E.get hw 0 o dX12_openBracket_19 flX12_194 rfl rfl rfl rfl ?_
  refine E.if_ne dX12_openBracket_22 (fun h => ?_) (fun h => ?_)
  · have hf := e_iff hf h
    cases hf
    exact E.vret dX12_openBracket_41 (Nat.le_refl _) (Nat.le_refl _) (pD_rf _ _ _)
  · have hf := e_ift hf h
    refine E.aload_n 0 dX12_openBracket_25 rfl ?_
    refine E.dup dX12_openBracket_26 rfl ?_
    refine E.get hw 0 o dX12_openBracket_27 flX12_256 rfl rfl rfl rfl ?_
    refine E.iconst (v := 1) dX12_openBracket_30 (by decide) ?_
    refine E.iadd dX12_openBracket_31 ?_
    refine E.put (es' := (wM G b o v_thrown v_status a_refusals a_row a_images a_isKept a_tape v_taped r1.1 r1.2.1 r1.2.2.1 r1.2.2.2.1 r1.2.2.2.2.1 r1.2.2.2.2.2 v_nClauses a_nClause v_nCode a_nOp a_nArg v_nLeaves a_pile a_pileAt v_piled (v_opened + 1) a_words a_headWords v_law a_set a_rest v_broken v_value v_sum a_chances a_votes a_costs a_table a_prices v_surely a_mostBy a_leastBy v_between v_steadyWays v_quashed v_but a_figures a_all a_lies a_since v_last v_state)) hw 0 o dX12_openBracket_32 flX12_256 ftX12 rfl rfl rfl rfl rfl rfl (Nat.le_of_ble_eq_true rfl) rfl ?_
    refine E.aload_n 0 dX12_openBracket_35 rfl ?_
    refine E.iload_n 1 dX12_openBracket_36 rfl ?_
    refine E.iconst (v := 0) dX12_openBracket_37 (by decide) ?_
    obtain ⟨r2, hc2, hf⟩ := e_bind hf
    refine E.callVD [] dX12_openBracket_38 mlX12_259 ⟨hw.sub (p := 0) rfl, e_ov_get hw.1 (p := 0) rfl rfl⟩ rfl rfl (mX12_push hw hc2) ⟨Nat.le_of_ble_eq_true rfl, Nat.le_of_ble_eq_true rfl⟩ rfl rfl (Nat.le_of_ble_eq_true rfl) ⟨Nat.le_refl _, Nat.le_refl _⟩ rfl ?_
    cases hf
    exact E.vret dX12_openBracket_41 (Nat.le_refl _) (Nat.le_refl _) (pD_rf _ _ _)
def fX12_openBracket (Fu : Nat) (a_tape : Nat → Int32) (v_taped : Int32) (v_from : Int32) (v_to : Int32) (v_sort : Int32) (v_worth : Int64) (v_fault : Int32) (v_bad : Int32) (a_pile : Nat → Int32) (a_pileAt : Nat → Int32) (v_piled : Int32) (v_opened : Int32) (x1 : Int32) : Option (Int32 × Int32 × Int32 × Int64 × Int32 × Int32 × (Nat → Int32) × (Nat → Int32) × Int32 × Int32) := if (8 : Int32) ≤ (v_opened : Int32) then (fX12_openBracket_L15 Fu a_tape v_taped v_from v_to v_sort v_worth v_fault v_bad a_pile a_pileAt v_piled v_opened x1 0) else (fX12_openBracket_L15 Fu a_tape v_taped v_from v_to v_sort v_worth v_fault v_bad a_pile a_pileAt v_piled v_opened x1 1)
set_option maxHeartbeats 4000000 in
set_option maxRecDepth 100000 in
theorem tX12_openBracket {G : GT} {b : Nat} {o : Nat} {c0 : Hp} {n : Nat} (hw : e_wf (kM o) n) {v_thrown : Int32} {v_status : Int32} {a_refusals : Nat → Int32} {a_row : Nat → Int32} {a_images : Nat → Int32} {a_isKept : Nat → Int32} {v_nClauses : Int32} {a_nClause : Nat → Int32} {v_nCode : Int32} {a_nOp : Nat → Int32} {a_nArg : Nat → Int32} {v_nLeaves : Int32} {a_words : Nat → Int64} {a_headWords : Nat → Int64} {v_law : Int32} {a_set : Nat → Int64} {a_rest : Nat → Int64} {v_broken : Int32} {v_value : Int64} {v_sum : Int64} {a_chances : Nat → Int32} {a_votes : Nat → Int64} {a_costs : Nat → Int32} {a_table : Nat → Int64} {a_prices : Nat → Int32} {v_surely : Int64} {a_mostBy : Nat → Int64} {a_leastBy : Nat → Int64} {v_between : Int64} {v_steadyWays : Int32} {v_quashed : Int32} {v_but : Int32} {a_figures : Nat → Int32} {a_all : Nat → Int32} {a_lies : Nat → Int32} {a_since : Nat → Int32} {v_last : Int32} {v_state : Int64} {Fu : Nat} {a_tape : Nat → Int32} {v_taped : Int32} {v_from : Int32} {v_to : Int32} {v_sort : Int32} {v_worth : Int64} {v_fault : Int32} {v_bad : Int32} {a_pile : Nat → Int32} {a_pileAt : Nat → Int32} {v_piled : Int32} {v_opened : Int32} {x1 : Int32} {R : Int32 × Int32 × Int32 × Int64 × Int32 × Int32 × (Nat → Int32) × (Nat → Int32) × Int32 × Int32} (hf : fX12_openBracket Fu a_tape v_taped v_from v_to v_sort v_worth v_fault v_bad a_pile a_pileAt v_piled v_opened x1 = some R) : E G b yX12_openBracket cX12_openBracket 2 none (e_rm 3 0 0) e_X0 (e_Z G b (pD none (e_ov (kM o) (wM G b o v_thrown v_status a_refusals a_row a_images a_isKept a_tape v_taped R.1 R.2.1 R.2.2.1 R.2.2.2.1 R.2.2.2.2.1 R.2.2.2.2.2.1 v_nClauses a_nClause v_nCode a_nOp a_nArg v_nLeaves R.2.2.2.2.2.2.1 R.2.2.2.2.2.2.2.1 R.2.2.2.2.2.2.2.2.1 R.2.2.2.2.2.2.2.2.2 a_words a_headWords v_law a_set a_rest v_broken v_value v_sum a_chances a_votes a_costs a_table a_prices v_surely a_mostBy a_leastBy v_between v_steadyWays v_quashed v_but a_figures a_all a_lies a_since v_last v_state) c0) n) 0 0) 0 [(0, .ref (b + o)), (1, .int x1)] [] (e_ov (kM o) (wM G b o v_thrown v_status a_refusals a_row a_images a_isKept a_tape v_taped v_from v_to v_sort v_worth v_fault v_bad v_nClauses a_nClause v_nCode a_nOp a_nArg v_nLeaves a_pile a_pileAt v_piled v_opened a_words a_headWords v_law a_set a_rest v_broken v_value v_sum a_chances a_votes a_costs a_table a_prices v_surely a_mostBy a_leastBy v_between v_steadyWays v_quashed v_but a_figures a_all a_lies a_since v_last v_state) c0) n 0 0 := by
  unfold fX12_openBracket at hf
  refine E.aload_n 0 dX12_openBracket_0 rfl ?_
  refine E.aload_n 0 dX12_openBracket_1 rfl ?_
  refine E.get hw 0 o dX12_openBracket_2 flX12_256 rfl rfl rfl rfl ?_
  refine E.bipush (v := 8) dX12_openBracket_5 (by decide) ?_
  refine E.icmp_ge dX12_openBracket_7 (fun h => ?_) (fun h => ?_)
  · have hf := e_ift hf h
    refine E.iconst (v := 0) dX12_openBracket_14 (by decide) ?_
    exact tX12_openBracket_L15 hw hf
  · have hf := e_iff hf h
    refine E.iconst (v := 1) dX12_openBracket_10 (by decide) ?_
    refine E.goto dX12_openBracket_11 ?_
    exact tX12_openBracket_L15 hw hf
set_option maxRecDepth 100000 in
theorem mX12_openBracket {G : GT} {b : Nat} {o : Nat} {c0 : Hp} {n : Nat} (hw : e_wf (kM o) n) {v_thrown : Int32} {v_status : Int32} {a_refusals : Nat → Int32} {a_row : Nat → Int32} {a_images : Nat → Int32} {a_isKept : Nat → Int32} {v_nClauses : Int32} {a_nClause : Nat → Int32} {v_nCode : Int32} {a_nOp : Nat → Int32} {a_nArg : Nat → Int32} {v_nLeaves : Int32} {a_words : Nat → Int64} {a_headWords : Nat → Int64} {v_law : Int32} {a_set : Nat → Int64} {a_rest : Nat → Int64} {v_broken : Int32} {v_value : Int64} {v_sum : Int64} {a_chances : Nat → Int32} {a_votes : Nat → Int64} {a_costs : Nat → Int32} {a_table : Nat → Int64} {a_prices : Nat → Int32} {v_surely : Int64} {a_mostBy : Nat → Int64} {a_leastBy : Nat → Int64} {v_between : Int64} {v_steadyWays : Int32} {v_quashed : Int32} {v_but : Int32} {a_figures : Nat → Int32} {a_all : Nat → Int32} {a_lies : Nat → Int32} {a_since : Nat → Int32} {v_last : Int32} {v_state : Int64} {Fu : Nat} {a_tape : Nat → Int32} {v_taped : Int32} {v_from : Int32} {v_to : Int32} {v_sort : Int32} {v_worth : Int64} {v_fault : Int32} {v_bad : Int32} {a_pile : Nat → Int32} {a_pileAt : Nat → Int32} {v_piled : Int32} {v_opened : Int32} {x1 : Int32} {R : Int32 × Int32 × Int32 × Int64 × Int32 × Int32 × (Nat → Int32) × (Nat → Int32) × Int32 × Int32} (hf : fX12_openBracket Fu a_tape v_taped v_from v_to v_sort v_worth v_fault v_bad a_pile a_pileAt v_piled v_opened x1 = some R) : e_C G b yX12_openBracket cX12_openBracket 2 none 3 0 0 [.ref (b + o), .int x1] (e_ov (kM o) (wM G b o v_thrown v_status a_refusals a_row a_images a_isKept a_tape v_taped v_from v_to v_sort v_worth v_fault v_bad v_nClauses a_nClause v_nCode a_nOp a_nArg v_nLeaves a_pile a_pileAt v_piled v_opened a_words a_headWords v_law a_set a_rest v_broken v_value v_sum a_chances a_votes a_costs a_table a_prices v_surely a_mostBy a_leastBy v_between v_steadyWays v_quashed v_but a_figures a_all a_lies a_since v_last v_state) c0) n (pD none (e_ov (kM o) (wM G b o v_thrown v_status a_refusals a_row a_images a_isKept a_tape v_taped R.1 R.2.1 R.2.2.1 R.2.2.2.1 R.2.2.2.2.1 R.2.2.2.2.2.1 v_nClauses a_nClause v_nCode a_nOp a_nArg v_nLeaves R.2.2.2.2.2.2.1 R.2.2.2.2.2.2.2.1 R.2.2.2.2.2.2.2.2.1 R.2.2.2.2.2.2.2.2.2 a_words a_headWords v_law a_set a_rest v_broken v_value v_sum a_chances a_votes a_costs a_table a_prices v_surely a_mostBy a_leastBy v_between v_steadyWays v_quashed v_but a_figures a_all a_lies a_since v_last v_state) c0) n) := e_C.of (by decide) (Nat.le_of_ble_eq_true rfl) (tX12_openBracket hw hf)
def fX12_leaf_L19 (Fu : Nat) (a_tape : Nat → Int32) (v_taped : Int32) (v_from : Int32) (v_to : Int32) (v_sort : Int32) (v_worth : Int64) (v_fault : Int32) (v_bad : Int32) (v_nCode : Int32) (a_nOp : Nat → Int32) (a_nArg : Nat → Int32) (v_nLeaves : Int32) (x2 : Int32) (x3 : Int32) (s0 : Int32) : Option (Int32 × Int32 × Int32 × Int64 × Int32 × Int32 × Int32 × (Nat → Int32) × (Nat → Int32) × Int32) := (fX12_must Fu a_tape v_taped v_from v_to v_sort v_worth v_fault v_bad s0).bind fun r1 => (if (r1.2.2.2.2.2 : Int32) = 0 then ((fX12_emit v_nCode a_nOp a_nArg x2 x3).bind fun r2 => (some (r1.1, r1.2.1, r1.2.2.1, r1.2.2.2.1, r1.2.2.2.2.1, r1.2.2.2.2.2, r2.1, r2.2.1, r2.2.2, (v_nLeaves + 1)))) else (some (r1.1, r1.2.1, r1.2.2.1, r1.2.2.2.1, r1.2.2.2.2.1, r1.2.2.2.2.2, v_nCode, a_nOp, a_nArg, v_nLeaves)))
set_option maxHeartbeats 4000000 in
set_option maxRecDepth 100000 in
theorem tX12_leaf_L19 {G : GT} {b : Nat} {o : Nat} {c0 : Hp} {n : Nat} (hw : e_wf (kM o) n) {v_thrown : Int32} {v_status : Int32} {a_refusals : Nat → Int32} {a_row : Nat → Int32} {a_images : Nat → Int32} {a_isKept : Nat → Int32} {v_nClauses : Int32} {a_nClause : Nat → Int32} {a_pile : Nat → Int32} {a_pileAt : Nat → Int32} {v_piled : Int32} {v_opened : Int32} {a_words : Nat → Int64} {a_headWords : Nat → Int64} {v_law : Int32} {a_set : Nat → Int64} {a_rest : Nat → Int64} {v_broken : Int32} {v_value : Int64} {v_sum : Int64} {a_chances : Nat → Int32} {a_votes : Nat → Int64} {a_costs : Nat → Int32} {a_table : Nat → Int64} {a_prices : Nat → Int32} {v_surely : Int64} {a_mostBy : Nat → Int64} {a_leastBy : Nat → Int64} {v_between : Int64} {v_steadyWays : Int32} {v_quashed : Int32} {v_but : Int32} {a_figures : Nat → Int32} {a_all : Nat → Int32} {a_lies : Nat → Int32} {a_since : Nat → Int32} {v_last : Int32} {v_state : Int64} {Fu : Nat} {a_tape : Nat → Int32} {v_taped : Int32} {v_from : Int32} {v_to : Int32} {v_sort : Int32} {v_worth : Int64} {v_fault : Int32} {v_bad : Int32} {v_nCode : Int32} {a_nOp : Nat → Int32} {a_nArg : Nat → Int32} {v_nLeaves : Int32} {x2 : Int32} {x3 : Int32} {s0 : Int32} {R : Int32 × Int32 × Int32 × Int64 × Int32 × Int32 × Int32 × (Nat → Int32) × (Nat → Int32) × Int32} (hf : fX12_leaf_L19 Fu a_tape v_taped v_from v_to v_sort v_worth v_fault v_bad v_nCode a_nOp a_nArg v_nLeaves x2 x3 s0 = some R) : E G b yX12_leaf cX12_leaf 4 none (e_rm 3 0 0) e_X0 (e_Z G b (pD none (e_ov (kM o) (wM G b o v_thrown v_status a_refusals a_row a_images a_isKept a_tape v_taped R.1 R.2.1 R.2.2.1 R.2.2.2.1 R.2.2.2.2.1 R.2.2.2.2.2.1 v_nClauses a_nClause R.2.2.2.2.2.2.1 R.2.2.2.2.2.2.2.1 R.2.2.2.2.2.2.2.2.1 R.2.2.2.2.2.2.2.2.2 a_pile a_pileAt v_piled v_opened a_words a_headWords v_law a_set a_rest v_broken v_value v_sum a_chances a_votes a_costs a_table a_prices v_surely a_mostBy a_leastBy v_between v_steadyWays v_quashed v_but a_figures a_all a_lies a_since v_last v_state) c0) n) 0 0) 19 [(0, .ref (b + o)), (2, .int x2), (3, .int x3)] [.int s0, .ref (b + o)] (e_ov (kM o) (wM G b o v_thrown v_status a_refusals a_row a_images a_isKept a_tape v_taped v_from v_to v_sort v_worth v_fault v_bad v_nClauses a_nClause v_nCode a_nOp a_nArg v_nLeaves a_pile a_pileAt v_piled v_opened a_words a_headWords v_law a_set a_rest v_broken v_value v_sum a_chances a_votes a_costs a_table a_prices v_surely a_mostBy a_leastBy v_between v_steadyWays v_quashed v_but a_figures a_all a_lies a_since v_last v_state) c0) n 0 0 := by
  unfold fX12_leaf_L19 at hf
  obtain ⟨r1, hc1, hf⟩ := e_bind hf
  refine E.callVD [] dX12_leaf_19 mlX12_229 ⟨hw.sub (p := 0) rfl, e_ov_get hw.1 (p := 0) rfl rfl⟩ rfl rfl (mX12_must hw hc1) ⟨Nat.le_of_ble_eq_true rfl, Nat.le_of_ble_eq_true rfl⟩ rfl rfl (Nat.le_of_ble_eq_true rfl) ⟨Nat.le_refl _, Nat.le_refl _⟩ rfl ?_
  refine E.aload_n 0 dX12_leaf_22 rfl ?_
  refine E.get hw 0 o dX12_leaf_23 flX12_194 rfl rfl rfl rfl ?_
  refine E.if_ne dX12_leaf_26 (fun h => ?_) (fun h => ?_)
  · have hf := e_iff hf h
    cases hf
    exact E.vret dX12_leaf_45 (Nat.le_refl _) (Nat.le_refl _) (pD_rf _ _ _)
  · have hf := e_ift hf h
    refine E.aload_n 0 dX12_leaf_29 rfl ?_
    refine E.iload_n 1 dX12_leaf_30 rfl ?_
    refine E.iload_n 2 dX12_leaf_31 rfl ?_
    obtain ⟨r2, hc2, hf⟩ := e_bind hf
    refine E.callVD [] dX12_leaf_32 mlX12_242 ⟨hw.sub (p := 0) rfl, e_ov_get hw.1 (p := 0) rfl rfl⟩ rfl rfl (mX12_emit hw hc2) ⟨Nat.le_of_ble_eq_true rfl, Nat.le_of_ble_eq_true rfl⟩ rfl rfl (Nat.le_of_ble_eq_true rfl) ⟨Nat.le_refl _, Nat.le_refl _⟩ rfl ?_
    refine E.aload_n 0 dX12_leaf_35 rfl ?_
    refine E.dup dX12_leaf_36 rfl ?_
    refine E.get hw 0 o dX12_leaf_37 flX12_262 rfl rfl rfl rfl ?_
    refine E.iconst (v := 1) dX12_leaf_40 (by decide) ?_
    refine E.iadd dX12_leaf_41 ?_
    refine E.put (es' := (wM G b o v_thrown v_status a_refusals a_row a_images a_isKept a_tape v_taped r1.1 r1.2.1 r1.2.2.1 r1.2.2.2.1 r1.2.2.2.2.1 r1.2.2.2.2.2 v_nClauses a_nClause r2.1 r2.2.1 r2.2.2 (v_nLeaves + 1) a_pile a_pileAt v_piled v_opened a_words a_headWords v_law a_set a_rest v_broken v_value v_sum a_chances a_votes a_costs a_table a_prices v_surely a_mostBy a_leastBy v_between v_steadyWays v_quashed v_but a_figures a_all a_lies a_since v_last v_state)) hw 0 o dX12_leaf_42 flX12_262 ftX12 rfl rfl rfl rfl rfl rfl (Nat.le_of_ble_eq_true rfl) rfl ?_
    cases hf
    exact E.vret dX12_leaf_45 (Nat.le_refl _) (Nat.le_refl _) (pD_rf _ _ _)
def fX12_leaf_L18 (Fu : Nat) (a_tape : Nat → Int32) (v_taped : Int32) (v_from : Int32) (v_to : Int32) (v_sort : Int32) (v_worth : Int64) (v_fault : Int32) (v_bad : Int32) (v_nCode : Int32) (a_nOp : Nat → Int32) (a_nArg : Nat → Int32) (v_nLeaves : Int32) (x2 : Int32) (x3 : Int32) : Option (Int32 × Int32 × Int32 × Int64 × Int32 × Int32 × Int32 × (Nat → Int32) × (Nat → Int32) × Int32) := fX12_leaf_L19 Fu a_tape v_taped v_from v_to v_sort v_worth v_fault v_bad v_nCode a_nOp a_nArg v_nLeaves x2 x3 0
set_option maxHeartbeats 4000000 in
set_option maxRecDepth 100000 in
theorem tX12_leaf_L18 {G : GT} {b : Nat} {o : Nat} {c0 : Hp} {n : Nat} (hw : e_wf (kM o) n) {v_thrown : Int32} {v_status : Int32} {a_refusals : Nat → Int32} {a_row : Nat → Int32} {a_images : Nat → Int32} {a_isKept : Nat → Int32} {v_nClauses : Int32} {a_nClause : Nat → Int32} {a_pile : Nat → Int32} {a_pileAt : Nat → Int32} {v_piled : Int32} {v_opened : Int32} {a_words : Nat → Int64} {a_headWords : Nat → Int64} {v_law : Int32} {a_set : Nat → Int64} {a_rest : Nat → Int64} {v_broken : Int32} {v_value : Int64} {v_sum : Int64} {a_chances : Nat → Int32} {a_votes : Nat → Int64} {a_costs : Nat → Int32} {a_table : Nat → Int64} {a_prices : Nat → Int32} {v_surely : Int64} {a_mostBy : Nat → Int64} {a_leastBy : Nat → Int64} {v_between : Int64} {v_steadyWays : Int32} {v_quashed : Int32} {v_but : Int32} {a_figures : Nat → Int32} {a_all : Nat → Int32} {a_lies : Nat → Int32} {a_since : Nat → Int32} {v_last : Int32} {v_state : Int64} {Fu : Nat} {a_tape : Nat → Int32} {v_taped : Int32} {v_from : Int32} {v_to : Int32} {v_sort : Int32} {v_worth : Int64} {v_fault : Int32} {v_bad : Int32} {v_nCode : Int32} {a_nOp : Nat → Int32} {a_nArg : Nat → Int32} {v_nLeaves : Int32} {x2 : Int32} {x3 : Int32} {R : Int32 × Int32 × Int32 × Int64 × Int32 × Int32 × Int32 × (Nat → Int32) × (Nat → Int32) × Int32} (hf : fX12_leaf_L18 Fu a_tape v_taped v_from v_to v_sort v_worth v_fault v_bad v_nCode a_nOp a_nArg v_nLeaves x2 x3 = some R) : E G b yX12_leaf cX12_leaf 4 none (e_rm 3 0 0) e_X0 (e_Z G b (pD none (e_ov (kM o) (wM G b o v_thrown v_status a_refusals a_row a_images a_isKept a_tape v_taped R.1 R.2.1 R.2.2.1 R.2.2.2.1 R.2.2.2.2.1 R.2.2.2.2.2.1 v_nClauses a_nClause R.2.2.2.2.2.2.1 R.2.2.2.2.2.2.2.1 R.2.2.2.2.2.2.2.2.1 R.2.2.2.2.2.2.2.2.2 a_pile a_pileAt v_piled v_opened a_words a_headWords v_law a_set a_rest v_broken v_value v_sum a_chances a_votes a_costs a_table a_prices v_surely a_mostBy a_leastBy v_between v_steadyWays v_quashed v_but a_figures a_all a_lies a_since v_last v_state) c0) n) 0 0) 18 [(0, .ref (b + o)), (2, .int x2), (3, .int x3)] [.ref (b + o)] (e_ov (kM o) (wM G b o v_thrown v_status a_refusals a_row a_images a_isKept a_tape v_taped v_from v_to v_sort v_worth v_fault v_bad v_nClauses a_nClause v_nCode a_nOp a_nArg v_nLeaves a_pile a_pileAt v_piled v_opened a_words a_headWords v_law a_set a_rest v_broken v_value v_sum a_chances a_votes a_costs a_table a_prices v_surely a_mostBy a_leastBy v_between v_steadyWays v_quashed v_but a_figures a_all a_lies a_since v_last v_state) c0) n 0 0 := by
  unfold fX12_leaf_L18 at hf
  refine E.iconst (v := 0) dX12_leaf_18 (by decide) ?_
  exact tX12_leaf_L19 hw hf
def fX12_leaf (Fu : Nat) (a_tape : Nat → Int32) (v_taped : Int32) (v_from : Int32) (v_to : Int32) (v_sort : Int32) (v_worth : Int64) (v_fault : Int32) (v_bad : Int32) (v_nCode : Int32) (a_nOp : Nat → Int32) (a_nArg : Nat → Int32) (v_nLeaves : Int32) (x1 : Int32) (x2 : Int32) (x3 : Int32) : Option (Int32 × Int32 × Int32 × Int64 × Int32 × Int32 × Int32 × (Nat → Int32) × (Nat → Int32) × Int32) := if (x1 : Int32) = 0 then (fX12_leaf_L18 Fu a_tape v_taped v_from v_to v_sort v_worth v_fault v_bad v_nCode a_nOp a_nArg v_nLeaves x2 x3) else (if (50 : Int32) ≤ (v_nLeaves : Int32) then (fX12_leaf_L18 Fu a_tape v_taped v_from v_to v_sort v_worth v_fault v_bad v_nCode a_nOp a_nArg v_nLeaves x2 x3) else (fX12_leaf_L19 Fu a_tape v_taped v_from v_to v_sort v_worth v_fault v_bad v_nCode a_nOp a_nArg v_nLeaves x2 x3 1))
set_option maxHeartbeats 4000000 in
set_option maxRecDepth 100000 in
theorem tX12_leaf {G : GT} {b : Nat} {o : Nat} {c0 : Hp} {n : Nat} (hw : e_wf (kM o) n) {v_thrown : Int32} {v_status : Int32} {a_refusals : Nat → Int32} {a_row : Nat → Int32} {a_images : Nat → Int32} {a_isKept : Nat → Int32} {v_nClauses : Int32} {a_nClause : Nat → Int32} {a_pile : Nat → Int32} {a_pileAt : Nat → Int32} {v_piled : Int32} {v_opened : Int32} {a_words : Nat → Int64} {a_headWords : Nat → Int64} {v_law : Int32} {a_set : Nat → Int64} {a_rest : Nat → Int64} {v_broken : Int32} {v_value : Int64} {v_sum : Int64} {a_chances : Nat → Int32} {a_votes : Nat → Int64} {a_costs : Nat → Int32} {a_table : Nat → Int64} {a_prices : Nat → Int32} {v_surely : Int64} {a_mostBy : Nat → Int64} {a_leastBy : Nat → Int64} {v_between : Int64} {v_steadyWays : Int32} {v_quashed : Int32} {v_but : Int32} {a_figures : Nat → Int32} {a_all : Nat → Int32} {a_lies : Nat → Int32} {a_since : Nat → Int32} {v_last : Int32} {v_state : Int64} {Fu : Nat} {a_tape : Nat → Int32} {v_taped : Int32} {v_from : Int32} {v_to : Int32} {v_sort : Int32} {v_worth : Int64} {v_fault : Int32} {v_bad : Int32} {v_nCode : Int32} {a_nOp : Nat → Int32} {a_nArg : Nat → Int32} {v_nLeaves : Int32} {x1 : Int32} {x2 : Int32} {x3 : Int32} {R : Int32 × Int32 × Int32 × Int64 × Int32 × Int32 × Int32 × (Nat → Int32) × (Nat → Int32) × Int32} (hf : fX12_leaf Fu a_tape v_taped v_from v_to v_sort v_worth v_fault v_bad v_nCode a_nOp a_nArg v_nLeaves x1 x2 x3 = some R) : E G b yX12_leaf cX12_leaf 4 none (e_rm 3 0 0) e_X0 (e_Z G b (pD none (e_ov (kM o) (wM G b o v_thrown v_status a_refusals a_row a_images a_isKept a_tape v_taped R.1 R.2.1 R.2.2.1 R.2.2.2.1 R.2.2.2.2.1 R.2.2.2.2.2.1 v_nClauses a_nClause R.2.2.2.2.2.2.1 R.2.2.2.2.2.2.2.1 R.2.2.2.2.2.2.2.2.1 R.2.2.2.2.2.2.2.2.2 a_pile a_pileAt v_piled v_opened a_words a_headWords v_law a_set a_rest v_broken v_value v_sum a_chances a_votes a_costs a_table a_prices v_surely a_mostBy a_leastBy v_between v_steadyWays v_quashed v_but a_figures a_all a_lies a_since v_last v_state) c0) n) 0 0) 0 [(0, .ref (b + o)), (1, .int x1), (2, .int x2), (3, .int x3)] [] (e_ov (kM o) (wM G b o v_thrown v_status a_refusals a_row a_images a_isKept a_tape v_taped v_from v_to v_sort v_worth v_fault v_bad v_nClauses a_nClause v_nCode a_nOp a_nArg v_nLeaves a_pile a_pileAt v_piled v_opened a_words a_headWords v_law a_set a_rest v_broken v_value v_sum a_chances a_votes a_costs a_table a_prices v_surely a_mostBy a_leastBy v_between v_steadyWays v_quashed v_but a_figures a_all a_lies a_since v_last v_state) c0) n 0 0 := by
  unfold fX12_leaf at hf
  refine E.aload_n 0 dX12_leaf_0 rfl ?_
  refine E.iload_n 1 dX12_leaf_1 rfl ?_
  refine E.if_eq dX12_leaf_2 (fun h => ?_) (fun h => ?_)
  · have hf := e_ift hf h
    refine E.locals [0, 2, 3] rfl ?_
    exact tX12_leaf_L18 hw hf
  · have hf := e_iff hf h
    refine E.aload_n 0 dX12_leaf_5 rfl ?_
    refine E.get hw 0 o dX12_leaf_6 flX12_262 rfl rfl rfl rfl ?_
    refine E.bipush (v := 50) dX12_leaf_9 (by decide) ?_
    refine E.icmp_ge dX12_leaf_11 (fun h => ?_) (fun h => ?_)
    · have hf := e_ift hf h
      refine E.locals [0, 2, 3] rfl ?_
      exact tX12_leaf_L18 hw hf
    · have hf := e_iff hf h
      refine E.iconst (v := 1) dX12_leaf_14 (by decide) ?_
      refine E.goto dX12_leaf_15 ?_
      refine E.locals [0, 2, 3] rfl ?_
      exact tX12_leaf_L19 hw hf
set_option maxRecDepth 100000 in
theorem mX12_leaf {G : GT} {b : Nat} {o : Nat} {c0 : Hp} {n : Nat} (hw : e_wf (kM o) n) {v_thrown : Int32} {v_status : Int32} {a_refusals : Nat → Int32} {a_row : Nat → Int32} {a_images : Nat → Int32} {a_isKept : Nat → Int32} {v_nClauses : Int32} {a_nClause : Nat → Int32} {a_pile : Nat → Int32} {a_pileAt : Nat → Int32} {v_piled : Int32} {v_opened : Int32} {a_words : Nat → Int64} {a_headWords : Nat → Int64} {v_law : Int32} {a_set : Nat → Int64} {a_rest : Nat → Int64} {v_broken : Int32} {v_value : Int64} {v_sum : Int64} {a_chances : Nat → Int32} {a_votes : Nat → Int64} {a_costs : Nat → Int32} {a_table : Nat → Int64} {a_prices : Nat → Int32} {v_surely : Int64} {a_mostBy : Nat → Int64} {a_leastBy : Nat → Int64} {v_between : Int64} {v_steadyWays : Int32} {v_quashed : Int32} {v_but : Int32} {a_figures : Nat → Int32} {a_all : Nat → Int32} {a_lies : Nat → Int32} {a_since : Nat → Int32} {v_last : Int32} {v_state : Int64} {Fu : Nat} {a_tape : Nat → Int32} {v_taped : Int32} {v_from : Int32} {v_to : Int32} {v_sort : Int32} {v_worth : Int64} {v_fault : Int32} {v_bad : Int32} {v_nCode : Int32} {a_nOp : Nat → Int32} {a_nArg : Nat → Int32} {v_nLeaves : Int32} {x1 : Int32} {x2 : Int32} {x3 : Int32} {R : Int32 × Int32 × Int32 × Int64 × Int32 × Int32 × Int32 × (Nat → Int32) × (Nat → Int32) × Int32} (hf : fX12_leaf Fu a_tape v_taped v_from v_to v_sort v_worth v_fault v_bad v_nCode a_nOp a_nArg v_nLeaves x1 x2 x3 = some R) : e_C G b yX12_leaf cX12_leaf 4 none 3 0 0 [.ref (b + o), .int x1, .int x2, .int x3] (e_ov (kM o) (wM G b o v_thrown v_status a_refusals a_row a_images a_isKept a_tape v_taped v_from v_to v_sort v_worth v_fault v_bad v_nClauses a_nClause v_nCode a_nOp a_nArg v_nLeaves a_pile a_pileAt v_piled v_opened a_words a_headWords v_law a_set a_rest v_broken v_value v_sum a_chances a_votes a_costs a_table a_prices v_surely a_mostBy a_leastBy v_between v_steadyWays v_quashed v_but a_figures a_all a_lies a_since v_last v_state) c0) n (pD none (e_ov (kM o) (wM G b o v_thrown v_status a_refusals a_row a_images a_isKept a_tape v_taped R.1 R.2.1 R.2.2.1 R.2.2.2.1 R.2.2.2.2.1 R.2.2.2.2.2.1 v_nClauses a_nClause R.2.2.2.2.2.2.1 R.2.2.2.2.2.2.2.1 R.2.2.2.2.2.2.2.2.1 R.2.2.2.2.2.2.2.2.2 a_pile a_pileAt v_piled v_opened a_words a_headWords v_law a_set a_rest v_broken v_value v_sum a_chances a_votes a_costs a_table a_prices v_surely a_mostBy a_leastBy v_between v_steadyWays v_quashed v_but a_figures a_all a_lies a_since v_last v_state) c0) n) := e_C.of (by decide) (Nat.le_of_ble_eq_true rfl) (tX12_leaf hw hf)
def fX12_readPart_L85 (Fu : Nat) (a_tape : Nat → Int32) (v_taped : Int32) (v_from : Int32) (v_to : Int32) (v_sort : Int32) (v_worth : Int64) (v_fault : Int32) (v_bad : Int32) (v_nCode : Int32) (a_nOp : Nat → Int32) (a_nArg : Nat → Int32) (v_nLeaves : Int32) (a_pile : Nat → Int32) (a_pileAt : Nat → Int32) (v_piled : Int32) (v_opened : Int32) (a_words : Nat → Int64) (s0 : Int32) (s1 : Int32) (s2 : Int32) : Option (Int32 × Int32 × Int32 × Int32 × Int64 × Int32 × Int32 × Int32 × (Nat → Int32) × (Nat → Int32) × Int32 × (Nat → Int32) × (Nat → Int32) × Int32 × Int32) := (fX12_leaf Fu a_tape v_taped v_from v_to v_sort v_worth v_fault v_bad v_nCode a_nOp a_nArg v_nLeaves s2 s1 s0).bind fun r4 => (some (3, r4.1, r4.2.1, r4.2.2.1, r4.2.2.2.1, r4.2.2.2.2.1, r4.2.2.2.2.2.1, r4.2.2.2.2.2.2.1, r4.2.2.2.2.2.2.2.1, r4.2.2.2.2.2.2.2.2.1, r4.2.2.2.2.2.2.2.2.2, a_pile, a_pileAt, v_piled, v_opened))
set_option maxHeartbeats 4000000 in
set_option maxRecDepth 100000 in
theorem tX12_readPart_L85 {G : GT} {b : Nat} {o : Nat} {c0 : Hp} {n : Nat} (hw : e_wf (kM o) n) {v_thrown : Int32} {v_status : Int32} {a_refusals : Nat → Int32} {a_row : Nat → Int32} {a_images : Nat → Int32} {a_isKept : Nat → Int32} {v_nClauses : Int32} {a_nClause : Nat → Int32} {a_headWords : Nat → Int64} {v_law : Int32} {a_set : Nat → Int64} {a_rest : Nat → Int64} {v_broken : Int32} {v_value : Int64} {v_sum : Int64} {a_chances : Nat → Int32} {a_votes : Nat → Int64} {a_costs : Nat → Int32} {a_table : Nat → Int64} {a_prices : Nat → Int32} {v_surely : Int64} {a_mostBy : Nat → Int64} {a_leastBy : Nat → Int64} {v_between : Int64} {v_steadyWays : Int32} {v_quashed : Int32} {v_but : Int32} {a_figures : Nat → Int32} {a_all : Nat → Int32} {a_lies : Nat → Int32} {a_since : Nat → Int32} {v_last : Int32} {v_state : Int64} {Fu : Nat} {a_tape : Nat → Int32} {v_taped : Int32} {v_from : Int32} {v_to : Int32} {v_sort : Int32} {v_worth : Int64} {v_fault : Int32} {v_bad : Int32} {v_nCode : Int32} {a_nOp : Nat → Int32} {a_nArg : Nat → Int32} {v_nLeaves : Int32} {a_pile : Nat → Int32} {a_pileAt : Nat → Int32} {v_piled : Int32} {v_opened : Int32} {a_words : Nat → Int64} {s0 : Int32} {s1 : Int32} {s2 : Int32} {R : Int32 × Int32 × Int32 × Int32 × Int64 × Int32 × Int32 × Int32 × (Nat → Int32) × (Nat → Int32) × Int32 × (Nat → Int32) × (Nat → Int32) × Int32 × Int32} (hf : fX12_readPart_L85 Fu a_tape v_taped v_from v_to v_sort v_worth v_fault v_bad v_nCode a_nOp a_nArg v_nLeaves a_pile a_pileAt v_piled v_opened a_words s0 s1 s2 = some R) : E G b yX12_readPart cX12_readPart 3 (some .int) (e_rm 4 0 0) e_X0 (e_Z G b (pD (some (.int R.1)) (e_ov (kM o) (wM G b o v_thrown v_status a_refusals a_row a_images a_isKept a_tape v_taped R.2.1 R.2.2.1 R.2.2.2.1 R.2.2.2.2.1 R.2.2.2.2.2.1 R.2.2.2.2.2.2.1 v_nClauses a_nClause R.2.2.2.2.2.2.2.1 R.2.2.2.2.2.2.2.2.1 R.2.2.2.2.2.2.2.2.2.1 R.2.2.2.2.2.2.2.2.2.2.1 R.2.2.2.2.2.2.2.2.2.2.2.1 R.2.2.2.2.2.2.2.2.2.2.2.2.1 R.2.2.2.2.2.2.2.2.2.2.2.2.2.1 R.2.2.2.2.2.2.2.2.2.2.2.2.2.2 a_words a_headWords v_law a_set a_rest v_broken v_value v_sum a_chances a_votes a_costs a_table a_prices v_surely a_mostBy a_leastBy v_between v_steadyWays v_quashed v_but a_figures a_all a_lies a_since v_last v_state) c0) n) 0 0) 85 [] [.int s0, .int s1, .int s2, .ref (b + o)] (e_ov (kM o) (wM G b o v_thrown v_status a_refusals a_row a_images a_isKept a_tape v_taped v_from v_to v_sort v_worth v_fault v_bad v_nClauses a_nClause v_nCode a_nOp a_nArg v_nLeaves a_pile a_pileAt v_piled v_opened a_words a_headWords v_law a_set a_rest v_broken v_value v_sum a_chances a_votes a_costs a_table a_prices v_surely a_mostBy a_leastBy v_between v_steadyWays v_quashed v_but a_figures a_all a_lies a_since v_last v_state) c0) n 0 0 := by
  unfold fX12_readPart_L85 at hf
  obtain ⟨r4, hc4, hf⟩ := e_bind hf
  refine E.callVD [] dX12_readPart_85 mlX12_277 ⟨hw.sub (p := 0) rfl, e_ov_get hw.1 (p := 0) rfl rfl⟩ rfl rfl (mX12_leaf hw hc4) ⟨Nat.le_of_ble_eq_true rfl, Nat.le_of_ble_eq_true rfl⟩ rfl rfl (Nat.le_of_ble_eq_true rfl) ⟨Nat.le_refl _, Nat.le_refl _⟩ rfl ?_
  refine E.iconst (v := 3) dX12_readPart_88 (by decide) ?_
  cases hf
  exact E.iret dX12_readPart_89 (Nat.le_refl _) (Nat.le_refl _) (pD_rf _ _ _)
def fX12_readPart_L72 (Fu : Nat) (a_tape : Nat → Int32) (v_taped : Int32) (v_from : Int32) (v_to : Int32) (v_sort : Int32) (v_worth : Int64) (v_fault : Int32) (v_bad : Int32) (v_nCode : Int32) (a_nOp : Nat → Int32) (a_nArg : Nat → Int32) (v_nLeaves : Int32) (a_pile : Nat → Int32) (a_pileAt : Nat → Int32) (v_piled : Int32) (v_opened : Int32) (a_words : Nat → Int64) (x2 : Int32) (s0 : Int32) (s1 : Int32) : Option (Int32 × Int32 × Int32 × Int32 × Int64 × Int32 × Int32 × Int32 × (Nat → Int32) × (Nat → Int32) × Int32 × (Nat → Int32) × (Nat → Int32) × Int32 × Int32) := if (x2 : Int32) = 0 then (fX12_readPart_L85 Fu a_tape v_taped v_from v_to v_sort v_worth v_fault v_bad v_nCode a_nOp a_nArg v_nLeaves a_pile a_pileAt v_piled v_opened a_words 0 s0 s1) else (fX12_readPart_L85 Fu a_tape v_taped v_from v_to v_sort v_worth v_fault v_bad v_nCode a_nOp a_nArg v_nLeaves a_pile a_pileAt v_piled v_opened a_words ((v_worth : Int64).toInt32) s0 s1)
set_option maxHeartbeats 4000000 in
set_option maxRecDepth 100000 in
theorem tX12_readPart_L72 {G : GT} {b : Nat} {o : Nat} {c0 : Hp} {n : Nat} (hw : e_wf (kM o) n) {v_thrown : Int32} {v_status : Int32} {a_refusals : Nat → Int32} {a_row : Nat → Int32} {a_images : Nat → Int32} {a_isKept : Nat → Int32} {v_nClauses : Int32} {a_nClause : Nat → Int32} {a_headWords : Nat → Int64} {v_law : Int32} {a_set : Nat → Int64} {a_rest : Nat → Int64} {v_broken : Int32} {v_value : Int64} {v_sum : Int64} {a_chances : Nat → Int32} {a_votes : Nat → Int64} {a_costs : Nat → Int32} {a_table : Nat → Int64} {a_prices : Nat → Int32} {v_surely : Int64} {a_mostBy : Nat → Int64} {a_leastBy : Nat → Int64} {v_between : Int64} {v_steadyWays : Int32} {v_quashed : Int32} {v_but : Int32} {a_figures : Nat → Int32} {a_all : Nat → Int32} {a_lies : Nat → Int32} {a_since : Nat → Int32} {v_last : Int32} {v_state : Int64} {Fu : Nat} {a_tape : Nat → Int32} {v_taped : Int32} {v_from : Int32} {v_to : Int32} {v_sort : Int32} {v_worth : Int64} {v_fault : Int32} {v_bad : Int32} {v_nCode : Int32} {a_nOp : Nat → Int32} {a_nArg : Nat → Int32} {v_nLeaves : Int32} {a_pile : Nat → Int32} {a_pileAt : Nat → Int32} {v_piled : Int32} {v_opened : Int32} {a_words : Nat → Int64} {x2 : Int32} {s0 : Int32} {s1 : Int32} {R : Int32 × Int32 × Int32 × Int32 × Int64 × Int32 × Int32 × Int32 × (Nat → Int32) × (Nat → Int32) × Int32 × (Nat → Int32) × (Nat → Int32) × Int32 × Int32} (hf : fX12_readPart_L72 Fu a_tape v_taped v_from v_to v_sort v_worth v_fault v_bad v_nCode a_nOp a_nArg v_nLeaves a_pile a_pileAt v_piled v_opened a_words x2 s0 s1 = some R) : E G b yX12_readPart cX12_readPart 3 (some .int) (e_rm 4 0 0) e_X0 (e_Z G b (pD (some (.int R.1)) (e_ov (kM o) (wM G b o v_thrown v_status a_refusals a_row a_images a_isKept a_tape v_taped R.2.1 R.2.2.1 R.2.2.2.1 R.2.2.2.2.1 R.2.2.2.2.2.1 R.2.2.2.2.2.2.1 v_nClauses a_nClause R.2.2.2.2.2.2.2.1 R.2.2.2.2.2.2.2.2.1 R.2.2.2.2.2.2.2.2.2.1 R.2.2.2.2.2.2.2.2.2.2.1 R.2.2.2.2.2.2.2.2.2.2.2.1 R.2.2.2.2.2.2.2.2.2.2.2.2.1 R.2.2.2.2.2.2.2.2.2.2.2.2.2.1 R.2.2.2.2.2.2.2.2.2.2.2.2.2.2 a_words a_headWords v_law a_set a_rest v_broken v_value v_sum a_chances a_votes a_costs a_table a_prices v_surely a_mostBy a_leastBy v_between v_steadyWays v_quashed v_but a_figures a_all a_lies a_since v_last v_state) c0) n) 0 0) 72 [(0, .ref (b + o)), (2, .int x2)] [.int s0, .int s1, .ref (b + o)] (e_ov (kM o) (wM G b o v_thrown v_status a_refusals a_row a_images a_isKept a_tape v_taped v_from v_to v_sort v_worth v_fault v_bad v_nClauses a_nClause v_nCode a_nOp a_nArg v_nLeaves a_pile a_pileAt v_piled v_opened a_words a_headWords v_law a_set a_rest v_broken v_value v_sum a_chances a_votes a_costs a_table a_prices v_surely a_mostBy a_leastBy v_between v_steadyWays v_quashed v_but a_figures a_all a_lies a_since v_last v_state) c0) n 0 0 := by
  unfold fX12_readPart_L72 at hf
  refine E.iload_n 1 dX12_readPart_72 rfl ?_
  refine E.if_eq dX12_readPart_73 (fun h => ?_) (fun h => ?_)
  · have hf := e_ift hf h
    refine E.iconst (v := 0) dX12_readPart_84 (by decide) ?_
    refine E.locals [] rfl ?_
    exact tX12_readPart_L85 hw hf
  · have hf := e_iff hf h
    refine E.aload_n 0 dX12_readPart_76 rfl ?_
    refine E.get hw 0 o dX12_readPart_77 flX12_204 rfl rfl rfl rfl ?_
    refine E.l2i dX12_readPart_80 ?_
    refine E.goto dX12_readPart_81 ?_
    refine E.locals [] rfl ?_
    exact tX12_readPart_L85 hw hf
def fX12_readPart_L62 (Fu : Nat) (a_tape : Nat → Int32) (v_taped : Int32) (v_from : Int32) (v_to : Int32) (v_sort : Int32) (v_worth : Int64) (v_fault : Int32) (v_bad : Int32) (v_nCode : Int32) (a_nOp : Nat → Int32) (a_nArg : Nat → Int32) (v_nLeaves : Int32) (a_pile : Nat → Int32) (a_pileAt : Nat → Int32) (v_piled : Int32) (v_opened : Int32) (a_words : Nat → Int64) (x1 : Int32) (x2 : Int32) (s0 : Int32) : Option (Int32 × Int32 × Int32 × Int32 × Int64 × Int32 × Int32 × Int32 × (Nat → Int32) × (Nat → Int32) × Int32 × (Nat → Int32) × (Nat → Int32) × Int32 × Int32) := if (x1 : Int32) = ((-1 : Int32) : Int32) then (fX12_readPart_L72 Fu a_tape v_taped v_from v_to v_sort v_worth v_fault v_bad v_nCode a_nOp a_nArg v_nLeaves a_pile a_pileAt v_piled v_opened a_words x2 0 s0) else (fX12_readPart_L72 Fu a_tape v_taped v_from v_to v_sort v_worth v_fault v_bad v_nCode a_nOp a_nArg v_nLeaves a_pile a_pileAt v_piled v_opened a_words x2 x1 s0)
set_option maxHeartbeats 4000000 in
set_option maxRecDepth 100000 in
theorem tX12_readPart_L62 {G : GT} {b : Nat} {o : Nat} {c0 : Hp} {n : Nat} (hw : e_wf (kM o) n) {v_thrown : Int32} {v_status : Int32} {a_refusals : Nat → Int32} {a_row : Nat → Int32} {a_images : Nat → Int32} {a_isKept : Nat → Int32} {v_nClauses : Int32} {a_nClause : Nat → Int32} {a_headWords : Nat → Int64} {v_law : Int32} {a_set : Nat → Int64} {a_rest : Nat → Int64} {v_broken : Int32} {v_value : Int64} {v_sum : Int64} {a_chances : Nat → Int32} {a_votes : Nat → Int64} {a_costs : Nat → Int32} {a_table : Nat → Int64} {a_prices : Nat → Int32} {v_surely : Int64} {a_mostBy : Nat → Int64} {a_leastBy : Nat → Int64} {v_between : Int64} {v_steadyWays : Int32} {v_quashed : Int32} {v_but : Int32} {a_figures : Nat → Int32} {a_all : Nat → Int32} {a_lies : Nat → Int32} {a_since : Nat → Int32} {v_last : Int32} {v_state : Int64} {Fu : Nat} {a_tape : Nat → Int32} {v_taped : Int32} {v_from : Int32} {v_to : Int32} {v_sort : Int32} {v_worth : Int64} {v_fault : Int32} {v_bad : Int32} {v_nCode : Int32} {a_nOp : Nat → Int32} {a_nArg : Nat → Int32} {v_nLeaves : Int32} {a_pile : Nat → Int32} {a_pileAt : Nat → Int32} {v_piled : Int32} {v_opened : Int32} {a_words : Nat → Int64} {x1 : Int32} {x2 : Int32} {s0 : Int32} {R : Int32 × Int32 × Int32 × Int32 × Int64 × Int32 × Int32 × Int32 × (Nat → Int32) × (Nat → Int32) × Int32 × (Nat → Int32) × (Nat → Int32) × Int32 × Int32} (hf : fX12_readPart_L62 Fu a_tape v_taped v_from v_to v_sort v_worth v_fault v_bad v_nCode a_nOp a_nArg v_nLeaves a_pile a_pileAt v_piled v_opened a_words x1 x2 s0 = some R) : E G b yX12_readPart cX12_readPart 3 (some .int) (e_rm 4 0 0) e_X0 (e_Z G b (pD (some (.int R.1)) (e_ov (kM o) (wM G b o v_thrown v_status a_refusals a_row a_images a_isKept a_tape v_taped R.2.1 R.2.2.1 R.2.2.2.1 R.2.2.2.2.1 R.2.2.2.2.2.1 R.2.2.2.2.2.2.1 v_nClauses a_nClause R.2.2.2.2.2.2.2.1 R.2.2.2.2.2.2.2.2.1 R.2.2.2.2.2.2.2.2.2.1 R.2.2.2.2.2.2.2.2.2.2.1 R.2.2.2.2.2.2.2.2.2.2.2.1 R.2.2.2.2.2.2.2.2.2.2.2.2.1 R.2.2.2.2.2.2.2.2.2.2.2.2.2.1 R.2.2.2.2.2.2.2.2.2.2.2.2.2.2 a_words a_headWords v_law a_set a_rest v_broken v_value v_sum a_chances a_votes a_costs a_table a_prices v_surely a_mostBy a_leastBy v_between v_steadyWays v_quashed v_but a_figures a_all a_lies a_since v_last v_state) c0) n) 0 0) 62 [(0, .ref (b + o)), (1, .int x1), (2, .int x2)] [.int s0, .ref (b + o)] (e_ov (kM o) (wM G b o v_thrown v_status a_refusals a_row a_images a_isKept a_tape v_taped v_from v_to v_sort v_worth v_fault v_bad v_nClauses a_nClause v_nCode a_nOp a_nArg v_nLeaves a_pile a_pileAt v_piled v_opened a_words a_headWords v_law a_set a_rest v_broken v_value v_sum a_chances a_votes a_costs a_table a_prices v_surely a_mostBy a_leastBy v_between v_steadyWays v_quashed v_but a_figures a_all a_lies a_since v_last v_state) c0) n 0 0 := by
  unfold fX12_readPart_L62 at hf
  refine E.iload_n 1 dX12_readPart_62 rfl ?_
  refine E.iconst (v := -1) dX12_readPart_63 (by decide) ?_
  refine E.icmp_ne dX12_readPart_64 (fun h => ?_) (fun h => ?_)
  · have hf := e_iff hf h
    refine E.iload_n 1 dX12_readPart_71 rfl ?_
    refine E.locals [0, 2] rfl ?_
    exact tX12_readPart_L72 hw hf
  · have hf := e_ift hf h
    refine E.iconst (v := 0) dX12_readPart_67 (by decide) ?_
    refine E.goto dX12_readPart_68 ?_
    refine E.locals [0, 2] rfl ?_
    exact tX12_readPart_L72 hw hf
def fX12_readPart_L46 (Fu : Nat) (a_tape : Nat → Int32) (v_taped : Int32) (v_from : Int32) (v_to : Int32) (v_sort : Int32) (v_worth : Int64) (v_fault : Int32) (v_bad : Int32) (v_nCode : Int32) (a_nOp : Nat → Int32) (a_nArg : Nat → Int32) (v_nLeaves : Int32) (a_pile : Nat → Int32) (a_pileAt : Nat → Int32) (v_piled : Int32) (v_opened : Int32) (a_words : Nat → Int64) (x1 : Int32) (s0 : Int32) : Option (Int32 × Int32 × Int32 × Int32 × Int64 × Int32 × Int32 × Int32 × (Nat → Int32) × (Nat → Int32) × Int32 × (Nat → Int32) × (Nat → Int32) × Int32 × Int32) := if (x1 : Int32) = ((-1 : Int32) : Int32) then (if (s0 : Int32) = 0 then (fX12_readPart_L62 Fu a_tape v_taped v_from v_to v_sort v_worth v_fault v_bad v_nCode a_nOp a_nArg v_nLeaves a_pile a_pileAt v_piled v_opened a_words x1 s0 0) else (fX12_readPart_L62 Fu a_tape v_taped v_from v_to v_sort v_worth v_fault v_bad v_nCode a_nOp a_nArg v_nLeaves a_pile a_pileAt v_piled v_opened a_words x1 s0 1)) else (fX12_readPart_L62 Fu a_tape v_taped v_from v_to v_sort v_worth v_fault v_bad v_nCode a_nOp a_nArg v_nLeaves a_pile a_pileAt v_piled v_opened a_words x1 s0 1)
set_option maxHeartbeats 4000000 in
set_option maxRecDepth 100000 in
theorem tX12_readPart_L46 {G : GT} {b : Nat} {o : Nat} {c0 : Hp} {n : Nat} (hw : e_wf (kM o) n) {v_thrown : Int32} {v_status : Int32} {a_refusals : Nat → Int32} {a_row : Nat → Int32} {a_images : Nat → Int32} {a_isKept : Nat → Int32} {v_nClauses : Int32} {a_nClause : Nat → Int32} {a_headWords : Nat → Int64} {v_law : Int32} {a_set : Nat → Int64} {a_rest : Nat → Int64} {v_broken : Int32} {v_value : Int64} {v_sum : Int64} {a_chances : Nat → Int32} {a_votes : Nat → Int64} {a_costs : Nat → Int32} {a_table : Nat → Int64} {a_prices : Nat → Int32} {v_surely : Int64} {a_mostBy : Nat → Int64} {a_leastBy : Nat → Int64} {v_between : Int64} {v_steadyWays : Int32} {v_quashed : Int32} {v_but : Int32} {a_figures : Nat → Int32} {a_all : Nat → Int32} {a_lies : Nat → Int32} {a_since : Nat → Int32} {v_last : Int32} {v_state : Int64} {Fu : Nat} {a_tape : Nat → Int32} {v_taped : Int32} {v_from : Int32} {v_to : Int32} {v_sort : Int32} {v_worth : Int64} {v_fault : Int32} {v_bad : Int32} {v_nCode : Int32} {a_nOp : Nat → Int32} {a_nArg : Nat → Int32} {v_nLeaves : Int32} {a_pile : Nat → Int32} {a_pileAt : Nat → Int32} {v_piled : Int32} {v_opened : Int32} {a_words : Nat → Int64} {x1 : Int32} {s0 : Int32} {R : Int32 × Int32 × Int32 × Int32 × Int64 × Int32 × Int32 × Int32 × (Nat → Int32) × (Nat → Int32) × Int32 × (Nat → Int32) × (Nat → Int32) × Int32 × Int32} (hf : fX12_readPart_L46 Fu a_tape v_taped v_from v_to v_sort v_worth v_fault v_bad v_nCode a_nOp a_nArg v_nLeaves a_pile a_pileAt v_piled v_opened a_words x1 s0 = some R) : E G b yX12_readPart cX12_readPart 3 (some .int) (e_rm 4 0 0) e_X0 (e_Z G b (pD (some (.int R.1)) (e_ov (kM o) (wM G b o v_thrown v_status a_refusals a_row a_images a_isKept a_tape v_taped R.2.1 R.2.2.1 R.2.2.2.1 R.2.2.2.2.1 R.2.2.2.2.2.1 R.2.2.2.2.2.2.1 v_nClauses a_nClause R.2.2.2.2.2.2.2.1 R.2.2.2.2.2.2.2.2.1 R.2.2.2.2.2.2.2.2.2.1 R.2.2.2.2.2.2.2.2.2.2.1 R.2.2.2.2.2.2.2.2.2.2.2.1 R.2.2.2.2.2.2.2.2.2.2.2.2.1 R.2.2.2.2.2.2.2.2.2.2.2.2.2.1 R.2.2.2.2.2.2.2.2.2.2.2.2.2.2 a_words a_headWords v_law a_set a_rest v_broken v_value v_sum a_chances a_votes a_costs a_table a_prices v_surely a_mostBy a_leastBy v_between v_steadyWays v_quashed v_but a_figures a_all a_lies a_since v_last v_state) c0) n) 0 0) 46 [(0, .ref (b + o)), (1, .int x1)] [.int s0] (e_ov (kM o) (wM G b o v_thrown v_status a_refusals a_row a_images a_isKept a_tape v_taped v_from v_to v_sort v_worth v_fault v_bad v_nClauses a_nClause v_nCode a_nOp a_nArg v_nLeaves a_pile a_pileAt v_piled v_opened a_words a_headWords v_law a_set a_rest v_broken v_value v_sum a_chances a_votes a_costs a_table a_prices v_surely a_mostBy a_leastBy v_between v_steadyWays v_quashed v_but a_figures a_all a_lies a_since v_last v_state) c0) n 0 0 := by
  unfold fX12_readPart_L46 at hf
  refine E.istore_n (lv' := [(2, .int s0), (0, .ref (b + o)), (1, .int x1)]) dX12_readPart_46 (by decide) rfl ?_
  refine E.aload_n 1 dX12_readPart_47 rfl ?_
  refine E.iload_n 2 dX12_readPart_48 rfl ?_
  refine E.iconst (v := -1) dX12_readPart_49 (by decide) ?_
  refine E.icmp_ne dX12_readPart_50 (fun h => ?_) (fun h => ?_)
  · have hf := e_iff hf h
    refine E.iconst (v := 1) dX12_readPart_57 (by decide) ?_
    refine E.goto dX12_readPart_58 ?_
    refine E.locals [1, 2, 0] rfl ?_
    exact tX12_readPart_L62 hw hf
  · have hf := e_ift hf h
    refine E.iload_n 0 dX12_readPart_53 rfl ?_
    refine E.if_eq dX12_readPart_54 (fun h => ?_) (fun h => ?_)
    · have hf := e_ift hf h
      refine E.iconst (v := 0) dX12_readPart_61 (by decide) ?_
      refine E.locals [1, 2, 0] rfl ?_
      exact tX12_readPart_L62 hw hf
    · have hf := e_iff hf h
      refine E.iconst (v := 1) dX12_readPart_57 (by decide) ?_
      refine E.goto dX12_readPart_58 ?_
      refine E.locals [1, 2, 0] rfl ?_
      exact tX12_readPart_L62 hw hf
def fX12_readPart_L45 (Fu : Nat) (a_tape : Nat → Int32) (v_taped : Int32) (v_from : Int32) (v_to : Int32) (v_sort : Int32) (v_worth : Int64) (v_fault : Int32) (v_bad : Int32) (v_nCode : Int32) (a_nOp : Nat → Int32) (a_nArg : Nat → Int32) (v_nLeaves : Int32) (a_pile : Nat → Int32) (a_pileAt : Nat → Int32) (v_piled : Int32) (v_opened : Int32) (a_words : Nat → Int64) (x1 : Int32) : Option (Int32 × Int32 × Int32 × Int32 × Int64 × Int32 × Int32 × Int32 × (Nat → Int32) × (Nat → Int32) × Int32 × (Nat → Int32) × (Nat → Int32) × Int32 × Int32) := fX12_readPart_L46 Fu a_tape v_taped v_from v_to v_sort v_worth v_fault v_bad v_nCode a_nOp a_nArg v_nLeaves a_pile a_pileAt v_piled v_opened a_words x1 0
set_option maxHeartbeats 4000000 in
set_option maxRecDepth 100000 in
theorem tX12_readPart_L45 {G : GT} {b : Nat} {o : Nat} {c0 : Hp} {n : Nat} (hw : e_wf (kM o) n) {v_thrown : Int32} {v_status : Int32} {a_refusals : Nat → Int32} {a_row : Nat → Int32} {a_images : Nat → Int32} {a_isKept : Nat → Int32} {v_nClauses : Int32} {a_nClause : Nat → Int32} {a_headWords : Nat → Int64} {v_law : Int32} {a_set : Nat → Int64} {a_rest : Nat → Int64} {v_broken : Int32} {v_value : Int64} {v_sum : Int64} {a_chances : Nat → Int32} {a_votes : Nat → Int64} {a_costs : Nat → Int32} {a_table : Nat → Int64} {a_prices : Nat → Int32} {v_surely : Int64} {a_mostBy : Nat → Int64} {a_leastBy : Nat → Int64} {v_between : Int64} {v_steadyWays : Int32} {v_quashed : Int32} {v_but : Int32} {a_figures : Nat → Int32} {a_all : Nat → Int32} {a_lies : Nat → Int32} {a_since : Nat → Int32} {v_last : Int32} {v_state : Int64} {Fu : Nat} {a_tape : Nat → Int32} {v_taped : Int32} {v_from : Int32} {v_to : Int32} {v_sort : Int32} {v_worth : Int64} {v_fault : Int32} {v_bad : Int32} {v_nCode : Int32} {a_nOp : Nat → Int32} {a_nArg : Nat → Int32} {v_nLeaves : Int32} {a_pile : Nat → Int32} {a_pileAt : Nat → Int32} {v_piled : Int32} {v_opened : Int32} {a_words : Nat → Int64} {x1 : Int32} {R : Int32 × Int32 × Int32 × Int32 × Int64 × Int32 × Int32 × Int32 × (Nat → Int32) × (Nat → Int32) × Int32 × (Nat → Int32) × (Nat → Int32) × Int32 × Int32} (hf : fX12_readPart_L45 Fu a_tape v_taped v_from v_to v_sort v_worth v_fault v_bad v_nCode a_nOp a_nArg v_nLeaves a_pile a_pileAt v_piled v_opened a_words x1 = some R) : E G b yX12_readPart cX12_readPart 3 (some .int) (e_rm 4 0 0) e_X0 (e_Z G b (pD (some (.int R.1)) (e_ov (kM o) (wM G b o v_thrown v_status a_refusals a_row a_images a_isKept a_tape v_taped R.2.1 R.2.2.1 R.2.2.2.1 R.2.2.2.2.1 R.2.2.2.2.2.1 R.2.2.2.2.2.2.1 v_nClauses a_nClause R.2.2.2.2.2.2.2.1 R.2.2.2.2.2.2.2.2.1 R.2.2.2.2.2.2.2.2.2.1 R.2.2.2.2.2.2.2.2.2.2.1 R.2.2.2.2.2.2.2.2.2.2.2.1 R.2.2.2.2.2.2.2.2.2.2.2.2.1 R.2.2.2.2.2.2.2.2.2.2.2.2.2.1 R.2.2.2.2.2.2.2.2.2.2.2.2.2.2 a_words a_headWords v_law a_set a_rest v_broken v_value v_sum a_chances a_votes a_costs a_table a_prices v_surely a_mostBy a_leastBy v_between v_steadyWays v_quashed v_but a_figures a_all a_lies a_since v_last v_state) c0) n) 0 0) 45 [(0, .ref (b + o)), (1, .int x1)] [] (e_ov (kM o) (wM G b o v_thrown v_status a_refusals a_row a_images a_isKept a_tape v_taped v_from v_to v_sort v_worth v_fault v_bad v_nClauses a_nClause v_nCode a_nOp a_nArg v_nLeaves a_pile a_pileAt v_piled v_opened a_words a_headWords v_law a_set a_rest v_broken v_value v_sum a_chances a_votes a_costs a_table a_prices v_surely a_mostBy a_leastBy v_between v_steadyWays v_quashed v_but a_figures a_all a_lies a_since v_last v_state) c0) n 0 0 := by
  unfold fX12_readPart_L45 at hf
  refine E.iconst (v := 0) dX12_readPart_45 (by decide) ?_
  exact tX12_readPart_L46 hw hf
def fX12_readPart (Fu : Nat) (a_tape : Nat → Int32) (v_taped : Int32) (v_from : Int32) (v_to : Int32) (v_sort : Int32) (v_worth : Int64) (v_fault : Int32) (v_bad : Int32) (v_nCode : Int32) (a_nOp : Nat → Int32) (a_nArg : Nat → Int32) (v_nLeaves : Int32) (a_pile : Nat → Int32) (a_pileAt : Nat → Int32) (v_piled : Int32) (v_opened : Int32) (a_words : Nat → Int64) : Option (Int32 × Int32 × Int32 × Int32 × Int64 × Int32 × Int32 × Int32 × (Nat → Int32) × (Nat → Int32) × Int32 × (Nat → Int32) × (Nat → Int32) × Int32 × Int32) := (fX12_isSign v_sort v_worth 91).bind fun r1 => (if (r1 : Int32) = 0 then ((fX12_partAt Fu v_sort v_worth a_words).bind fun r2 => (if (v_sort : Int32) = (2 : Int32) then (if 1000 < v_worth then (fX12_readPart_L45 Fu a_tape v_taped v_from v_to v_sort v_worth v_fault v_bad v_nCode a_nOp a_nArg v_nLeaves a_pile a_pileAt v_piled v_opened a_words r2) else (fX12_readPart_L46 Fu a_tape v_taped v_from v_to v_sort v_worth v_fault v_bad v_nCode a_nOp a_nArg v_nLeaves a_pile a_pileAt v_piled v_opened a_words r2 1)) else (fX12_readPart_L45 Fu a_tape v_taped v_from v_to v_sort v_worth v_fault v_bad v_nCode a_nOp a_nArg v_nLeaves a_pile a_pileAt v_piled v_opened a_words r2))) else ((fX12_openBracket Fu a_tape v_taped v_from v_to v_sort v_worth v_fault v_bad a_pile a_pileAt v_piled v_opened 31).bind fun r3 => (some (1, r3.1, r3.2.1, r3.2.2.1, r3.2.2.2.1, r3.2.2.2.2.1, r3.2.2.2.2.2.1, v_nCode, a_nOp, a_nArg, v_nLeaves, r3.2.2.2.2.2.2.1, r3.2.2.2.2.2.2.2.1, r3.2.2.2.2.2.2.2.2.1, r3.2.2.2.2.2.2.2.2.2))))
set_option maxHeartbeats 4000000 in
set_option maxRecDepth 100000 in
theorem tX12_readPart {G : GT} {b : Nat} {o : Nat} {c0 : Hp} {n : Nat} (hw : e_wf (kM o) n) {v_thrown : Int32} {v_status : Int32} {a_refusals : Nat → Int32} {a_row : Nat → Int32} {a_images : Nat → Int32} {a_isKept : Nat → Int32} {v_nClauses : Int32} {a_nClause : Nat → Int32} {a_headWords : Nat → Int64} {v_law : Int32} {a_set : Nat → Int64} {a_rest : Nat → Int64} {v_broken : Int32} {v_value : Int64} {v_sum : Int64} {a_chances : Nat → Int32} {a_votes : Nat → Int64} {a_costs : Nat → Int32} {a_table : Nat → Int64} {a_prices : Nat → Int32} {v_surely : Int64} {a_mostBy : Nat → Int64} {a_leastBy : Nat → Int64} {v_between : Int64} {v_steadyWays : Int32} {v_quashed : Int32} {v_but : Int32} {a_figures : Nat → Int32} {a_all : Nat → Int32} {a_lies : Nat → Int32} {a_since : Nat → Int32} {v_last : Int32} {v_state : Int64} {Fu : Nat} {a_tape : Nat → Int32} {v_taped : Int32} {v_from : Int32} {v_to : Int32} {v_sort : Int32} {v_worth : Int64} {v_fault : Int32} {v_bad : Int32} {v_nCode : Int32} {a_nOp : Nat → Int32} {a_nArg : Nat → Int32} {v_nLeaves : Int32} {a_pile : Nat → Int32} {a_pileAt : Nat → Int32} {v_piled : Int32} {v_opened : Int32} {a_words : Nat → Int64} {R : Int32 × Int32 × Int32 × Int32 × Int64 × Int32 × Int32 × Int32 × (Nat → Int32) × (Nat → Int32) × Int32 × (Nat → Int32) × (Nat → Int32) × Int32 × Int32} (hf : fX12_readPart Fu a_tape v_taped v_from v_to v_sort v_worth v_fault v_bad v_nCode a_nOp a_nArg v_nLeaves a_pile a_pileAt v_piled v_opened a_words = some R) : E G b yX12_readPart cX12_readPart 3 (some .int) (e_rm 4 0 0) e_X0 (e_Z G b (pD (some (.int R.1)) (e_ov (kM o) (wM G b o v_thrown v_status a_refusals a_row a_images a_isKept a_tape v_taped R.2.1 R.2.2.1 R.2.2.2.1 R.2.2.2.2.1 R.2.2.2.2.2.1 R.2.2.2.2.2.2.1 v_nClauses a_nClause R.2.2.2.2.2.2.2.1 R.2.2.2.2.2.2.2.2.1 R.2.2.2.2.2.2.2.2.2.1 R.2.2.2.2.2.2.2.2.2.2.1 R.2.2.2.2.2.2.2.2.2.2.2.1 R.2.2.2.2.2.2.2.2.2.2.2.2.1 R.2.2.2.2.2.2.2.2.2.2.2.2.2.1 R.2.2.2.2.2.2.2.2.2.2.2.2.2.2 a_words a_headWords v_law a_set a_rest v_broken v_value v_sum a_chances a_votes a_costs a_table a_prices v_surely a_mostBy a_leastBy v_between v_steadyWays v_quashed v_but a_figures a_all a_lies a_since v_last v_state) c0) n) 0 0) 0 [(0, .ref (b + o))] [] (e_ov (kM o) (wM G b o v_thrown v_status a_refusals a_row a_images a_isKept a_tape v_taped v_from v_to v_sort v_worth v_fault v_bad v_nClauses a_nClause v_nCode a_nOp a_nArg v_nLeaves a_pile a_pileAt v_piled v_opened a_words a_headWords v_law a_set a_rest v_broken v_value v_sum a_chances a_votes a_costs a_table a_prices v_surely a_mostBy a_leastBy v_between v_steadyWays v_quashed v_but a_figures a_all a_lies a_since v_last v_state) c0) n 0 0 := by
  unfold fX12_readPart at hf
  refine E.aload_n 0 dX12_readPart_0 rfl ?_
  refine E.bipush (v := 91) dX12_readPart_1 (by decide) ?_
  obtain ⟨r1, hc1, hf⟩ := e_bind hf
  refine E.callVD [] dX12_readPart_3 mlX12_265 ⟨hw.sub (p := 0) rfl, e_ov_get hw.1 (p := 0) rfl rfl⟩ rfl rfl (mX12_isSign hw hc1) ⟨Nat.le_of_ble_eq_true rfl, Nat.le_of_ble_eq_true rfl⟩ rfl rfl (Nat.le_of_ble_eq_true rfl) ⟨Nat.le_refl _, Nat.le_refl _⟩ rfl ?_
  refine E.if_eq dX12_readPart_6 (fun h => ?_) (fun h => ?_)
  · have hf := e_ift hf h
    refine E.aload_n 0 dX12_readPart_17 rfl ?_
    obtain ⟨r2, hc2, hf⟩ := e_bind hf
    refine E.callVD [] dX12_readPart_18 mlX12_271 ⟨hw.sub (p := 0) rfl, e_ov_get hw.1 (p := 0) rfl rfl⟩ rfl rfl (mX12_partAt hw hc2) ⟨Nat.le_of_ble_eq_true rfl, Nat.le_of_ble_eq_true rfl⟩ rfl rfl (Nat.le_of_ble_eq_true rfl) ⟨Nat.le_refl _, Nat.le_refl _⟩ rfl ?_
    refine E.istore_n (lv' := [(1, .int r2), (0, .ref (b + o))]) dX12_readPart_21 (by decide) rfl ?_
    refine E.aload_n 1 dX12_readPart_22 rfl ?_
    refine E.get hw 0 o dX12_readPart_23 flX12_214 rfl rfl rfl rfl ?_
    refine E.iconst (v := 2) dX12_readPart_26 (by decide) ?_
    refine E.icmp_ne dX12_readPart_27 (fun h => ?_) (fun h => ?_)
    · have hf := e_iff hf h
      refine E.locals [1, 0] rfl ?_
      exact tX12_readPart_L45 hw hf
    · have hf := e_ift hf h
      refine E.aload_n 1 dX12_readPart_30 rfl ?_
      refine E.get hw 0 o dX12_readPart_31 flX12_204 rfl rfl rfl rfl ?_
      refine E.ldc2 dX12_readPart_34 kX12_275 ?_
      refine E.lc_gt dX12_readPart_37 dX12_readPart_38 (fun h => ?_) (fun h => ?_)
      · have hf := e_ift hf h
        refine E.locals [1, 0] rfl ?_
        exact tX12_readPart_L45 hw hf
      · have hf := e_iff hf h
        refine E.iconst (v := 1) dX12_readPart_41 (by decide) ?_
        refine E.goto dX12_readPart_42 ?_
        refine E.locals [1, 0] rfl ?_
        exact tX12_readPart_L46 hw hf
  · have hf := e_iff hf h
    refine E.aload_n 0 dX12_readPart_9 rfl ?_
    refine E.bipush (v := 31) dX12_readPart_10 (by decide) ?_
    obtain ⟨r3, hc3, hf⟩ := e_bind hf
    refine E.callVD [] dX12_readPart_12 mlX12_268 ⟨hw.sub (p := 0) rfl, e_ov_get hw.1 (p := 0) rfl rfl⟩ rfl rfl (mX12_openBracket hw hc3) ⟨Nat.le_of_ble_eq_true rfl, Nat.le_of_ble_eq_true rfl⟩ rfl rfl (Nat.le_of_ble_eq_true rfl) ⟨Nat.le_refl _, Nat.le_refl _⟩ rfl ?_
    refine E.iconst (v := 1) dX12_readPart_15 (by decide) ?_
    cases hf
    exact E.iret dX12_readPart_16 (Nat.le_refl _) (Nat.le_refl _) (pD_rf _ _ _)
set_option maxRecDepth 100000 in
theorem mX12_readPart {G : GT} {b : Nat} {o : Nat} {c0 : Hp} {n : Nat} (hw : e_wf (kM o) n) {v_thrown : Int32} {v_status : Int32} {a_refusals : Nat → Int32} {a_row : Nat → Int32} {a_images : Nat → Int32} {a_isKept : Nat → Int32} {v_nClauses : Int32} {a_nClause : Nat → Int32} {a_headWords : Nat → Int64} {v_law : Int32} {a_set : Nat → Int64} {a_rest : Nat → Int64} {v_broken : Int32} {v_value : Int64} {v_sum : Int64} {a_chances : Nat → Int32} {a_votes : Nat → Int64} {a_costs : Nat → Int32} {a_table : Nat → Int64} {a_prices : Nat → Int32} {v_surely : Int64} {a_mostBy : Nat → Int64} {a_leastBy : Nat → Int64} {v_between : Int64} {v_steadyWays : Int32} {v_quashed : Int32} {v_but : Int32} {a_figures : Nat → Int32} {a_all : Nat → Int32} {a_lies : Nat → Int32} {a_since : Nat → Int32} {v_last : Int32} {v_state : Int64} {Fu : Nat} {a_tape : Nat → Int32} {v_taped : Int32} {v_from : Int32} {v_to : Int32} {v_sort : Int32} {v_worth : Int64} {v_fault : Int32} {v_bad : Int32} {v_nCode : Int32} {a_nOp : Nat → Int32} {a_nArg : Nat → Int32} {v_nLeaves : Int32} {a_pile : Nat → Int32} {a_pileAt : Nat → Int32} {v_piled : Int32} {v_opened : Int32} {a_words : Nat → Int64} {R : Int32 × Int32 × Int32 × Int32 × Int64 × Int32 × Int32 × Int32 × (Nat → Int32) × (Nat → Int32) × Int32 × (Nat → Int32) × (Nat → Int32) × Int32 × Int32} (hf : fX12_readPart Fu a_tape v_taped v_from v_to v_sort v_worth v_fault v_bad v_nCode a_nOp a_nArg v_nLeaves a_pile a_pileAt v_piled v_opened a_words = some R) : e_C G b yX12_readPart cX12_readPart 3 (some .int) 4 0 0 [.ref (b + o)] (e_ov (kM o) (wM G b o v_thrown v_status a_refusals a_row a_images a_isKept a_tape v_taped v_from v_to v_sort v_worth v_fault v_bad v_nClauses a_nClause v_nCode a_nOp a_nArg v_nLeaves a_pile a_pileAt v_piled v_opened a_words a_headWords v_law a_set a_rest v_broken v_value v_sum a_chances a_votes a_costs a_table a_prices v_surely a_mostBy a_leastBy v_between v_steadyWays v_quashed v_but a_figures a_all a_lies a_since v_last v_state) c0) n (pD (some (.int R.1)) (e_ov (kM o) (wM G b o v_thrown v_status a_refusals a_row a_images a_isKept a_tape v_taped R.2.1 R.2.2.1 R.2.2.2.1 R.2.2.2.2.1 R.2.2.2.2.2.1 R.2.2.2.2.2.2.1 v_nClauses a_nClause R.2.2.2.2.2.2.2.1 R.2.2.2.2.2.2.2.2.1 R.2.2.2.2.2.2.2.2.2.1 R.2.2.2.2.2.2.2.2.2.2.1 R.2.2.2.2.2.2.2.2.2.2.2.1 R.2.2.2.2.2.2.2.2.2.2.2.2.1 R.2.2.2.2.2.2.2.2.2.2.2.2.2.1 R.2.2.2.2.2.2.2.2.2.2.2.2.2.2 a_words a_headWords v_law a_set a_rest v_broken v_value v_sum a_chances a_votes a_costs a_table a_prices v_surely a_mostBy a_leastBy v_between v_steadyWays v_quashed v_but a_figures a_all a_lies a_since v_last v_state) c0) n) := e_C.of (by decide) (Nat.le_of_ble_eq_true rfl) (tX12_readPart hw hf)
def fX12_readPlain (Fu : Nat) (a_tape : Nat → Int32) (v_taped : Int32) (v_from : Int32) (v_to : Int32) (v_sort : Int32) (v_worth : Int64) (v_fault : Int32) (v_bad : Int32) (v_nCode : Int32) (a_nOp : Nat → Int32) (a_nArg : Nat → Int32) (v_nLeaves : Int32) (a_pile : Nat → Int32) (a_pileAt : Nat → Int32) (v_piled : Int32) (v_opened : Int32) (a_words : Nat → Int64) : Option (Int32 × Int32 × Int32 × Int32 × Int64 × Int32 × Int32 × Int32 × (Nat → Int32) × (Nat → Int32) × Int32 × (Nat → Int32) × (Nat → Int32) × Int32 × Int32) := (fX12_isWord v_sort v_worth 14836).bind fun r1 => (if (r1 : Int32) = 0 then ((fX12_isSign v_sort v_worth 40).bind fun r2 => (if (r2 : Int32) = 0 then ((fX12_readPart Fu a_tape v_taped v_from v_to v_sort v_worth v_fault v_bad v_nCode a_nOp a_nArg v_nLeaves a_pile a_pileAt v_piled v_opened a_words).bind fun r3 => (some (r3.1, r3.2.1, r3.2.2.1, r3.2.2.2.1, r3.2.2.2.2.1, r3.2.2.2.2.2.1, r3.2.2.2.2.2.2.1, r3.2.2.2.2.2.2.2.1, r3.2.2.2.2.2.2.2.2.1, r3.2.2.2.2.2.2.2.2.2.1, r3.2.2.2.2.2.2.2.2.2.2.1, r3.2.2.2.2.2.2.2.2.2.2.2.1, r3.2.2.2.2.2.2.2.2.2.2.2.2.1, r3.2.2.2.2.2.2.2.2.2.2.2.2.2.1, r3.2.2.2.2.2.2.2.2.2.2.2.2.2.2))) else ((fX12_openBracket Fu a_tape v_taped v_from v_to v_sort v_worth v_fault v_bad a_pile a_pileAt v_piled v_opened 30).bind fun r4 => (some (0, r4.1, r4.2.1, r4.2.2.1, r4.2.2.2.1, r4.2.2.2.2.1, r4.2.2.2.2.2.1, v_nCode, a_nOp, a_nArg, v_nLeaves, r4.2.2.2.2.2.2.1, r4.2.2.2.2.2.2.2.1, r4.2.2.2.2.2.2.2.2.1, r4.2.2.2.2.2.2.2.2.2))))) else ((fX12_push a_pile a_pileAt v_piled 27 0).bind fun r5 => ((fX12_next Fu a_tape v_taped v_from v_to v_sort v_worth).bind fun r6 => (some (0, r6.1, r6.2.1, r6.2.2.1, r6.2.2.2, v_fault, v_bad, v_nCode, a_nOp, a_nArg, v_nLeaves, r5.1, r5.2.1, r5.2.2, v_opened)))))
set_option maxHeartbeats 4000000 in
set_option maxRecDepth 100000 in
theorem tX12_readPlain {G : GT} {b : Nat} {o : Nat} {c0 : Hp} {n : Nat} (hw : e_wf (kM o) n) {v_thrown : Int32} {v_status : Int32} {a_refusals : Nat → Int32} {a_row : Nat → Int32} {a_images : Nat → Int32} {a_isKept : Nat → Int32} {v_nClauses : Int32} {a_nClause : Nat → Int32} {a_headWords : Nat → Int64} {v_law : Int32} {a_set : Nat → Int64} {a_rest : Nat → Int64} {v_broken : Int32} {v_value : Int64} {v_sum : Int64} {a_chances : Nat → Int32} {a_votes : Nat → Int64} {a_costs : Nat → Int32} {a_table : Nat → Int64} {a_prices : Nat → Int32} {v_surely : Int64} {a_mostBy : Nat → Int64} {a_leastBy : Nat → Int64} {v_between : Int64} {v_steadyWays : Int32} {v_quashed : Int32} {v_but : Int32} {a_figures : Nat → Int32} {a_all : Nat → Int32} {a_lies : Nat → Int32} {a_since : Nat → Int32} {v_last : Int32} {v_state : Int64} {Fu : Nat} {a_tape : Nat → Int32} {v_taped : Int32} {v_from : Int32} {v_to : Int32} {v_sort : Int32} {v_worth : Int64} {v_fault : Int32} {v_bad : Int32} {v_nCode : Int32} {a_nOp : Nat → Int32} {a_nArg : Nat → Int32} {v_nLeaves : Int32} {a_pile : Nat → Int32} {a_pileAt : Nat → Int32} {v_piled : Int32} {v_opened : Int32} {a_words : Nat → Int64} {R : Int32 × Int32 × Int32 × Int32 × Int64 × Int32 × Int32 × Int32 × (Nat → Int32) × (Nat → Int32) × Int32 × (Nat → Int32) × (Nat → Int32) × Int32 × Int32} (hf : fX12_readPlain Fu a_tape v_taped v_from v_to v_sort v_worth v_fault v_bad v_nCode a_nOp a_nArg v_nLeaves a_pile a_pileAt v_piled v_opened a_words = some R) : E G b yX12_readPlain cX12_readPlain 1 (some .int) (e_rm 5 0 0) e_X0 (e_Z G b (pD (some (.int R.1)) (e_ov (kM o) (wM G b o v_thrown v_status a_refusals a_row a_images a_isKept a_tape v_taped R.2.1 R.2.2.1 R.2.2.2.1 R.2.2.2.2.1 R.2.2.2.2.2.1 R.2.2.2.2.2.2.1 v_nClauses a_nClause R.2.2.2.2.2.2.2.1 R.2.2.2.2.2.2.2.2.1 R.2.2.2.2.2.2.2.2.2.1 R.2.2.2.2.2.2.2.2.2.2.1 R.2.2.2.2.2.2.2.2.2.2.2.1 R.2.2.2.2.2.2.2.2.2.2.2.2.1 R.2.2.2.2.2.2.2.2.2.2.2.2.2.1 R.2.2.2.2.2.2.2.2.2.2.2.2.2.2 a_words a_headWords v_law a_set a_rest v_broken v_value v_sum a_chances a_votes a_costs a_table a_prices v_surely a_mostBy a_leastBy v_between v_steadyWays v_quashed v_but a_figures a_all a_lies a_since v_last v_state) c0) n) 0 0) 0 [(0, .ref (b + o))] [] (e_ov (kM o) (wM G b o v_thrown v_status a_refusals a_row a_images a_isKept a_tape v_taped v_from v_to v_sort v_worth v_fault v_bad v_nClauses a_nClause v_nCode a_nOp a_nArg v_nLeaves a_pile a_pileAt v_piled v_opened a_words a_headWords v_law a_set a_rest v_broken v_value v_sum a_chances a_votes a_costs a_table a_prices v_surely a_mostBy a_leastBy v_between v_steadyWays v_quashed v_but a_figures a_all a_lies a_since v_last v_state) c0) n 0 0 := by
  unfold fX12_readPlain at hf
  refine E.aload_n 0 dX12_readPlain_0 rfl ?_
  refine E.ldc2 dX12_readPlain_1 kX12_281 ?_
  obtain ⟨r1, hc1, hf⟩ := e_bind hf
  refine E.callVD [] dX12_readPlain_4 mlX12_252 ⟨hw.sub (p := 0) rfl, e_ov_get hw.1 (p := 0) rfl rfl⟩ rfl rfl (mX12_isWord hw hc1) ⟨Nat.le_of_ble_eq_true rfl, Nat.le_of_ble_eq_true rfl⟩ rfl rfl (Nat.le_of_ble_eq_true rfl) ⟨Nat.le_refl _, Nat.le_refl _⟩ rfl ?_
  refine E.if_eq dX12_readPlain_7 (fun h => ?_) (fun h => ?_)
  · have hf := e_ift hf h
    refine E.aload_n 0 dX12_readPlain_23 rfl ?_
    refine E.bipush (v := 40) dX12_readPlain_24 (by decide) ?_
    obtain ⟨r2, hc2, hf⟩ := e_bind hf
    refine E.callVD [] dX12_readPlain_26 mlX12_265 ⟨hw.sub (p := 0) rfl, e_ov_get hw.1 (p := 0) rfl rfl⟩ rfl rfl (mX12_isSign hw hc2) ⟨Nat.le_of_ble_eq_true rfl, Nat.le_of_ble_eq_true rfl⟩ rfl rfl (Nat.le_of_ble_eq_true rfl) ⟨Nat.le_refl _, Nat.le_refl _⟩ rfl ?_
    refine E.if_eq dX12_readPlain_29 (fun h => ?_) (fun h => ?_)
    · have hf := e_ift hf h
      refine E.aload_n 0 dX12_readPlain_40 rfl ?_
      obtain ⟨r3, hc3, hf⟩ := e_bind hf
      refine E.callVD [] dX12_readPlain_41 mlX12_283 ⟨hw.sub (p := 0) rfl, e_ov_get hw.1 (p := 0) rfl rfl⟩ rfl rfl (mX12_readPart hw hc3) ⟨Nat.le_of_ble_eq_true rfl, Nat.le_of_ble_eq_true rfl⟩ rfl rfl (Nat.le_of_ble_eq_true rfl) ⟨Nat.le_refl _, Nat.le_refl _⟩ rfl ?_
      cases hf
      exact E.iret dX12_readPlain_44 (Nat.le_refl _) (Nat.le_refl _) (pD_rf _ _ _)
    · have hf := e_iff hf h
      refine E.aload_n 0 dX12_readPlain_32 rfl ?_
      refine E.bipush (v := 30) dX12_readPlain_33 (by decide) ?_
      obtain ⟨r4, hc4, hf⟩ := e_bind hf
      refine E.callVD [] dX12_readPlain_35 mlX12_268 ⟨hw.sub (p := 0) rfl, e_ov_get hw.1 (p := 0) rfl rfl⟩ rfl rfl (mX12_openBracket hw hc4) ⟨Nat.le_of_ble_eq_true rfl, Nat.le_of_ble_eq_true rfl⟩ rfl rfl (Nat.le_of_ble_eq_true rfl) ⟨Nat.le_refl _, Nat.le_refl _⟩ rfl ?_
      refine E.iconst (v := 0) dX12_readPlain_38 (by decide) ?_
      cases hf
      exact E.iret dX12_readPlain_39 (Nat.le_refl _) (Nat.le_refl _) (pD_rf _ _ _)
  · have hf := e_iff hf h
    refine E.aload_n 0 dX12_readPlain_10 rfl ?_
    refine E.bipush (v := 27) dX12_readPlain_11 (by decide) ?_
    refine E.iconst (v := 0) dX12_readPlain_13 (by decide) ?_
    obtain ⟨r5, hc5, hf⟩ := e_bind hf
    refine E.callVD [] dX12_readPlain_14 mlX12_259 ⟨hw.sub (p := 0) rfl, e_ov_get hw.1 (p := 0) rfl rfl⟩ rfl rfl (mX12_push hw hc5) ⟨Nat.le_of_ble_eq_true rfl, Nat.le_of_ble_eq_true rfl⟩ rfl rfl (Nat.le_of_ble_eq_true rfl) ⟨Nat.le_refl _, Nat.le_refl _⟩ rfl ?_
    refine E.aload_n 0 dX12_readPlain_17 rfl ?_
    obtain ⟨r6, hc6, hf⟩ := e_bind hf
    refine E.callVD [] dX12_readPlain_18 mlX12_198 ⟨hw.sub (p := 0) rfl, e_ov_get hw.1 (p := 0) rfl rfl⟩ rfl rfl (mX12_next hw hc6) ⟨Nat.le_of_ble_eq_true rfl, Nat.le_of_ble_eq_true rfl⟩ rfl rfl (Nat.le_of_ble_eq_true rfl) ⟨Nat.le_refl _, Nat.le_refl _⟩ rfl ?_
    refine E.iconst (v := 0) dX12_readPlain_21 (by decide) ?_
    cases hf
    exact E.iret dX12_readPlain_22 (Nat.le_refl _) (Nat.le_refl _) (pD_rf _ _ _)
set_option maxRecDepth 100000 in
theorem mX12_readPlain {G : GT} {b : Nat} {o : Nat} {c0 : Hp} {n : Nat} (hw : e_wf (kM o) n) {v_thrown : Int32} {v_status : Int32} {a_refusals : Nat → Int32} {a_row : Nat → Int32} {a_images : Nat → Int32} {a_isKept : Nat → Int32} {v_nClauses : Int32} {a_nClause : Nat → Int32} {a_headWords : Nat → Int64} {v_law : Int32} {a_set : Nat → Int64} {a_rest : Nat → Int64} {v_broken : Int32} {v_value : Int64} {v_sum : Int64} {a_chances : Nat → Int32} {a_votes : Nat → Int64} {a_costs : Nat → Int32} {a_table : Nat → Int64} {a_prices : Nat → Int32} {v_surely : Int64} {a_mostBy : Nat → Int64} {a_leastBy : Nat → Int64} {v_between : Int64} {v_steadyWays : Int32} {v_quashed : Int32} {v_but : Int32} {a_figures : Nat → Int32} {a_all : Nat → Int32} {a_lies : Nat → Int32} {a_since : Nat → Int32} {v_last : Int32} {v_state : Int64} {Fu : Nat} {a_tape : Nat → Int32} {v_taped : Int32} {v_from : Int32} {v_to : Int32} {v_sort : Int32} {v_worth : Int64} {v_fault : Int32} {v_bad : Int32} {v_nCode : Int32} {a_nOp : Nat → Int32} {a_nArg : Nat → Int32} {v_nLeaves : Int32} {a_pile : Nat → Int32} {a_pileAt : Nat → Int32} {v_piled : Int32} {v_opened : Int32} {a_words : Nat → Int64} {R : Int32 × Int32 × Int32 × Int32 × Int64 × Int32 × Int32 × Int32 × (Nat → Int32) × (Nat → Int32) × Int32 × (Nat → Int32) × (Nat → Int32) × Int32 × Int32} (hf : fX12_readPlain Fu a_tape v_taped v_from v_to v_sort v_worth v_fault v_bad v_nCode a_nOp a_nArg v_nLeaves a_pile a_pileAt v_piled v_opened a_words = some R) : e_C G b yX12_readPlain cX12_readPlain 1 (some .int) 5 0 0 [.ref (b + o)] (e_ov (kM o) (wM G b o v_thrown v_status a_refusals a_row a_images a_isKept a_tape v_taped v_from v_to v_sort v_worth v_fault v_bad v_nClauses a_nClause v_nCode a_nOp a_nArg v_nLeaves a_pile a_pileAt v_piled v_opened a_words a_headWords v_law a_set a_rest v_broken v_value v_sum a_chances a_votes a_costs a_table a_prices v_surely a_mostBy a_leastBy v_between v_steadyWays v_quashed v_but a_figures a_all a_lies a_since v_last v_state) c0) n (pD (some (.int R.1)) (e_ov (kM o) (wM G b o v_thrown v_status a_refusals a_row a_images a_isKept a_tape v_taped R.2.1 R.2.2.1 R.2.2.2.1 R.2.2.2.2.1 R.2.2.2.2.2.1 R.2.2.2.2.2.2.1 v_nClauses a_nClause R.2.2.2.2.2.2.2.1 R.2.2.2.2.2.2.2.2.1 R.2.2.2.2.2.2.2.2.2.1 R.2.2.2.2.2.2.2.2.2.2.1 R.2.2.2.2.2.2.2.2.2.2.2.1 R.2.2.2.2.2.2.2.2.2.2.2.2.1 R.2.2.2.2.2.2.2.2.2.2.2.2.2.1 R.2.2.2.2.2.2.2.2.2.2.2.2.2.2 a_words a_headWords v_law a_set a_rest v_broken v_value v_sum a_chances a_votes a_costs a_table a_prices v_surely a_mostBy a_leastBy v_between v_steadyWays v_quashed v_but a_figures a_all a_lies a_since v_last v_state) c0) n) := e_C.of (by decide) (Nat.le_of_ble_eq_true rfl) (tX12_readPlain hw hf)
def fX12_behindSum_L210 (Fu : Nat) (a_tape : Nat → Int32) (v_taped : Int32) (v_from : Int32) (v_to : Int32) (v_sort : Int32) (v_worth : Int64) (v_fault : Int32) (v_bad : Int32) (v_nCode : Int32) (a_nOp : Nat → Int32) (a_nArg : Nat → Int32) (a_pile : Nat → Int32) (a_pileAt : Nat → Int32) (v_piled : Int32) (v_opened : Int32) (x2 : Int32) (s0 : Int32) : Option (Int32 × Int32 × Int32 × Int32 × Int64 × Int32 × Int32 × Int32 × (Nat → Int32) × (Nat → Int32) × (Nat → Int32) × (Nat → Int32) × Int32 × Int32) := (fX12_must Fu a_tape v_taped v_from v_to v_sort v_worth v_fault v_bad s0).bind fun r17 => (if (r17.2.2.2.2.2 : Int32) = 0 then ((fX12_settle Fu v_nCode a_nOp a_nArg a_pile a_pileAt v_piled 5).bind fun r18 => ((fX12_push a_pile a_pileAt r18.2.2.2 x2 0).bind fun r19 => (some (1, r17.1, r17.2.1, r17.2.2.1, r17.2.2.2.1, r17.2.2.2.2.1, r17.2.2.2.2.2, r18.1, r18.2.1, r18.2.2.1, r19.1, r19.2.1, r19.2.2, v_opened)))) else (some (1, r17.1, r17.2.1, r17.2.2.1, r17.2.2.2.1, r17.2.2.2.2.1, r17.2.2.2.2.2, v_nCode, a_nOp, a_nArg, a_pile, a_pileAt, v_piled, v_opened)))
set_option maxHeartbeats 4000000 in
set_option maxRecDepth 100000 in
theorem tX12_behindSum_L210 {G : GT} {b : Nat} {o : Nat} {c0 : Hp} {n : Nat} (hw : e_wf (kM o) n) {v_thrown : Int32} {v_status : Int32} {a_refusals : Nat → Int32} {a_row : Nat → Int32} {a_images : Nat → Int32} {a_isKept : Nat → Int32} {v_nClauses : Int32} {a_nClause : Nat → Int32} {v_nLeaves : Int32} {a_words : Nat → Int64} {a_headWords : Nat → Int64} {v_law : Int32} {a_set : Nat → Int64} {a_rest : Nat → Int64} {v_broken : Int32} {v_value : Int64} {v_sum : Int64} {a_chances : Nat → Int32} {a_votes : Nat → Int64} {a_costs : Nat → Int32} {a_table : Nat → Int64} {a_prices : Nat → Int32} {v_surely : Int64} {a_mostBy : Nat → Int64} {a_leastBy : Nat → Int64} {v_between : Int64} {v_steadyWays : Int32} {v_quashed : Int32} {v_but : Int32} {a_figures : Nat → Int32} {a_all : Nat → Int32} {a_lies : Nat → Int32} {a_since : Nat → Int32} {v_last : Int32} {v_state : Int64} {Fu : Nat} {a_tape : Nat → Int32} {v_taped : Int32} {v_from : Int32} {v_to : Int32} {v_sort : Int32} {v_worth : Int64} {v_fault : Int32} {v_bad : Int32} {v_nCode : Int32} {a_nOp : Nat → Int32} {a_nArg : Nat → Int32} {a_pile : Nat → Int32} {a_pileAt : Nat → Int32} {v_piled : Int32} {v_opened : Int32} {x2 : Int32} {s0 : Int32} {R : Int32 × Int32 × Int32 × Int32 × Int64 × Int32 × Int32 × Int32 × (Nat → Int32) × (Nat → Int32) × (Nat → Int32) × (Nat → Int32) × Int32 × Int32} (hf : fX12_behindSum_L210 Fu a_tape v_taped v_from v_to v_sort v_worth v_fault v_bad v_nCode a_nOp a_nArg a_pile a_pileAt v_piled v_opened x2 s0 = some R) : E G b yX12_behindSum cX12_behindSum 4 (some .int) (e_rm 3 0 0) e_X0 (e_Z G b (pD (some (.int R.1)) (e_ov (kM o) (wM G b o v_thrown v_status a_refusals a_row a_images a_isKept a_tape v_taped R.2.1 R.2.2.1 R.2.2.2.1 R.2.2.2.2.1 R.2.2.2.2.2.1 R.2.2.2.2.2.2.1 v_nClauses a_nClause R.2.2.2.2.2.2.2.1 R.2.2.2.2.2.2.2.2.1 R.2.2.2.2.2.2.2.2.2.1 v_nLeaves R.2.2.2.2.2.2.2.2.2.2.1 R.2.2.2.2.2.2.2.2.2.2.2.1 R.2.2.2.2.2.2.2.2.2.2.2.2.1 R.2.2.2.2.2.2.2.2.2.2.2.2.2 a_words a_headWords v_law a_set a_rest v_broken v_value v_sum a_chances a_votes a_costs a_table a_prices v_surely a_mostBy a_leastBy v_between v_steadyWays v_quashed v_but a_figures a_all a_lies a_since v_last v_state) c0) n) 0 0) 210 [(0, .ref (b + o)), (2, .int x2)] [.int s0, .ref (b + o)] (e_ov (kM o) (wM G b o v_thrown v_status a_refusals a_row a_images a_isKept a_tape v_taped v_from v_to v_sort v_worth v_fault v_bad v_nClauses a_nClause v_nCode a_nOp a_nArg v_nLeaves a_pile a_pileAt v_piled v_opened a_words a_headWords v_law a_set a_rest v_broken v_value v_sum a_chances a_votes a_costs a_table a_prices v_surely a_mostBy a_leastBy v_between v_steadyWays v_quashed v_but a_figures a_all a_lies a_since v_last v_state) c0) n 0 0 := by
  unfold fX12_behindSum_L210 at hf
  obtain ⟨r17, hc17, hf⟩ := e_bind hf
  refine E.callVD [] dX12_behindSum_210 mlX12_229 ⟨hw.sub (p := 0) rfl, e_ov_get hw.1 (p := 0) rfl rfl⟩ rfl rfl (mX12_must hw hc17) ⟨Nat.le_of_ble_eq_true rfl, Nat.le_of_ble_eq_true rfl⟩ rfl rfl (Nat.le_of_ble_eq_true rfl) ⟨Nat.le_refl _, Nat.le_refl _⟩ rfl ?_
  refine E.aload_n 0 dX12_behindSum_213 rfl ?_
  refine E.get hw 0 o dX12_behindSum_214 flX12_194 rfl rfl rfl rfl ?_
  refine E.if_ne dX12_behindSum_217 (fun h => ?_) (fun h => ?_)
  · have hf := e_iff hf h
    refine E.iconst (v := 1) dX12_behindSum_231 (by decide) ?_
    cases hf
    exact E.iret dX12_behindSum_232 (Nat.le_refl _) (Nat.le_refl _) (pD_rf _ _ _)
  · have hf := e_ift hf h
    refine E.aload_n 0 dX12_behindSum_220 rfl ?_
    refine E.iconst (v := 5) dX12_behindSum_221 (by decide) ?_
    obtain ⟨r18, hc18, hf⟩ := e_bind hf
    refine E.callVD [] dX12_behindSum_222 mlX12_286 ⟨hw.sub (p := 0) rfl, e_ov_get hw.1 (p := 0) rfl rfl⟩ rfl rfl (mX12_settle hw hc18) ⟨Nat.le_of_ble_eq_true rfl, Nat.le_of_ble_eq_true rfl⟩ rfl rfl (Nat.le_of_ble_eq_true rfl) ⟨Nat.le_refl _, Nat.le_refl _⟩ rfl ?_
    refine E.aload_n 0 dX12_behindSum_225 rfl ?_
    refine E.iload_n 1 dX12_behindSum_226 rfl ?_
    refine E.iconst (v := 0) dX12_behindSum_227 (by decide) ?_
    obtain ⟨r19, hc19, hf⟩ := e_bind hf
    refine E.callVD [] dX12_behindSum_228 mlX12_259 ⟨hw.sub (p := 0) rfl, e_ov_get hw.1 (p := 0) rfl rfl⟩ rfl rfl (mX12_push hw hc19) ⟨Nat.le_of_ble_eq_true rfl, Nat.le_of_ble_eq_true rfl⟩ rfl rfl (Nat.le_of_ble_eq_true rfl) ⟨Nat.le_refl _, Nat.le_refl _⟩ rfl ?_
    refine E.iconst (v := 1) dX12_behindSum_231 (by decide) ?_
    cases hf
    exact E.iret dX12_behindSum_232 (Nat.le_refl _) (Nat.le_refl _) (pD_rf _ _ _)
def fX12_behindSum_L188 (Fu : Nat) (a_tape : Nat → Int32) (v_taped : Int32) (v_from : Int32) (v_to : Int32) (v_sort : Int32) (v_worth : Int64) (v_fault : Int32) (v_bad : Int32) (v_nCode : Int32) (a_nOp : Nat → Int32) (a_nArg : Nat → Int32) (a_pile : Nat → Int32) (a_pileAt : Nat → Int32) (v_piled : Int32) (v_opened : Int32) (s0 : Int32) : Option (Int32 × Int32 × Int32 × Int32 × Int64 × Int32 × Int32 × Int32 × (Nat → Int32) × (Nat → Int32) × (Nat → Int32) × (Nat → Int32) × Int32 × Int32) := if (s0 : Int32) = (26 : Int32) then ((fX12_isSign v_sort v_worth 61).bind fun r16 => (if (r16 : Int32) = 0 then (fX12_behindSum_L210 Fu a_tape v_taped v_from v_to v_sort v_worth v_fault v_bad v_nCode a_nOp a_nArg a_pile a_pileAt v_piled v_opened s0 0) else (fX12_behindSum_L210 Fu a_tape v_taped v_from v_to v_sort v_worth v_fault v_bad v_nCode a_nOp a_nArg a_pile a_pileAt v_piled v_opened s0 1))) else (fX12_behindSum_L210 Fu a_tape v_taped v_from v_to v_sort v_worth v_fault v_bad v_nCode a_nOp a_nArg a_pile a_pileAt v_piled v_opened s0 1)
set_option maxHeartbeats 4000000 in
set_option maxRecDepth 100000 in
theorem tX12_behindSum_L188 {G : GT} {b : Nat} {o : Nat} {c0 : Hp} {n : Nat} (hw : e_wf (kM o) n) {v_thrown : Int32} {v_status : Int32} {a_refusals : Nat → Int32} {a_row : Nat → Int32} {a_images : Nat → Int32} {a_isKept : Nat → Int32} {v_nClauses : Int32} {a_nClause : Nat → Int32} {v_nLeaves : Int32} {a_words : Nat → Int64} {a_headWords : Nat → Int64} {v_law : Int32} {a_set : Nat → Int64} {a_rest : Nat → Int64} {v_broken : Int32} {v_value : Int64} {v_sum : Int64} {a_chances : Nat → Int32} {a_votes : Nat → Int64} {a_costs : Nat → Int32} {a_table : Nat → Int64} {a_prices : Nat → Int32} {v_surely : Int64} {a_mostBy : Nat → Int64} {a_leastBy : Nat → Int64} {v_between : Int64} {v_steadyWays : Int32} {v_quashed : Int32} {v_but : Int32} {a_figures : Nat → Int32} {a_all : Nat → Int32} {a_lies : Nat → Int32} {a_since : Nat → Int32} {v_last : Int32} {v_state : Int64} {Fu : Nat} {a_tape : Nat → Int32} {v_taped : Int32} {v_from : Int32} {v_to : Int32} {v_sort : Int32} {v_worth : Int64} {v_fault : Int32} {v_bad : Int32} {v_nCode : Int32} {a_nOp : Nat → Int32} {a_nArg : Nat → Int32} {a_pile : Nat → Int32} {a_pileAt : Nat → Int32} {v_piled : Int32} {v_opened : Int32} {s0 : Int32} {R : Int32 × Int32 × Int32 × Int32 × Int64 × Int32 × Int32 × Int32 × (Nat → Int32) × (Nat → Int32) × (Nat → Int32) × (Nat → Int32) × Int32 × Int32} (hf : fX12_behindSum_L188 Fu a_tape v_taped v_from v_to v_sort v_worth v_fault v_bad v_nCode a_nOp a_nArg a_pile a_pileAt v_piled v_opened s0 = some R) : E G b yX12_behindSum cX12_behindSum 4 (some .int) (e_rm 3 0 0) e_X0 (e_Z G b (pD (some (.int R.1)) (e_ov (kM o) (wM G b o v_thrown v_status a_refusals a_row a_images a_isKept a_tape v_taped R.2.1 R.2.2.1 R.2.2.2.1 R.2.2.2.2.1 R.2.2.2.2.2.1 R.2.2.2.2.2.2.1 v_nClauses a_nClause R.2.2.2.2.2.2.2.1 R.2.2.2.2.2.2.2.2.1 R.2.2.2.2.2.2.2.2.2.1 v_nLeaves R.2.2.2.2.2.2.2.2.2.2.1 R.2.2.2.2.2.2.2.2.2.2.2.1 R.2.2.2.2.2.2.2.2.2.2.2.2.1 R.2.2.2.2.2.2.2.2.2.2.2.2.2 a_words a_headWords v_law a_set a_rest v_broken v_value v_sum a_chances a_votes a_costs a_table a_prices v_surely a_mostBy a_leastBy v_between v_steadyWays v_quashed v_but a_figures a_all a_lies a_since v_last v_state) c0) n) 0 0) 188 [(0, .ref (b + o))] [.int s0] (e_ov (kM o) (wM G b o v_thrown v_status a_refusals a_row a_images a_isKept a_tape v_taped v_from v_to v_sort v_worth v_fault v_bad v_nClauses a_nClause v_nCode a_nOp a_nArg v_nLeaves a_pile a_pileAt v_piled v_opened a_words a_headWords v_law a_set a_rest v_broken v_value v_sum a_chances a_votes a_costs a_table a_prices v_surely a_mostBy a_leastBy v_between v_steadyWays v_quashed v_but a_figures a_all a_lies a_since v_last v_state) c0) n 0 0 := by
  unfold fX12_behindSum_L188 at hf
  refine E.istore_n (lv' := [(2, .int s0), (0, .ref (b + o))]) dX12_behindSum_188 (by decide) rfl ?_
  refine E.aload_n 1 dX12_behindSum_189 rfl ?_
  refine E.iload_n 0 dX12_behindSum_190 rfl ?_
  refine E.bipush (v := 26) dX12_behindSum_191 (by decide) ?_
  refine E.icmp_ne dX12_behindSum_193 (fun h => ?_) (fun h => ?_)
  · have hf := e_iff hf h
    refine E.iconst (v := 1) dX12_behindSum_205 (by decide) ?_
    refine E.goto dX12_behindSum_206 ?_
    refine E.locals [1, 0] rfl ?_
    exact tX12_behindSum_L210 hw hf
  · have hf := e_ift hf h
    refine E.aload_n 1 dX12_behindSum_196 rfl ?_
    refine E.bipush (v := 61) dX12_behindSum_197 (by decide) ?_
    obtain ⟨r16, hc16, hf⟩ := e_bind hf
    refine E.callVD [.ref (b + o)] dX12_behindSum_199 mlX12_265 ⟨hw.sub (p := 0) rfl, e_ov_get hw.1 (p := 0) rfl rfl⟩ rfl rfl (mX12_isSign hw hc16) ⟨Nat.le_of_ble_eq_true rfl, Nat.le_of_ble_eq_true rfl⟩ rfl rfl (Nat.le_of_ble_eq_true rfl) ⟨Nat.le_refl _, Nat.le_refl _⟩ rfl ?_
    refine E.if_eq dX12_behindSum_202 (fun h => ?_) (fun h => ?_)
    · have hf := e_ift hf h
      refine E.iconst (v := 0) dX12_behindSum_209 (by decide) ?_
      refine E.locals [1, 0] rfl ?_
      exact tX12_behindSum_L210 hw hf
    · have hf := e_iff hf h
      refine E.iconst (v := 1) dX12_behindSum_205 (by decide) ?_
      refine E.goto dX12_behindSum_206 ?_
      refine E.locals [1, 0] rfl ?_
      exact tX12_behindSum_L210 hw hf
def fX12_behindSum_L149 (Fu : Nat) (a_tape : Nat → Int32) (v_taped : Int32) (v_from : Int32) (v_to : Int32) (v_sort : Int32) (v_worth : Int64) (v_fault : Int32) (v_bad : Int32) (v_nCode : Int32) (a_nOp : Nat → Int32) (a_nArg : Nat → Int32) (a_pile : Nat → Int32) (a_pileAt : Nat → Int32) (v_piled : Int32) (v_opened : Int32) : Option (Int32 × Int32 × Int32 × Int32 × Int64 × Int32 × Int32 × Int32 × (Nat → Int32) × (Nat → Int32) × (Nat → Int32) × (Nat → Int32) × Int32 × Int32) := (fX12_isCompared Fu a_pile v_piled).bind fun r13 => (if (r13 : Int32) = 0 then ((fX12_isSign v_sort v_worth 60).bind fun r14 => (if (r14 : Int32) = 0 then ((fX12_isSign v_sort v_worth 62).bind fun r15 => (if (r15 : Int32) = 0 then (fX12_behindSum_L188 Fu a_tape v_taped v_from v_to v_sort v_worth v_fault v_bad v_nCode a_nOp a_nArg a_pile a_pileAt v_piled v_opened 26) else (fX12_behindSum_L188 Fu a_tape v_taped v_from v_to v_sort v_worth v_fault v_bad v_nCode a_nOp a_nArg a_pile a_pileAt v_piled v_opened 25))) else (fX12_behindSum_L188 Fu a_tape v_taped v_from v_to v_sort v_worth v_fault v_bad v_nCode a_nOp a_nArg a_pile a_pileAt v_piled v_opened 24))) else (some (2, v_from, v_to, v_sort, v_worth, v_fault, v_bad, v_nCode, a_nOp, a_nArg, a_pile, a_pileAt, v_piled, v_opened)))
set_option maxHeartbeats 4000000 in
set_option maxRecDepth 100000 in
theorem tX12_behindSum_L149 {G : GT} {b : Nat} {o : Nat} {c0 : Hp} {n : Nat} (hw : e_wf (kM o) n) {v_thrown : Int32} {v_status : Int32} {a_refusals : Nat → Int32} {a_row : Nat → Int32} {a_images : Nat → Int32} {a_isKept : Nat → Int32} {v_nClauses : Int32} {a_nClause : Nat → Int32} {v_nLeaves : Int32} {a_words : Nat → Int64} {a_headWords : Nat → Int64} {v_law : Int32} {a_set : Nat → Int64} {a_rest : Nat → Int64} {v_broken : Int32} {v_value : Int64} {v_sum : Int64} {a_chances : Nat → Int32} {a_votes : Nat → Int64} {a_costs : Nat → Int32} {a_table : Nat → Int64} {a_prices : Nat → Int32} {v_surely : Int64} {a_mostBy : Nat → Int64} {a_leastBy : Nat → Int64} {v_between : Int64} {v_steadyWays : Int32} {v_quashed : Int32} {v_but : Int32} {a_figures : Nat → Int32} {a_all : Nat → Int32} {a_lies : Nat → Int32} {a_since : Nat → Int32} {v_last : Int32} {v_state : Int64} {Fu : Nat} {a_tape : Nat → Int32} {v_taped : Int32} {v_from : Int32} {v_to : Int32} {v_sort : Int32} {v_worth : Int64} {v_fault : Int32} {v_bad : Int32} {v_nCode : Int32} {a_nOp : Nat → Int32} {a_nArg : Nat → Int32} {a_pile : Nat → Int32} {a_pileAt : Nat → Int32} {v_piled : Int32} {v_opened : Int32} {R : Int32 × Int32 × Int32 × Int32 × Int64 × Int32 × Int32 × Int32 × (Nat → Int32) × (Nat → Int32) × (Nat → Int32) × (Nat → Int32) × Int32 × Int32} (hf : fX12_behindSum_L149 Fu a_tape v_taped v_from v_to v_sort v_worth v_fault v_bad v_nCode a_nOp a_nArg a_pile a_pileAt v_piled v_opened = some R) : E G b yX12_behindSum cX12_behindSum 4 (some .int) (e_rm 3 0 0) e_X0 (e_Z G b (pD (some (.int R.1)) (e_ov (kM o) (wM G b o v_thrown v_status a_refusals a_row a_images a_isKept a_tape v_taped R.2.1 R.2.2.1 R.2.2.2.1 R.2.2.2.2.1 R.2.2.2.2.2.1 R.2.2.2.2.2.2.1 v_nClauses a_nClause R.2.2.2.2.2.2.2.1 R.2.2.2.2.2.2.2.2.1 R.2.2.2.2.2.2.2.2.2.1 v_nLeaves R.2.2.2.2.2.2.2.2.2.2.1 R.2.2.2.2.2.2.2.2.2.2.2.1 R.2.2.2.2.2.2.2.2.2.2.2.2.1 R.2.2.2.2.2.2.2.2.2.2.2.2.2 a_words a_headWords v_law a_set a_rest v_broken v_value v_sum a_chances a_votes a_costs a_table a_prices v_surely a_mostBy a_leastBy v_between v_steadyWays v_quashed v_but a_figures a_all a_lies a_since v_last v_state) c0) n) 0 0) 149 [(0, .ref (b + o))] [] (e_ov (kM o) (wM G b o v_thrown v_status a_refusals a_row a_images a_isKept a_tape v_taped v_from v_to v_sort v_worth v_fault v_bad v_nClauses a_nClause v_nCode a_nOp a_nArg v_nLeaves a_pile a_pileAt v_piled v_opened a_words a_headWords v_law a_set a_rest v_broken v_value v_sum a_chances a_votes a_costs a_table a_prices v_surely a_mostBy a_leastBy v_between v_steadyWays v_quashed v_but a_figures a_all a_lies a_since v_last v_state) c0) n 0 0 := by
  unfold fX12_behindSum_L149 at hf
  refine E.aload_n 0 dX12_behindSum_149 rfl ?_
  obtain ⟨r13, hc13, hf⟩ := e_bind hf
  refine E.callVD [] dX12_behindSum_150 mlX12_292 ⟨hw.sub (p := 0) rfl, e_ov_get hw.1 (p := 0) rfl rfl⟩ rfl rfl (mX12_isCompared hw hc13) ⟨Nat.le_of_ble_eq_true rfl, Nat.le_of_ble_eq_true rfl⟩ rfl rfl (Nat.le_of_ble_eq_true rfl) ⟨Nat.le_refl _, Nat.le_refl _⟩ rfl ?_
  refine E.if_eq dX12_behindSum_153 (fun h => ?_) (fun h => ?_)
  · have hf := e_ift hf h
    refine E.aload_n 0 dX12_behindSum_158 rfl ?_
    refine E.bipush (v := 60) dX12_behindSum_159 (by decide) ?_
    obtain ⟨r14, hc14, hf⟩ := e_bind hf
    refine E.callVD [] dX12_behindSum_161 mlX12_265 ⟨hw.sub (p := 0) rfl, e_ov_get hw.1 (p := 0) rfl rfl⟩ rfl rfl (mX12_isSign hw hc14) ⟨Nat.le_of_ble_eq_true rfl, Nat.le_of_ble_eq_true rfl⟩ rfl rfl (Nat.le_of_ble_eq_true rfl) ⟨Nat.le_refl _, Nat.le_refl _⟩ rfl ?_
    refine E.if_eq dX12_behindSum_164 (fun h => ?_) (fun h => ?_)
    · have hf := e_ift hf h
      refine E.aload_n 0 dX12_behindSum_172 rfl ?_
      refine E.bipush (v := 62) dX12_behindSum_173 (by decide) ?_
      obtain ⟨r15, hc15, hf⟩ := e_bind hf
      refine E.callVD [] dX12_behindSum_175 mlX12_265 ⟨hw.sub (p := 0) rfl, e_ov_get hw.1 (p := 0) rfl rfl⟩ rfl rfl (mX12_isSign hw hc15) ⟨Nat.le_of_ble_eq_true rfl, Nat.le_of_ble_eq_true rfl⟩ rfl rfl (Nat.le_of_ble_eq_true rfl) ⟨Nat.le_refl _, Nat.le_refl _⟩ rfl ?_
      refine E.if_eq dX12_behindSum_178 (fun h => ?_) (fun h => ?_)
      · have hf := e_ift hf h
        refine E.bipush (v := 26) dX12_behindSum_186 (by decide) ?_
        exact tX12_behindSum_L188 hw hf
      · have hf := e_iff hf h
        refine E.bipush (v := 25) dX12_behindSum_181 (by decide) ?_
        refine E.goto dX12_behindSum_183 ?_
        exact tX12_behindSum_L188 hw hf
    · have hf := e_iff hf h
      refine E.bipush (v := 24) dX12_behindSum_167 (by decide) ?_
      refine E.goto dX12_behindSum_169 ?_
      exact tX12_behindSum_L188 hw hf
  · have hf := e_iff hf h
    refine E.iconst (v := 2) dX12_behindSum_156 (by decide) ?_
    cases hf
    exact E.iret dX12_behindSum_157 (Nat.le_refl _) (Nat.le_refl _) (pD_rf _ _ _)
def fX12_behindSum_L57 (Fu : Nat) (a_tape : Nat → Int32) (v_taped : Int32) (v_from : Int32) (v_to : Int32) (v_sort : Int32) (v_worth : Int64) (v_fault : Int32) (v_bad : Int32) (v_nCode : Int32) (a_nOp : Nat → Int32) (a_nArg : Nat → Int32) (a_pile : Nat → Int32) (a_pileAt : Nat → Int32) (v_piled : Int32) (v_opened : Int32) (x1 : Int32) (s0 : Int32) : Option (Int32 × Int32 × Int32 × Int32 × Int64 × Int32 × Int32 × Int32 × (Nat → Int32) × (Nat → Int32) × (Nat → Int32) × (Nat → Int32) × Int32 × Int32) := if (s0 : Int32) = ((-1 : Int32) : Int32) then ((fX12_inner Fu a_pile v_piled).bind fun r5 => (if (r5 : Int32) = (31 : Int32) then ((fX12_isSign v_sort v_worth 93).bind fun r6 => ((fX12_must Fu a_tape v_taped v_from v_to v_sort v_worth v_fault v_bad r6).bind fun r7 => (if (r7.2.2.2.2.2 : Int32) = 0 then ((fX12_settle Fu v_nCode a_nOp a_nArg a_pile a_pileAt v_piled 5).bind fun r8 => (some (3, r7.1, r7.2.1, r7.2.2.1, r7.2.2.2.1, r7.2.2.2.2.1, r7.2.2.2.2.2, r8.1, r8.2.1, r8.2.2.1, a_pile, a_pileAt, (r8.2.2.2 - 1), (v_opened - 1)))) else (some (3, r7.1, r7.2.1, r7.2.2.1, r7.2.2.2.1, r7.2.2.2.2.1, r7.2.2.2.2.2, v_nCode, a_nOp, a_nArg, a_pile, a_pileAt, v_piled, v_opened))))) else (if (r5 : Int32) = ((-1 : Int32) : Int32) then (if (x1 : Int32) = 0 then (some (4, v_from, v_to, v_sort, v_worth, v_fault, v_bad, v_nCode, a_nOp, a_nArg, a_pile, a_pileAt, v_piled, v_opened)) else (fX12_behindSum_L149 Fu a_tape v_taped v_from v_to v_sort v_worth v_fault v_bad v_nCode a_nOp a_nArg a_pile a_pileAt v_piled v_opened)) else (fX12_behindSum_L149 Fu a_tape v_taped v_from v_to v_sort v_worth v_fault v_bad v_nCode a_nOp a_nArg a_pile a_pileAt v_piled v_opened)))) else ((fX12_binds s0).bind fun r9 => ((fX12_settle Fu v_nCode a_nOp a_nArg a_pile a_pileAt v_piled r9).bind fun r10 => ((fX12_push a_pile a_pileAt r10.2.2.2 s0 0).bind fun r11 => ((fX12_next Fu a_tape v_taped v_from v_to v_sort v_worth).bind fun r12 => (some (1, r12.1, r12.2.1, r12.2.2.1, r12.2.2.2, v_fault, v_bad, r10.1, r10.2.1, r10.2.2.1, r11.1, r11.2.1, r11.2.2, v_opened))))))
set_option maxHeartbeats 4000000 in
set_option maxRecDepth 100000 in
theorem tX12_behindSum_L57 {G : GT} {b : Nat} {o : Nat} {c0 : Hp} {n : Nat} (hw : e_wf (kM o) n) {v_thrown : Int32} {v_status : Int32} {a_refusals : Nat → Int32} {a_row : Nat → Int32} {a_images : Nat → Int32} {a_isKept : Nat → Int32} {v_nClauses : Int32} {a_nClause : Nat → Int32} {v_nLeaves : Int32} {a_words : Nat → Int64} {a_headWords : Nat → Int64} {v_law : Int32} {a_set : Nat → Int64} {a_rest : Nat → Int64} {v_broken : Int32} {v_value : Int64} {v_sum : Int64} {a_chances : Nat → Int32} {a_votes : Nat → Int64} {a_costs : Nat → Int32} {a_table : Nat → Int64} {a_prices : Nat → Int32} {v_surely : Int64} {a_mostBy : Nat → Int64} {a_leastBy : Nat → Int64} {v_between : Int64} {v_steadyWays : Int32} {v_quashed : Int32} {v_but : Int32} {a_figures : Nat → Int32} {a_all : Nat → Int32} {a_lies : Nat → Int32} {a_since : Nat → Int32} {v_last : Int32} {v_state : Int64} {Fu : Nat} {a_tape : Nat → Int32} {v_taped : Int32} {v_from : Int32} {v_to : Int32} {v_sort : Int32} {v_worth : Int64} {v_fault : Int32} {v_bad : Int32} {v_nCode : Int32} {a_nOp : Nat → Int32} {a_nArg : Nat → Int32} {a_pile : Nat → Int32} {a_pileAt : Nat → Int32} {v_piled : Int32} {v_opened : Int32} {x1 : Int32} {s0 : Int32} {R : Int32 × Int32 × Int32 × Int32 × Int64 × Int32 × Int32 × Int32 × (Nat → Int32) × (Nat → Int32) × (Nat → Int32) × (Nat → Int32) × Int32 × Int32} (hf : fX12_behindSum_L57 Fu a_tape v_taped v_from v_to v_sort v_worth v_fault v_bad v_nCode a_nOp a_nArg a_pile a_pileAt v_piled v_opened x1 s0 = some R) : E G b yX12_behindSum cX12_behindSum 4 (some .int) (e_rm 3 0 0) e_X0 (e_Z G b (pD (some (.int R.1)) (e_ov (kM o) (wM G b o v_thrown v_status a_refusals a_row a_images a_isKept a_tape v_taped R.2.1 R.2.2.1 R.2.2.2.1 R.2.2.2.2.1 R.2.2.2.2.2.1 R.2.2.2.2.2.2.1 v_nClauses a_nClause R.2.2.2.2.2.2.2.1 R.2.2.2.2.2.2.2.2.1 R.2.2.2.2.2.2.2.2.2.1 v_nLeaves R.2.2.2.2.2.2.2.2.2.2.1 R.2.2.2.2.2.2.2.2.2.2.2.1 R.2.2.2.2.2.2.2.2.2.2.2.2.1 R.2.2.2.2.2.2.2.2.2.2.2.2.2 a_words a_headWords v_law a_set a_rest v_broken v_value v_sum a_chances a_votes a_costs a_table a_prices v_surely a_mostBy a_leastBy v_between v_steadyWays v_quashed v_but a_figures a_all a_lies a_since v_last v_state) c0) n) 0 0) 57 [(0, .ref (b + o)), (1, .int x1)] [.int s0] (e_ov (kM o) (wM G b o v_thrown v_status a_refusals a_row a_images a_isKept a_tape v_taped v_from v_to v_sort v_worth v_fault v_bad v_nClauses a_nClause v_nCode a_nOp a_nArg v_nLeaves a_pile a_pileAt v_piled v_opened a_words a_headWords v_law a_set a_rest v_broken v_value v_sum a_chances a_votes a_costs a_table a_prices v_surely a_mostBy a_leastBy v_between v_steadyWays v_quashed v_but a_figures a_all a_lies a_since v_last v_state) c0) n 0 0 := by
  unfold fX12_behindSum_L57 at hf
  refine E.istore_n (lv' := [(2, .int s0), (0, .ref (b + o)), (1, .int x1)]) dX12_behindSum_57 (by decide) rfl ?_
  refine E.iload_n 0 dX12_behindSum_58 rfl ?_
  refine E.iconst (v := -1) dX12_behindSum_59 (by decide) ?_
  refine E.icmp_eq dX12_behindSum_60 (fun h => ?_) (fun h => ?_)
  · have hf := e_ift hf h
    refine E.aload_n 1 dX12_behindSum_83 rfl ?_
    obtain ⟨r5, hc5, hf⟩ := e_bind hf
    refine E.callVD [] dX12_behindSum_84 mlX12_289 ⟨hw.sub (p := 0) rfl, e_ov_get hw.1 (p := 0) rfl rfl⟩ rfl rfl (mX12_inner hw hc5) ⟨Nat.le_of_ble_eq_true rfl, Nat.le_of_ble_eq_true rfl⟩ rfl rfl (Nat.le_of_ble_eq_true rfl) ⟨Nat.le_refl _, Nat.le_refl _⟩ rfl ?_
    refine E.istore_n (lv' := [(3, .int r5), (2, .int s0), (0, .ref (b + o)), (1, .int x1)]) dX12_behindSum_87 (by decide) rfl ?_
    refine E.iload_n 0 dX12_behindSum_88 rfl ?_
    refine E.bipush (v := 31) dX12_behindSum_89 (by decide) ?_
    refine E.icmp_ne dX12_behindSum_91 (fun h => ?_) (fun h => ?_)
    · have hf := e_iff hf h
      refine E.iload_n 0 dX12_behindSum_138 rfl ?_
      refine E.iconst (v := -1) dX12_behindSum_139 (by decide) ?_
      refine E.icmp_ne dX12_behindSum_140 (fun h => ?_) (fun h => ?_)
      · have hf := e_iff hf h
        refine E.locals [2] rfl ?_
        exact tX12_behindSum_L149 hw hf
      · have hf := e_ift hf h
        refine E.iload_n 3 dX12_behindSum_143 rfl ?_
        refine E.if_ne dX12_behindSum_144 (fun h => ?_) (fun h => ?_)
        · have hf := e_iff hf h
          refine E.locals [2] rfl ?_
          exact tX12_behindSum_L149 hw hf
        · have hf := e_ift hf h
          refine E.iconst (v := 4) dX12_behindSum_147 (by decide) ?_
          cases hf
          exact E.iret dX12_behindSum_148 (Nat.le_refl _) (Nat.le_refl _) (pD_rf _ _ _)
    · have hf := e_ift hf h
      refine E.aload_n 2 dX12_behindSum_94 rfl ?_
      refine E.aload_n 2 dX12_behindSum_95 rfl ?_
      refine E.bipush (v := 93) dX12_behindSum_96 (by decide) ?_
      obtain ⟨r6, hc6, hf⟩ := e_bind hf
      refine E.callVD [.ref (b + o)] dX12_behindSum_98 mlX12_265 ⟨hw.sub (p := 0) rfl, e_ov_get hw.1 (p := 0) rfl rfl⟩ rfl rfl (mX12_isSign hw hc6) ⟨Nat.le_of_ble_eq_true rfl, Nat.le_of_ble_eq_true rfl⟩ rfl rfl (Nat.le_of_ble_eq_true rfl) ⟨Nat.le_refl _, Nat.le_refl _⟩ rfl ?_
      obtain ⟨r7, hc7, hf⟩ := e_bind hf
      refine E.callVD [] dX12_behindSum_101 mlX12_229 ⟨hw.sub (p := 0) rfl, e_ov_get hw.1 (p := 0) rfl rfl⟩ rfl rfl (mX12_must hw hc7) ⟨Nat.le_of_ble_eq_true rfl, Nat.le_of_ble_eq_true rfl⟩ rfl rfl (Nat.le_of_ble_eq_true rfl) ⟨Nat.le_refl _, Nat.le_refl _⟩ rfl ?_
      refine E.aload_n 2 dX12_behindSum_104 rfl ?_
      refine E.get hw 0 o dX12_behindSum_105 flX12_194 rfl rfl rfl rfl ?_
      refine E.if_ne dX12_behindSum_108 (fun h => ?_) (fun h => ?_)
      · have hf := e_iff hf h
        refine E.iconst (v := 3) dX12_behindSum_136 (by decide) ?_
        cases hf
        exact E.iret dX12_behindSum_137 (Nat.le_refl _) (Nat.le_refl _) (pD_rf _ _ _)
      · have hf := e_ift hf h
        refine E.aload_n 2 dX12_behindSum_111 rfl ?_
        refine E.iconst (v := 5) dX12_behindSum_112 (by decide) ?_
        obtain ⟨r8, hc8, hf⟩ := e_bind hf
        refine E.callVD [] dX12_behindSum_113 mlX12_286 ⟨hw.sub (p := 0) rfl, e_ov_get hw.1 (p := 0) rfl rfl⟩ rfl rfl (mX12_settle hw hc8) ⟨Nat.le_of_ble_eq_true rfl, Nat.le_of_ble_eq_true rfl⟩ rfl rfl (Nat.le_of_ble_eq_true rfl) ⟨Nat.le_refl _, Nat.le_refl _⟩ rfl ?_
        refine E.aload_n 2 dX12_behindSum_116 rfl ?_
        refine E.dup dX12_behindSum_117 rfl ?_
        refine E.get hw 0 o dX12_behindSum_118 flX12_236 rfl rfl rfl rfl ?_
        refine E.iconst (v := 1) dX12_behindSum_121 (by decide) ?_
        refine E.isub dX12_behindSum_122 ?_
        refine E.put (es' := (wM G b o v_thrown v_status a_refusals a_row a_images a_isKept a_tape v_taped r7.1 r7.2.1 r7.2.2.1 r7.2.2.2.1 r7.2.2.2.2.1 r7.2.2.2.2.2 v_nClauses a_nClause r8.1 r8.2.1 r8.2.2.1 v_nLeaves a_pile a_pileAt (r8.2.2.2 - 1) v_opened a_words a_headWords v_law a_set a_rest v_broken v_value v_sum a_chances a_votes a_costs a_table a_prices v_surely a_mostBy a_leastBy v_between v_steadyWays v_quashed v_but a_figures a_all a_lies a_since v_last v_state)) hw 0 o dX12_behindSum_123 flX12_236 ftX12 rfl rfl rfl rfl rfl rfl (Nat.le_of_ble_eq_true rfl) rfl ?_
        refine E.aload_n 2 dX12_behindSum_126 rfl ?_
        refine E.dup dX12_behindSum_127 rfl ?_
        refine E.get hw 0 o dX12_behindSum_128 flX12_256 rfl rfl rfl rfl ?_
        refine E.iconst (v := 1) dX12_behindSum_131 (by decide) ?_
        refine E.isub dX12_behindSum_132 ?_
        refine E.put (es' := (wM G b o v_thrown v_status a_refusals a_row a_images a_isKept a_tape v_taped r7.1 r7.2.1 r7.2.2.1 r7.2.2.2.1 r7.2.2.2.2.1 r7.2.2.2.2.2 v_nClauses a_nClause r8.1 r8.2.1 r8.2.2.1 v_nLeaves a_pile a_pileAt (r8.2.2.2 - 1) (v_opened - 1) a_words a_headWords v_law a_set a_rest v_broken v_value v_sum a_chances a_votes a_costs a_table a_prices v_surely a_mostBy a_leastBy v_between v_steadyWays v_quashed v_but a_figures a_all a_lies a_since v_last v_state)) hw 0 o dX12_behindSum_133 flX12_256 ftX12 rfl rfl rfl rfl rfl rfl (Nat.le_of_ble_eq_true rfl) rfl ?_
        refine E.iconst (v := 3) dX12_behindSum_136 (by decide) ?_
        cases hf
        exact E.iret dX12_behindSum_137 (Nat.le_refl _) (Nat.le_refl _) (pD_rf _ _ _)
  · have hf := e_iff hf h
    refine E.aload_n 1 dX12_behindSum_63 rfl ?_
    refine E.iload_n 0 dX12_behindSum_64 rfl ?_
    obtain ⟨r9, hc9, hf⟩ := e_bind hf
    refine E.callSD [.ref (b + o)] dX12_behindSum_65 mlX12_239 (mX12_binds hc9) ⟨Nat.le_of_ble_eq_true rfl, Nat.le_of_ble_eq_true rfl⟩ rfl rfl (Nat.le_of_ble_eq_true rfl) ⟨Nat.le_refl _, Nat.le_refl _⟩ rfl ?_
    obtain ⟨r10, hc10, hf⟩ := e_bind hf
    refine E.callVD [] dX12_behindSum_68 mlX12_286 ⟨hw.sub (p := 0) rfl, e_ov_get hw.1 (p := 0) rfl rfl⟩ rfl rfl (mX12_settle hw hc10) ⟨Nat.le_of_ble_eq_true rfl, Nat.le_of_ble_eq_true rfl⟩ rfl rfl (Nat.le_of_ble_eq_true rfl) ⟨Nat.le_refl _, Nat.le_refl _⟩ rfl ?_
    refine E.aload_n 1 dX12_behindSum_71 rfl ?_
    refine E.iload_n 0 dX12_behindSum_72 rfl ?_
    refine E.iconst (v := 0) dX12_behindSum_73 (by decide) ?_
    obtain ⟨r11, hc11, hf⟩ := e_bind hf
    refine E.callVD [] dX12_behindSum_74 mlX12_259 ⟨hw.sub (p := 0) rfl, e_ov_get hw.1 (p := 0) rfl rfl⟩ rfl rfl (mX12_push hw hc11) ⟨Nat.le_of_ble_eq_true rfl, Nat.le_of_ble_eq_true rfl⟩ rfl rfl (Nat.le_of_ble_eq_true rfl) ⟨Nat.le_refl _, Nat.le_refl _⟩ rfl ?_
    refine E.aload_n 1 dX12_behindSum_77 rfl ?_
    obtain ⟨r12, hc12, hf⟩ := e_bind hf
    refine E.callVD [] dX12_behindSum_78 mlX12_198 ⟨hw.sub (p := 0) rfl, e_ov_get hw.1 (p := 0) rfl rfl⟩ rfl rfl (mX12_next hw hc12) ⟨Nat.le_of_ble_eq_true rfl, Nat.le_of_ble_eq_true rfl⟩ rfl rfl (Nat.le_of_ble_eq_true rfl) ⟨Nat.le_refl _, Nat.le_refl _⟩ rfl ?_
    refine E.iconst (v := 1) dX12_behindSum_81 (by decide) ?_
    cases hf
    exact E.iret dX12_behindSum_82 (Nat.le_refl _) (Nat.le_refl _) (pD_rf _ _ _)
def fX12_behindSum (Fu : Nat) (a_tape : Nat → Int32) (v_taped : Int32) (v_from : Int32) (v_to : Int32) (v_sort : Int32) (v_worth : Int64) (v_fault : Int32) (v_bad : Int32) (v_nCode : Int32) (a_nOp : Nat → Int32) (a_nArg : Nat → Int32) (a_pile : Nat → Int32) (a_pileAt : Nat → Int32) (v_piled : Int32) (v_opened : Int32) (x1 : Int32) : Option (Int32 × Int32 × Int32 × Int32 × Int64 × Int32 × Int32 × Int32 × (Nat → Int32) × (Nat → Int32) × (Nat → Int32) × (Nat → Int32) × Int32 × Int32) := (fX12_isSign v_sort v_worth 43).bind fun r1 => (if (r1 : Int32) = 0 then ((fX12_isSign v_sort v_worth 45).bind fun r2 => (if (r2 : Int32) = 0 then ((fX12_isSign v_sort v_worth 42).bind fun r3 => (if (r3 : Int32) = 0 then ((fX12_isSign v_sort v_worth 47).bind fun r4 => (if (r4 : Int32) = 0 then (fX12_behindSum_L57 Fu a_tape v_taped v_from v_to v_sort v_worth v_fault v_bad v_nCode a_nOp a_nArg a_pile a_pileAt v_piled v_opened x1 (-1 : Int32)) else (fX12_behindSum_L57 Fu a_tape v_taped v_from v_to v_sort v_worth v_fault v_bad v_nCode a_nOp a_nArg a_pile a_pileAt v_piled v_opened x1 23))) else (fX12_behindSum_L57 Fu a_tape v_taped v_from v_to v_sort v_worth v_fault v_bad v_nCode a_nOp a_nArg a_pile a_pileAt v_piled v_opened x1 22))) else (fX12_behindSum_L57 Fu a_tape v_taped v_from v_to v_sort v_worth v_fault v_bad v_nCode a_nOp a_nArg a_pile a_pileAt v_piled v_opened x1 21))) else (fX12_behindSum_L57 Fu a_tape v_taped v_from v_to v_sort v_worth v_fault v_bad v_nCode a_nOp a_nArg a_pile a_pileAt v_piled v_opened x1 20))
set_option maxHeartbeats 4000000 in
set_option maxRecDepth 100000 in
theorem tX12_behindSum {G : GT} {b : Nat} {o : Nat} {c0 : Hp} {n : Nat} (hw : e_wf (kM o) n) {v_thrown : Int32} {v_status : Int32} {a_refusals : Nat → Int32} {a_row : Nat → Int32} {a_images : Nat → Int32} {a_isKept : Nat → Int32} {v_nClauses : Int32} {a_nClause : Nat → Int32} {v_nLeaves : Int32} {a_words : Nat → Int64} {a_headWords : Nat → Int64} {v_law : Int32} {a_set : Nat → Int64} {a_rest : Nat → Int64} {v_broken : Int32} {v_value : Int64} {v_sum : Int64} {a_chances : Nat → Int32} {a_votes : Nat → Int64} {a_costs : Nat → Int32} {a_table : Nat → Int64} {a_prices : Nat → Int32} {v_surely : Int64} {a_mostBy : Nat → Int64} {a_leastBy : Nat → Int64} {v_between : Int64} {v_steadyWays : Int32} {v_quashed : Int32} {v_but : Int32} {a_figures : Nat → Int32} {a_all : Nat → Int32} {a_lies : Nat → Int32} {a_since : Nat → Int32} {v_last : Int32} {v_state : Int64} {Fu : Nat} {a_tape : Nat → Int32} {v_taped : Int32} {v_from : Int32} {v_to : Int32} {v_sort : Int32} {v_worth : Int64} {v_fault : Int32} {v_bad : Int32} {v_nCode : Int32} {a_nOp : Nat → Int32} {a_nArg : Nat → Int32} {a_pile : Nat → Int32} {a_pileAt : Nat → Int32} {v_piled : Int32} {v_opened : Int32} {x1 : Int32} {R : Int32 × Int32 × Int32 × Int32 × Int64 × Int32 × Int32 × Int32 × (Nat → Int32) × (Nat → Int32) × (Nat → Int32) × (Nat → Int32) × Int32 × Int32} (hf : fX12_behindSum Fu a_tape v_taped v_from v_to v_sort v_worth v_fault v_bad v_nCode a_nOp a_nArg a_pile a_pileAt v_piled v_opened x1 = some R) : E G b yX12_behindSum cX12_behindSum 4 (some .int) (e_rm 3 0 0) e_X0 (e_Z G b (pD (some (.int R.1)) (e_ov (kM o) (wM G b o v_thrown v_status a_refusals a_row a_images a_isKept a_tape v_taped R.2.1 R.2.2.1 R.2.2.2.1 R.2.2.2.2.1 R.2.2.2.2.2.1 R.2.2.2.2.2.2.1 v_nClauses a_nClause R.2.2.2.2.2.2.2.1 R.2.2.2.2.2.2.2.2.1 R.2.2.2.2.2.2.2.2.2.1 v_nLeaves R.2.2.2.2.2.2.2.2.2.2.1 R.2.2.2.2.2.2.2.2.2.2.2.1 R.2.2.2.2.2.2.2.2.2.2.2.2.1 R.2.2.2.2.2.2.2.2.2.2.2.2.2 a_words a_headWords v_law a_set a_rest v_broken v_value v_sum a_chances a_votes a_costs a_table a_prices v_surely a_mostBy a_leastBy v_between v_steadyWays v_quashed v_but a_figures a_all a_lies a_since v_last v_state) c0) n) 0 0) 0 [(0, .ref (b + o)), (1, .int x1)] [] (e_ov (kM o) (wM G b o v_thrown v_status a_refusals a_row a_images a_isKept a_tape v_taped v_from v_to v_sort v_worth v_fault v_bad v_nClauses a_nClause v_nCode a_nOp a_nArg v_nLeaves a_pile a_pileAt v_piled v_opened a_words a_headWords v_law a_set a_rest v_broken v_value v_sum a_chances a_votes a_costs a_table a_prices v_surely a_mostBy a_leastBy v_between v_steadyWays v_quashed v_but a_figures a_all a_lies a_since v_last v_state) c0) n 0 0 := by
  unfold fX12_behindSum at hf
  refine E.aload_n 0 dX12_behindSum_0 rfl ?_
  refine E.bipush (v := 43) dX12_behindSum_1 (by decide) ?_
  obtain ⟨r1, hc1, hf⟩ := e_bind hf
  refine E.callVD [] dX12_behindSum_3 mlX12_265 ⟨hw.sub (p := 0) rfl, e_ov_get hw.1 (p := 0) rfl rfl⟩ rfl rfl (mX12_isSign hw hc1) ⟨Nat.le_of_ble_eq_true rfl, Nat.le_of_ble_eq_true rfl⟩ rfl rfl (Nat.le_of_ble_eq_true rfl) ⟨Nat.le_refl _, Nat.le_refl _⟩ rfl ?_
  refine E.if_eq dX12_behindSum_6 (fun h => ?_) (fun h => ?_)
  · have hf := e_ift hf h
    refine E.aload_n 0 dX12_behindSum_14 rfl ?_
    refine E.bipush (v := 45) dX12_behindSum_15 (by decide) ?_
    obtain ⟨r2, hc2, hf⟩ := e_bind hf
    refine E.callVD [] dX12_behindSum_17 mlX12_265 ⟨hw.sub (p := 0) rfl, e_ov_get hw.1 (p := 0) rfl rfl⟩ rfl rfl (mX12_isSign hw hc2) ⟨Nat.le_of_ble_eq_true rfl, Nat.le_of_ble_eq_true rfl⟩ rfl rfl (Nat.le_of_ble_eq_true rfl) ⟨Nat.le_refl _, Nat.le_refl _⟩ rfl ?_
    refine E.if_eq dX12_behindSum_20 (fun h => ?_) (fun h => ?_)
    · have hf := e_ift hf h
      refine E.aload_n 0 dX12_behindSum_28 rfl ?_
      refine E.bipush (v := 42) dX12_behindSum_29 (by decide) ?_
      obtain ⟨r3, hc3, hf⟩ := e_bind hf
      refine E.callVD [] dX12_behindSum_31 mlX12_265 ⟨hw.sub (p := 0) rfl, e_ov_get hw.1 (p := 0) rfl rfl⟩ rfl rfl (mX12_isSign hw hc3) ⟨Nat.le_of_ble_eq_true rfl, Nat.le_of_ble_eq_true rfl⟩ rfl rfl (Nat.le_of_ble_eq_true rfl) ⟨Nat.le_refl _, Nat.le_refl _⟩ rfl ?_
      refine E.if_eq dX12_behindSum_34 (fun h => ?_) (fun h => ?_)
      · have hf := e_ift hf h
        refine E.aload_n 0 dX12_behindSum_42 rfl ?_
        refine E.bipush (v := 47) dX12_behindSum_43 (by decide) ?_
        obtain ⟨r4, hc4, hf⟩ := e_bind hf
        refine E.callVD [] dX12_behindSum_45 mlX12_265 ⟨hw.sub (p := 0) rfl, e_ov_get hw.1 (p := 0) rfl rfl⟩ rfl rfl (mX12_isSign hw hc4) ⟨Nat.le_of_ble_eq_true rfl, Nat.le_of_ble_eq_true rfl⟩ rfl rfl (Nat.le_of_ble_eq_true rfl) ⟨Nat.le_refl _, Nat.le_refl _⟩ rfl ?_
        refine E.if_eq dX12_behindSum_48 (fun h => ?_) (fun h => ?_)
        · have hf := e_ift hf h
          refine E.iconst (v := -1) dX12_behindSum_56 (by decide) ?_
          exact tX12_behindSum_L57 hw hf
        · have hf := e_iff hf h
          refine E.bipush (v := 23) dX12_behindSum_51 (by decide) ?_
          refine E.goto dX12_behindSum_53 ?_
          exact tX12_behindSum_L57 hw hf
      · have hf := e_iff hf h
        refine E.bipush (v := 22) dX12_behindSum_37 (by decide) ?_
        refine E.goto dX12_behindSum_39 ?_
        exact tX12_behindSum_L57 hw hf
    · have hf := e_iff hf h
      refine E.bipush (v := 21) dX12_behindSum_23 (by decide) ?_
      refine E.goto dX12_behindSum_25 ?_
      exact tX12_behindSum_L57 hw hf
  · have hf := e_iff hf h
    refine E.bipush (v := 20) dX12_behindSum_9 (by decide) ?_
    refine E.goto dX12_behindSum_11 ?_
    exact tX12_behindSum_L57 hw hf
set_option maxRecDepth 100000 in
theorem mX12_behindSum {G : GT} {b : Nat} {o : Nat} {c0 : Hp} {n : Nat} (hw : e_wf (kM o) n) {v_thrown : Int32} {v_status : Int32} {a_refusals : Nat → Int32} {a_row : Nat → Int32} {a_images : Nat → Int32} {a_isKept : Nat → Int32} {v_nClauses : Int32} {a_nClause : Nat → Int32} {v_nLeaves : Int32} {a_words : Nat → Int64} {a_headWords : Nat → Int64} {v_law : Int32} {a_set : Nat → Int64} {a_rest : Nat → Int64} {v_broken : Int32} {v_value : Int64} {v_sum : Int64} {a_chances : Nat → Int32} {a_votes : Nat → Int64} {a_costs : Nat → Int32} {a_table : Nat → Int64} {a_prices : Nat → Int32} {v_surely : Int64} {a_mostBy : Nat → Int64} {a_leastBy : Nat → Int64} {v_between : Int64} {v_steadyWays : Int32} {v_quashed : Int32} {v_but : Int32} {a_figures : Nat → Int32} {a_all : Nat → Int32} {a_lies : Nat → Int32} {a_since : Nat → Int32} {v_last : Int32} {v_state : Int64} {Fu : Nat} {a_tape : Nat → Int32} {v_taped : Int32} {v_from : Int32} {v_to : Int32} {v_sort : Int32} {v_worth : Int64} {v_fault : Int32} {v_bad : Int32} {v_nCode : Int32} {a_nOp : Nat → Int32} {a_nArg : Nat → Int32} {a_pile : Nat → Int32} {a_pileAt : Nat → Int32} {v_piled : Int32} {v_opened : Int32} {x1 : Int32} {R : Int32 × Int32 × Int32 × Int32 × Int64 × Int32 × Int32 × Int32 × (Nat → Int32) × (Nat → Int32) × (Nat → Int32) × (Nat → Int32) × Int32 × Int32} (hf : fX12_behindSum Fu a_tape v_taped v_from v_to v_sort v_worth v_fault v_bad v_nCode a_nOp a_nArg a_pile a_pileAt v_piled v_opened x1 = some R) : e_C G b yX12_behindSum cX12_behindSum 4 (some .int) 3 0 0 [.ref (b + o), .int x1] (e_ov (kM o) (wM G b o v_thrown v_status a_refusals a_row a_images a_isKept a_tape v_taped v_from v_to v_sort v_worth v_fault v_bad v_nClauses a_nClause v_nCode a_nOp a_nArg v_nLeaves a_pile a_pileAt v_piled v_opened a_words a_headWords v_law a_set a_rest v_broken v_value v_sum a_chances a_votes a_costs a_table a_prices v_surely a_mostBy a_leastBy v_between v_steadyWays v_quashed v_but a_figures a_all a_lies a_since v_last v_state) c0) n (pD (some (.int R.1)) (e_ov (kM o) (wM G b o v_thrown v_status a_refusals a_row a_images a_isKept a_tape v_taped R.2.1 R.2.2.1 R.2.2.2.1 R.2.2.2.2.1 R.2.2.2.2.2.1 R.2.2.2.2.2.2.1 v_nClauses a_nClause R.2.2.2.2.2.2.2.1 R.2.2.2.2.2.2.2.2.1 R.2.2.2.2.2.2.2.2.2.1 v_nLeaves R.2.2.2.2.2.2.2.2.2.2.1 R.2.2.2.2.2.2.2.2.2.2.2.1 R.2.2.2.2.2.2.2.2.2.2.2.2.1 R.2.2.2.2.2.2.2.2.2.2.2.2.2 a_words a_headWords v_law a_set a_rest v_broken v_value v_sum a_chances a_votes a_costs a_table a_prices v_surely a_mostBy a_leastBy v_between v_steadyWays v_quashed v_but a_figures a_all a_lies a_since v_last v_state) c0) n) := e_C.of (by decide) (Nat.le_of_ble_eq_true rfl) (tX12_behindSum hw hf)
