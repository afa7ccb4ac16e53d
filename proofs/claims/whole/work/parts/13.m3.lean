def fX12_behindTest_L66 (Fu : Nat) (a_tape : Nat → Int32) (v_taped : Int32) (v_from : Int32) (v_to : Int32) (v_sort : Int32) (v_worth : Int64) (v_fault : Int32) (v_bad : Int32) (v_nCode : Int32) (a_nOp : Nat → Int32) (a_nArg : Nat → Int32) (a_pile : Nat → Int32) (a_pileAt : Nat → Int32) (v_piled : Int32) (v_opened : Int32) (s0 : Int32) : Option (Int32 × Int32 × Int32 × Int32 × Int64 × Int32 × Int32 × Int32 × (Nat → Int32) × (Nat → Int32) × (Nat → Int32) × (Nat → Int32) × Int32 × Int32) := (fX12_emit v_nCode a_nOp a_nArg s0 0).bind fun r9 => ((fX12_next Fu a_tape v_taped v_from v_to v_sort v_worth).bind fun r10 => (some (0, r10.1, r10.2.1, r10.2.2.1, r10.2.2.2, v_fault, v_bad, r9.1, r9.2.1, r9.2.2, a_pile, a_pileAt, v_piled, v_opened)))
set_option maxHeartbeats 4000000 in
set_option maxRecDepth 100000 in
theorem tX12_behindTest_L66 {G : GT} {b : Nat} {o : Nat} {c0 : Hp} {n : Nat} (hw : e_wf (kM o) n) {v_thrown : Int32} {v_status : Int32} {a_refusals : Nat → Int32} {a_row : Nat → Int32} {a_images : Nat → Int32} {a_isKept : Nat → Int32} {v_nClauses : Int32} {a_nClause : Nat → Int32} {v_nLeaves : Int32} {a_words : Nat → Int64} {a_headWords : Nat → Int64} {v_law : Int32} {a_set : Nat → Int64} {a_rest : Nat → Int64} {v_broken : Int32} {v_value : Int64} {v_sum : Int64} {a_chances : Nat → Int32} {a_votes : Nat → Int64} {a_costs : Nat → Int32} {a_table : Nat → Int64} {a_prices : Nat → Int32} {v_surely : Int64} {a_mostBy : Nat → Int64} {a_leastBy : Nat → Int64} {v_between : Int64} {v_steadyWays : Int32} {v_quashed : Int32} {v_but : Int32} {a_figures : Nat → Int32} {a_all : Nat → Int32} {a_lies : Nat → Int32} {a_since : Nat → Int32} {v_last : Int32} {v_state : Int64} {Fu : Nat} {a_tape : Nat → Int32} {v_taped : Int32} {v_from : Int32} {v_to : Int32} {v_sort : Int32} {v_worth : Int64} {v_fault : Int32} {v_bad : Int32} {v_nCode : Int32} {a_nOp : Nat → Int32} {a_nArg : Nat → Int32} {a_pile : Nat → Int32} {a_pileAt : Nat → Int32} {v_piled : Int32} {v_opened : Int32} {s0 : Int32} {R : Int32 × Int32 × Int32 × Int32 × Int64 × Int32 × Int32 × Int32 × (Nat → Int32) × (Nat → Int32) × (Nat → Int32) × (Nat → Int32) × Int32 × Int32} (hf : fX12_behindTest_L66 Fu a_tape v_taped v_from v_to v_sort v_worth v_fault v_bad v_nCode a_nOp a_nArg a_pile a_pileAt v_piled v_opened s0 = some R) : E G b yX12_behindTest cX12_behindTest 2 (some .int) (e_rm 3 0 0) e_X0 (e_Z G b (pD (some (.int R.1)) (e_ov (kM o) (wM G b o v_thrown v_status a_refusals a_row a_images a_isKept a_tape v_taped R.2.1 R.2.2.1 R.2.2.2.1 R.2.2.2.2.1 R.2.2.2.2.2.1 R.2.2.2.2.2.2.1 v_nClauses a_nClause R.2.2.2.2.2.2.2.1 R.2.2.2.2.2.2.2.2.1 R.2.2.2.2.2.2.2.2.2.1 v_nLeaves R.2.2.2.2.2.2.2.2.2.2.1 R.2.2.2.2.2.2.2.2.2.2.2.1 R.2.2.2.2.2.2.2.2.2.2.2.2.1 R.2.2.2.2.2.2.2.2.2.2.2.2.2 a_words a_headWords v_law a_set a_rest v_broken v_value v_sum a_chances a_votes a_costs a_table a_prices v_surely a_mostBy a_leastBy v_between v_steadyWays v_quashed v_but a_figures a_all a_lies a_since v_last v_state) c0) n) 0 0) 66 [(0, .ref (b + o))] [.int s0, .ref (b + o)] (e_ov (kM o) (wM G b o v_thrown v_status a_refusals a_row a_images a_isKept a_tape v_taped v_from v_to v_sort v_worth v_fault v_bad v_nClauses a_nClause v_nCode a_nOp a_nArg v_nLeaves a_pile a_pileAt v_piled v_opened a_words a_headWords v_law a_set a_rest v_broken v_value v_sum a_chances a_votes a_costs a_table a_prices v_surely a_mostBy a_leastBy v_between v_steadyWays v_quashed v_but a_figures a_all a_lies a_since v_last v_state) c0) n 0 0 := by
  unfold fX12_behindTest_L66 at hf
  refine E.iconst (v := 0) dX12_behindTest_66 (by decide) ?_
  obtain ⟨r9, hc9, hf⟩ := e_bind hf
  refine E.callVD [] dX12_behindTest_67 mlX12_242 ⟨hw.sub (p := 0) rfl, e_ov_get hw.1 (p := 0) rfl rfl⟩ rfl rfl (mX12_emit hw hc9) ⟨Nat.le_of_ble_eq_true rfl, Nat.le_of_ble_eq_true rfl⟩ rfl rfl (Nat.le_of_ble_eq_true rfl) ⟨Nat.le_refl _, Nat.le_refl _⟩ rfl ?_
  refine E.aload_n 0 dX12_behindTest_70 rfl ?_
  obtain ⟨r10, hc10, hf⟩ := e_bind hf
  refine E.callVD [] dX12_behindTest_71 mlX12_198 ⟨hw.sub (p := 0) rfl, e_ov_get hw.1 (p := 0) rfl rfl⟩ rfl rfl (mX12_next hw hc10) ⟨Nat.le_of_ble_eq_true rfl, Nat.le_of_ble_eq_true rfl⟩ rfl rfl (Nat.le_of_ble_eq_true rfl) ⟨Nat.le_refl _, Nat.le_refl _⟩ rfl ?_
  refine E.iconst (v := 0) dX12_behindTest_74 (by decide) ?_
  cases hf
  exact E.iret dX12_behindTest_75 (Nat.le_refl _) (Nat.le_refl _) (pD_rf _ _ _)
def fX12_behindTest_L47 (Fu : Nat) (a_tape : Nat → Int32) (v_taped : Int32) (v_from : Int32) (v_to : Int32) (v_sort : Int32) (v_worth : Int64) (v_fault : Int32) (v_bad : Int32) (v_nCode : Int32) (a_nOp : Nat → Int32) (a_nArg : Nat → Int32) (a_pile : Nat → Int32) (a_pileAt : Nat → Int32) (v_piled : Int32) (v_opened : Int32) (x1 : Int32) (s0 : Int32) : Option (Int32 × Int32 × Int32 × Int32 × Int64 × Int32 × Int32 × Int32 × (Nat → Int32) × (Nat → Int32) × (Nat → Int32) × (Nat → Int32) × Int32 × Int32) := (fX12_push a_pile a_pileAt v_piled s0 v_nCode).bind fun r8 => (if (x1 : Int32) = 0 then (fX12_behindTest_L66 Fu a_tape v_taped v_from v_to v_sort v_worth v_fault v_bad v_nCode a_nOp a_nArg r8.1 r8.2.1 r8.2.2 v_opened 29) else (fX12_behindTest_L66 Fu a_tape v_taped v_from v_to v_sort v_worth v_fault v_bad v_nCode a_nOp a_nArg r8.1 r8.2.1 r8.2.2 v_opened 28))
set_option maxHeartbeats 4000000 in
set_option maxRecDepth 100000 in
theorem tX12_behindTest_L47 {G : GT} {b : Nat} {o : Nat} {c0 : Hp} {n : Nat} (hw : e_wf (kM o) n) {v_thrown : Int32} {v_status : Int32} {a_refusals : Nat → Int32} {a_row : Nat → Int32} {a_images : Nat → Int32} {a_isKept : Nat → Int32} {v_nClauses : Int32} {a_nClause : Nat → Int32} {v_nLeaves : Int32} {a_words : Nat → Int64} {a_headWords : Nat → Int64} {v_law : Int32} {a_set : Nat → Int64} {a_rest : Nat → Int64} {v_broken : Int32} {v_value : Int64} {v_sum : Int64} {a_chances : Nat → Int32} {a_votes : Nat → Int64} {a_costs : Nat → Int32} {a_table : Nat → Int64} {a_prices : Nat → Int32} {v_surely : Int64} {a_mostBy : Nat → Int64} {a_leastBy : Nat → Int64} {v_between : Int64} {v_steadyWays : Int32} {v_quashed : Int32} {v_but : Int32} {a_figures : Nat → Int32} {a_all : Nat → Int32} {a_lies : Nat → Int32} {a_since : Nat → Int32} {v_last : Int32} {v_state : Int64} {Fu : Nat} {a_tape : Nat → Int32} {v_taped : Int32} {v_from : Int32} {v_to : Int32} {v_sort : Int32} {v_worth : Int64} {v_fault : Int32} {v_bad : Int32} {v_nCode : Int32} {a_nOp : Nat → Int32} {a_nArg : Nat → Int32} {a_pile : Nat → Int32} {a_pileAt : Nat → Int32} {v_piled : Int32} {v_opened : Int32} {x1 : Int32} {s0 : Int32} {R : Int32 × Int32 × Int32 × Int32 × Int64 × Int32 × Int32 × Int32 × (Nat → Int32) × (Nat → Int32) × (Nat → Int32) × (Nat → Int32) × Int32 × Int32} (hf : fX12_behindTest_L47 Fu a_tape v_taped v_from v_to v_sort v_worth v_fault v_bad v_nCode a_nOp a_nArg a_pile a_pileAt v_piled v_opened x1 s0 = some R) : E G b yX12_behindTest cX12_behindTest 2 (some .int) (e_rm 3 0 0) e_X0 (e_Z G b (pD (some (.int R.1)) (e_ov (kM o) (wM G b o v_thrown v_status a_refusals a_row a_images a_isKept a_tape v_taped R.2.1 R.2.2.1 R.2.2.2.1 R.2.2.2.2.1 R.2.2.2.2.2.1 R.2.2.2.2.2.2.1 v_nClauses a_nClause R.2.2.2.2.2.2.2.1 R.2.2.2.2.2.2.2.2.1 R.2.2.2.2.2.2.2.2.2.1 v_nLeaves R.2.2.2.2.2.2.2.2.2.2.1 R.2.2.2.2.2.2.2.2.2.2.2.1 R.2.2.2.2.2.2.2.2.2.2.2.2.1 R.2.2.2.2.2.2.2.2.2.2.2.2.2 a_words a_headWords v_law a_set a_rest v_broken v_value v_sum a_chances a_votes a_costs a_table a_prices v_surely a_mostBy a_leastBy v_between v_steadyWays v_quashed v_but a_figures a_all a_lies a_since v_last v_state) c0) n) 0 0) 47 [(0, .ref (b + o)), (1, .int x1)] [.int s0, .ref (b + o)] (e_ov (kM o) (wM G b o v_thrown v_status a_refusals a_row a_images a_isKept a_tape v_taped v_from v_to v_sort v_worth v_fault v_bad v_nClauses a_nClause v_nCode a_nOp a_nArg v_nLeaves a_pile a_pileAt v_piled v_opened a_words a_headWords v_law a_set a_rest v_broken v_value v_sum a_chances a_votes a_costs a_table a_prices v_surely a_mostBy a_leastBy v_between v_steadyWays v_quashed v_but a_figures a_all a_lies a_since v_last v_state) c0) n 0 0 := by
  unfold fX12_behindTest_L47 at hf
  refine E.aload_n 0 dX12_behindTest_47 rfl ?_
  refine E.get hw 0 o dX12_behindTest_48 flX12_233 rfl rfl rfl rfl ?_
  obtain ⟨r8, hc8, hf⟩ := e_bind hf
  refine E.callVD [] dX12_behindTest_51 mlX12_259 ⟨hw.sub (p := 0) rfl, e_ov_get hw.1 (p := 0) rfl rfl⟩ rfl rfl (mX12_push hw hc8) ⟨Nat.le_of_ble_eq_true rfl, Nat.le_of_ble_eq_true rfl⟩ rfl rfl (Nat.le_of_ble_eq_true rfl) ⟨Nat.le_refl _, Nat.le_refl _⟩ rfl ?_
  refine E.aload_n 0 dX12_behindTest_54 rfl ?_
  refine E.iload_n 1 dX12_behindTest_55 rfl ?_
  refine E.if_eq dX12_behindTest_56 (fun h => ?_) (fun h => ?_)
  · have hf := e_ift hf h
    refine E.bipush (v := 29) dX12_behindTest_64 (by decide) ?_
    refine E.locals [0] rfl ?_
    exact tX12_behindTest_L66 hw hf
  · have hf := e_iff hf h
    refine E.bipush (v := 28) dX12_behindTest_59 (by decide) ?_
    refine E.goto dX12_behindTest_61 ?_
    refine E.locals [0] rfl ?_
    exact tX12_behindTest_L66 hw hf
def fX12_behindTest_L32 (Fu : Nat) (a_tape : Nat → Int32) (v_taped : Int32) (v_from : Int32) (v_to : Int32) (v_sort : Int32) (v_worth : Int64) (v_fault : Int32) (v_bad : Int32) (v_nCode : Int32) (a_nOp : Nat → Int32) (a_nArg : Nat → Int32) (a_pile : Nat → Int32) (a_pileAt : Nat → Int32) (v_piled : Int32) (v_opened : Int32) (x1 : Int32) (s0 : Int32) : Option (Int32 × Int32 × Int32 × Int32 × Int64 × Int32 × Int32 × Int32 × (Nat → Int32) × (Nat → Int32) × (Nat → Int32) × (Nat → Int32) × Int32 × Int32) := (fX12_settle Fu v_nCode a_nOp a_nArg a_pile a_pileAt v_piled s0).bind fun r7 => (if (x1 : Int32) = 0 then (fX12_behindTest_L47 Fu a_tape v_taped v_from v_to v_sort v_worth v_fault v_bad r7.1 r7.2.1 r7.2.2.1 a_pile a_pileAt r7.2.2.2 v_opened x1 29) else (fX12_behindTest_L47 Fu a_tape v_taped v_from v_to v_sort v_worth v_fault v_bad r7.1 r7.2.1 r7.2.2.1 a_pile a_pileAt r7.2.2.2 v_opened x1 28))
set_option maxHeartbeats 4000000 in
set_option maxRecDepth 100000 in
theorem tX12_behindTest_L32 {G : GT} {b : Nat} {o : Nat} {c0 : Hp} {n : Nat} (hw : e_wf (kM o) n) {v_thrown : Int32} {v_status : Int32} {a_refusals : Nat → Int32} {a_row : Nat → Int32} {a_images : Nat → Int32} {a_isKept : Nat → Int32} {v_nClauses : Int32} {a_nClause : Nat → Int32} {v_nLeaves : Int32} {a_words : Nat → Int64} {a_headWords : Nat → Int64} {v_law : Int32} {a_set : Nat → Int64} {a_rest : Nat → Int64} {v_broken : Int32} {v_value : Int64} {v_sum : Int64} {a_chances : Nat → Int32} {a_votes : Nat → Int64} {a_costs : Nat → Int32} {a_table : Nat → Int64} {a_prices : Nat → Int32} {v_surely : Int64} {a_mostBy : Nat → Int64} {a_leastBy : Nat → Int64} {v_between : Int64} {v_steadyWays : Int32} {v_quashed : Int32} {v_but : Int32} {a_figures : Nat → Int32} {a_all : Nat → Int32} {a_lies : Nat → Int32} {a_since : Nat → Int32} {v_last : Int32} {v_state : Int64} {Fu : Nat} {a_tape : Nat → Int32} {v_taped : Int32} {v_from : Int32} {v_to : Int32} {v_sort : Int32} {v_worth : Int64} {v_fault : Int32} {v_bad : Int32} {v_nCode : Int32} {a_nOp : Nat → Int32} {a_nArg : Nat → Int32} {a_pile : Nat → Int32} {a_pileAt : Nat → Int32} {v_piled : Int32} {v_opened : Int32} {x1 : Int32} {s0 : Int32} {R : Int32 × Int32 × Int32 × Int32 × Int64 × Int32 × Int32 × Int32 × (Nat → Int32) × (Nat → Int32) × (Nat → Int32) × (Nat → Int32) × Int32 × Int32} (hf : fX12_behindTest_L32 Fu a_tape v_taped v_from v_to v_sort v_worth v_fault v_bad v_nCode a_nOp a_nArg a_pile a_pileAt v_piled v_opened x1 s0 = some R) : E G b yX12_behindTest cX12_behindTest 2 (some .int) (e_rm 3 0 0) e_X0 (e_Z G b (pD (some (.int R.1)) (e_ov (kM o) (wM G b o v_thrown v_status a_refusals a_row a_images a_isKept a_tape v_taped R.2.1 R.2.2.1 R.2.2.2.1 R.2.2.2.2.1 R.2.2.2.2.2.1 R.2.2.2.2.2.2.1 v_nClauses a_nClause R.2.2.2.2.2.2.2.1 R.2.2.2.2.2.2.2.2.1 R.2.2.2.2.2.2.2.2.2.1 v_nLeaves R.2.2.2.2.2.2.2.2.2.2.1 R.2.2.2.2.2.2.2.2.2.2.2.1 R.2.2.2.2.2.2.2.2.2.2.2.2.1 R.2.2.2.2.2.2.2.2.2.2.2.2.2 a_words a_headWords v_law a_set a_rest v_broken v_value v_sum a_chances a_votes a_costs a_table a_prices v_surely a_mostBy a_leastBy v_between v_steadyWays v_quashed v_but a_figures a_all a_lies a_since v_last v_state) c0) n) 0 0) 32 [(0, .ref (b + o)), (1, .int x1)] [.int s0, .ref (b + o)] (e_ov (kM o) (wM G b o v_thrown v_status a_refusals a_row a_images a_isKept a_tape v_taped v_from v_to v_sort v_worth v_fault v_bad v_nClauses a_nClause v_nCode a_nOp a_nArg v_nLeaves a_pile a_pileAt v_piled v_opened a_words a_headWords v_law a_set a_rest v_broken v_value v_sum a_chances a_votes a_costs a_table a_prices v_surely a_mostBy a_leastBy v_between v_steadyWays v_quashed v_but a_figures a_all a_lies a_since v_last v_state) c0) n 0 0 := by
  unfold fX12_behindTest_L32 at hf
  obtain ⟨r7, hc7, hf⟩ := e_bind hf
  refine E.callVD [] dX12_behindTest_32 mlX12_286 ⟨hw.sub (p := 0) rfl, e_ov_get hw.1 (p := 0) rfl rfl⟩ rfl rfl (mX12_settle hw hc7) ⟨Nat.le_of_ble_eq_true rfl, Nat.le_of_ble_eq_true rfl⟩ rfl rfl (Nat.le_of_ble_eq_true rfl) ⟨Nat.le_refl _, Nat.le_refl _⟩ rfl ?_
  refine E.aload_n 0 dX12_behindTest_35 rfl ?_
  refine E.iload_n 1 dX12_behindTest_36 rfl ?_
  refine E.if_eq dX12_behindTest_37 (fun h => ?_) (fun h => ?_)
  · have hf := e_ift hf h
    refine E.bipush (v := 29) dX12_behindTest_45 (by decide) ?_
    exact tX12_behindTest_L47 hw hf
  · have hf := e_iff hf h
    refine E.bipush (v := 28) dX12_behindTest_40 (by decide) ?_
    refine E.goto dX12_behindTest_42 ?_
    exact tX12_behindTest_L47 hw hf
def fX12_behindTest_L22 (Fu : Nat) (a_tape : Nat → Int32) (v_taped : Int32) (v_from : Int32) (v_to : Int32) (v_sort : Int32) (v_worth : Int64) (v_fault : Int32) (v_bad : Int32) (v_nCode : Int32) (a_nOp : Nat → Int32) (a_nArg : Nat → Int32) (a_pile : Nat → Int32) (a_pileAt : Nat → Int32) (v_piled : Int32) (v_opened : Int32) (x1 : Int32) : Option (Int32 × Int32 × Int32 × Int32 × Int64 × Int32 × Int32 × Int32 × (Nat → Int32) × (Nat → Int32) × (Nat → Int32) × (Nat → Int32) × Int32 × Int32) := if (x1 : Int32) = 0 then (fX12_behindTest_L32 Fu a_tape v_taped v_from v_to v_sort v_worth v_fault v_bad v_nCode a_nOp a_nArg a_pile a_pileAt v_piled v_opened x1 1) else (fX12_behindTest_L32 Fu a_tape v_taped v_from v_to v_sort v_worth v_fault v_bad v_nCode a_nOp a_nArg a_pile a_pileAt v_piled v_opened x1 2)
set_option maxHeartbeats 4000000 in
set_option maxRecDepth 100000 in
theorem tX12_behindTest_L22 {G : GT} {b : Nat} {o : Nat} {c0 : Hp} {n : Nat} (hw : e_wf (kM o) n) {v_thrown : Int32} {v_status : Int32} {a_refusals : Nat → Int32} {a_row : Nat → Int32} {a_images : Nat → Int32} {a_isKept : Nat → Int32} {v_nClauses : Int32} {a_nClause : Nat → Int32} {v_nLeaves : Int32} {a_words : Nat → Int64} {a_headWords : Nat → Int64} {v_law : Int32} {a_set : Nat → Int64} {a_rest : Nat → Int64} {v_broken : Int32} {v_value : Int64} {v_sum : Int64} {a_chances : Nat → Int32} {a_votes : Nat → Int64} {a_costs : Nat → Int32} {a_table : Nat → Int64} {a_prices : Nat → Int32} {v_surely : Int64} {a_mostBy : Nat → Int64} {a_leastBy : Nat → Int64} {v_between : Int64} {v_steadyWays : Int32} {v_quashed : Int32} {v_but : Int32} {a_figures : Nat → Int32} {a_all : Nat → Int32} {a_lies : Nat → Int32} {a_since : Nat → Int32} {v_last : Int32} {v_state : Int64} {Fu : Nat} {a_tape : Nat → Int32} {v_taped : Int32} {v_from : Int32} {v_to : Int32} {v_sort : Int32} {v_worth : Int64} {v_fault : Int32} {v_bad : Int32} {v_nCode : Int32} {a_nOp : Nat → Int32} {a_nArg : Nat → Int32} {a_pile : Nat → Int32} {a_pileAt : Nat → Int32} {v_piled : Int32} {v_opened : Int32} {x1 : Int32} {R : Int32 × Int32 × Int32 × Int32 × Int64 × Int32 × Int32 × Int32 × (Nat → Int32) × (Nat → Int32) × (Nat → Int32) × (Nat → Int32) × Int32 × Int32} (hf : fX12_behindTest_L22 Fu a_tape v_taped v_from v_to v_sort v_worth v_fault v_bad v_nCode a_nOp a_nArg a_pile a_pileAt v_piled v_opened x1 = some R) : E G b yX12_behindTest cX12_behindTest 2 (some .int) (e_rm 3 0 0) e_X0 (e_Z G b (pD (some (.int R.1)) (e_ov (kM o) (wM G b o v_thrown v_status a_refusals a_row a_images a_isKept a_tape v_taped R.2.1 R.2.2.1 R.2.2.2.1 R.2.2.2.2.1 R.2.2.2.2.2.1 R.2.2.2.2.2.2.1 v_nClauses a_nClause R.2.2.2.2.2.2.2.1 R.2.2.2.2.2.2.2.2.1 R.2.2.2.2.2.2.2.2.2.1 v_nLeaves R.2.2.2.2.2.2.2.2.2.2.1 R.2.2.2.2.2.2.2.2.2.2.2.1 R.2.2.2.2.2.2.2.2.2.2.2.2.1 R.2.2.2.2.2.2.2.2.2.2.2.2.2 a_words a_headWords v_law a_set a_rest v_broken v_value v_sum a_chances a_votes a_costs a_table a_prices v_surely a_mostBy a_leastBy v_between v_steadyWays v_quashed v_but a_figures a_all a_lies a_since v_last v_state) c0) n) 0 0) 22 [(0, .ref (b + o)), (1, .int x1)] [] (e_ov (kM o) (wM G b o v_thrown v_status a_refusals a_row a_images a_isKept a_tape v_taped v_from v_to v_sort v_worth v_fault v_bad v_nClauses a_nClause v_nCode a_nOp a_nArg v_nLeaves a_pile a_pileAt v_piled v_opened a_words a_headWords v_law a_set a_rest v_broken v_value v_sum a_chances a_votes a_costs a_table a_prices v_surely a_mostBy a_leastBy v_between v_steadyWays v_quashed v_but a_figures a_all a_lies a_since v_last v_state) c0) n 0 0 := by
  unfold fX12_behindTest_L22 at hf
  refine E.aload_n 0 dX12_behindTest_22 rfl ?_
  refine E.iload_n 1 dX12_behindTest_23 rfl ?_
  refine E.if_eq dX12_behindTest_24 (fun h => ?_) (fun h => ?_)
  · have hf := e_ift hf h
    refine E.iconst (v := 1) dX12_behindTest_31 (by decide) ?_
    exact tX12_behindTest_L32 hw hf
  · have hf := e_iff hf h
    refine E.iconst (v := 2) dX12_behindTest_27 (by decide) ?_
    refine E.goto dX12_behindTest_28 ?_
    exact tX12_behindTest_L32 hw hf
def fX12_behindTest (Fu : Nat) (a_tape : Nat → Int32) (v_taped : Int32) (v_from : Int32) (v_to : Int32) (v_sort : Int32) (v_worth : Int64) (v_fault : Int32) (v_bad : Int32) (v_nCode : Int32) (a_nOp : Nat → Int32) (a_nArg : Nat → Int32) (a_pile : Nat → Int32) (a_pileAt : Nat → Int32) (v_piled : Int32) (v_opened : Int32) : Option (Int32 × Int32 × Int32 × Int32 × Int64 × Int32 × Int32 × Int32 × (Nat → Int32) × (Nat → Int32) × (Nat → Int32) × (Nat → Int32) × Int32 × Int32) := (fX12_isWord v_sort v_worth 1476).bind fun r1 => (if (r1 : Int32) = 0 then ((fX12_isWord v_sort v_worth 498).bind fun r2 => (if (r2 : Int32) = 0 then ((fX12_inner Fu a_pile v_piled).bind fun r3 => (if (r3 : Int32) = ((-1 : Int32) : Int32) then (some (4, v_from, v_to, v_sort, v_worth, v_fault, v_bad, v_nCode, a_nOp, a_nArg, a_pile, a_pileAt, v_piled, v_opened)) else ((fX12_isSign v_sort v_worth 41).bind fun r4 => ((fX12_must Fu a_tape v_taped v_from v_to v_sort v_worth v_fault v_bad r4).bind fun r5 => (if (r5.2.2.2.2.2 : Int32) = 0 then ((fX12_settle Fu v_nCode a_nOp a_nArg a_pile a_pileAt v_piled 1).bind fun r6 => (some (2, r5.1, r5.2.1, r5.2.2.1, r5.2.2.2.1, r5.2.2.2.2.1, r5.2.2.2.2.2, r6.1, r6.2.1, r6.2.2.1, a_pile, a_pileAt, (r6.2.2.2 - 1), (v_opened - 1)))) else (some (2, r5.1, r5.2.1, r5.2.2.1, r5.2.2.2.1, r5.2.2.2.2.1, r5.2.2.2.2.2, v_nCode, a_nOp, a_nArg, a_pile, a_pileAt, v_piled, v_opened))))))) else (fX12_behindTest_L22 Fu a_tape v_taped v_from v_to v_sort v_worth v_fault v_bad v_nCode a_nOp a_nArg a_pile a_pileAt v_piled v_opened r1))) else (fX12_behindTest_L22 Fu a_tape v_taped v_from v_to v_sort v_worth v_fault v_bad v_nCode a_nOp a_nArg a_pile a_pileAt v_piled v_opened r1))
set_option maxHeartbeats 4000000 in
set_option maxRecDepth 100000 in
theorem tX12_behindTest {G : GT} {b : Nat} {o : Nat} {c0 : Hp} {n : Nat} (hw : e_wf (kM o) n) {v_thrown : Int32} {v_status : Int32} {a_refusals : Nat → Int32} {a_row : Nat → Int32} {a_images : Nat → Int32} {a_isKept : Nat → Int32} {v_nClauses : Int32} {a_nClause : Nat → Int32} {v_nLeaves : Int32} {a_words : Nat → Int64} {a_headWords : Nat → Int64} {v_law : Int32} {a_set : Nat → Int64} {a_rest : Nat → Int64} {v_broken : Int32} {v_value : Int64} {v_sum : Int64} {a_chances : Nat → Int32} {a_votes : Nat → Int64} {a_costs : Nat → Int32} {a_table : Nat → Int64} {a_prices : Nat → Int32} {v_surely : Int64} {a_mostBy : Nat → Int64} {a_leastBy : Nat → Int64} {v_between : Int64} {v_steadyWays : Int32} {v_quashed : Int32} {v_but : Int32} {a_figures : Nat → Int32} {a_all : Nat → Int32} {a_lies : Nat → Int32} {a_since : Nat → Int32} {v_last : Int32} {v_state : Int64} {Fu : Nat} {a_tape : Nat → Int32} {v_taped : Int32} {v_from : Int32} {v_to : Int32} {v_sort : Int32} {v_worth : Int64} {v_fault : Int32} {v_bad : Int32} {v_nCode : Int32} {a_nOp : Nat → Int32} {a_nArg : Nat → Int32} {a_pile : Nat → Int32} {a_pileAt : Nat → Int32} {v_piled : Int32} {v_opened : Int32} {R : Int32 × Int32 × Int32 × Int32 × Int64 × Int32 × Int32 × Int32 × (Nat → Int32) × (Nat → Int32) × (Nat → Int32) × (Nat → Int32) × Int32 × Int32} (hf : fX12_behindTest Fu a_tape v_taped v_from v_to v_sort v_worth v_fault v_bad v_nCode a_nOp a_nArg a_pile a_pileAt v_piled v_opened = some R) : E G b yX12_behindTest cX12_behindTest 2 (some .int) (e_rm 3 0 0) e_X0 (e_Z G b (pD (some (.int R.1)) (e_ov (kM o) (wM G b o v_thrown v_status a_refusals a_row a_images a_isKept a_tape v_taped R.2.1 R.2.2.1 R.2.2.2.1 R.2.2.2.2.1 R.2.2.2.2.2.1 R.2.2.2.2.2.2.1 v_nClauses a_nClause R.2.2.2.2.2.2.2.1 R.2.2.2.2.2.2.2.2.1 R.2.2.2.2.2.2.2.2.2.1 v_nLeaves R.2.2.2.2.2.2.2.2.2.2.1 R.2.2.2.2.2.2.2.2.2.2.2.1 R.2.2.2.2.2.2.2.2.2.2.2.2.1 R.2.2.2.2.2.2.2.2.2.2.2.2.2 a_words a_headWords v_law a_set a_rest v_broken v_value v_sum a_chances a_votes a_costs a_table a_prices v_surely a_mostBy a_leastBy v_between v_steadyWays v_quashed v_but a_figures a_all a_lies a_since v_last v_state) c0) n) 0 0) 0 [(0, .ref (b + o))] [] (e_ov (kM o) (wM G b o v_thrown v_status a_refusals a_row a_images a_isKept a_tape v_taped v_from v_to v_sort v_worth v_fault v_bad v_nClauses a_nClause v_nCode a_nOp a_nArg v_nLeaves a_pile a_pileAt v_piled v_opened a_words a_headWords v_law a_set a_rest v_broken v_value v_sum a_chances a_votes a_costs a_table a_prices v_surely a_mostBy a_leastBy v_between v_steadyWays v_quashed v_but a_figures a_all a_lies a_since v_last v_state) c0) n 0 0 := by
  unfold fX12_behindTest at hf
  refine E.aload_n 0 dX12_behindTest_0 rfl ?_
  refine E.ldc2 dX12_behindTest_1 kX12_296 ?_
  obtain ⟨r1, hc1, hf⟩ := e_bind hf
  refine E.callVD [] dX12_behindTest_4 mlX12_252 ⟨hw.sub (p := 0) rfl, e_ov_get hw.1 (p := 0) rfl rfl⟩ rfl rfl (mX12_isWord hw hc1) ⟨Nat.le_of_ble_eq_true rfl, Nat.le_of_ble_eq_true rfl⟩ rfl rfl (Nat.le_of_ble_eq_true rfl) ⟨Nat.le_refl _, Nat.le_refl _⟩ rfl ?_
  refine E.istore_n (lv' := [(1, .int r1), (0, .ref (b + o))]) dX12_behindTest_7 (by decide) rfl ?_
  refine E.iload_n 0 dX12_behindTest_8 rfl ?_
  refine E.if_ne dX12_behindTest_9 (fun h => ?_) (fun h => ?_)
  · have hf := e_iff hf h
    refine E.locals [1, 0] rfl ?_
    exact tX12_behindTest_L22 hw hf
  · have hf := e_ift hf h
    refine E.aload_n 1 dX12_behindTest_12 rfl ?_
    refine E.ldc2 dX12_behindTest_13 kX12_298 ?_
    obtain ⟨r2, hc2, hf⟩ := e_bind hf
    refine E.callVD [] dX12_behindTest_16 mlX12_252 ⟨hw.sub (p := 0) rfl, e_ov_get hw.1 (p := 0) rfl rfl⟩ rfl rfl (mX12_isWord hw hc2) ⟨Nat.le_of_ble_eq_true rfl, Nat.le_of_ble_eq_true rfl⟩ rfl rfl (Nat.le_of_ble_eq_true rfl) ⟨Nat.le_refl _, Nat.le_refl _⟩ rfl ?_
    refine E.if_eq dX12_behindTest_19 (fun h => ?_) (fun h => ?_)
    · have hf := e_ift hf h
      refine E.aload_n 1 dX12_behindTest_76 rfl ?_
      obtain ⟨r3, hc3, hf⟩ := e_bind hf
      refine E.callVD [] dX12_behindTest_77 mlX12_289 ⟨hw.sub (p := 0) rfl, e_ov_get hw.1 (p := 0) rfl rfl⟩ rfl rfl (mX12_inner hw hc3) ⟨Nat.le_of_ble_eq_true rfl, Nat.le_of_ble_eq_true rfl⟩ rfl rfl (Nat.le_of_ble_eq_true rfl) ⟨Nat.le_refl _, Nat.le_refl _⟩ rfl ?_
      refine E.iconst (v := -1) dX12_behindTest_80 (by decide) ?_
      refine E.icmp_ne dX12_behindTest_81 (fun h => ?_) (fun h => ?_)
      · have hf := e_iff hf h
        refine E.aload_n 1 dX12_behindTest_86 rfl ?_
        refine E.aload_n 1 dX12_behindTest_87 rfl ?_
        refine E.bipush (v := 41) dX12_behindTest_88 (by decide) ?_
        obtain ⟨r4, hc4, hf⟩ := e_bind hf
        refine E.callVD [.ref (b + o)] dX12_behindTest_90 mlX12_265 ⟨hw.sub (p := 0) rfl, e_ov_get hw.1 (p := 0) rfl rfl⟩ rfl rfl (mX12_isSign hw hc4) ⟨Nat.le_of_ble_eq_true rfl, Nat.le_of_ble_eq_true rfl⟩ rfl rfl (Nat.le_of_ble_eq_true rfl) ⟨Nat.le_refl _, Nat.le_refl _⟩ rfl ?_
        obtain ⟨r5, hc5, hf⟩ := e_bind hf
        refine E.callVD [] dX12_behindTest_93 mlX12_229 ⟨hw.sub (p := 0) rfl, e_ov_get hw.1 (p := 0) rfl rfl⟩ rfl rfl (mX12_must hw hc5) ⟨Nat.le_of_ble_eq_true rfl, Nat.le_of_ble_eq_true rfl⟩ rfl rfl (Nat.le_of_ble_eq_true rfl) ⟨Nat.le_refl _, Nat.le_refl _⟩ rfl ?_
        refine E.aload_n 1 dX12_behindTest_96 rfl ?_
        refine E.get hw 0 o dX12_behindTest_97 flX12_194 rfl rfl rfl rfl ?_
        refine E.if_ne dX12_behindTest_100 (fun h => ?_) (fun h => ?_)
        · have hf := e_iff hf h
          refine E.iconst (v := 2) dX12_behindTest_128 (by decide) ?_
          cases hf
          exact E.iret dX12_behindTest_129 (Nat.le_refl _) (Nat.le_refl _) (pD_rf _ _ _)
        · have hf := e_ift hf h
          refine E.aload_n 1 dX12_behindTest_103 rfl ?_
          refine E.iconst (v := 1) dX12_behindTest_104 (by decide) ?_
          obtain ⟨r6, hc6, hf⟩ := e_bind hf
          refine E.callVD [] dX12_behindTest_105 mlX12_286 ⟨hw.sub (p := 0) rfl, e_ov_get hw.1 (p := 0) rfl rfl⟩ rfl rfl (mX12_settle hw hc6) ⟨Nat.le_of_ble_eq_true rfl, Nat.le_of_ble_eq_true rfl⟩ rfl rfl (Nat.le_of_ble_eq_true rfl) ⟨Nat.le_refl _, Nat.le_refl _⟩ rfl ?_
          refine E.aload_n 1 dX12_behindTest_108 rfl ?_
          refine E.dup dX12_behindTest_109 rfl ?_
          refine E.get hw 0 o dX12_behindTest_110 flX12_236 rfl rfl rfl rfl ?_
          refine E.iconst (v := 1) dX12_behindTest_113 (by decide) ?_
          refine E.isub dX12_behindTest_114 ?_
          refine E.put (es' := (wM G b o v_thrown v_status a_refusals a_row a_images a_isKept a_tape v_taped r5.1 r5.2.1 r5.2.2.1 r5.2.2.2.1 r5.2.2.2.2.1 r5.2.2.2.2.2 v_nClauses a_nClause r6.1 r6.2.1 r6.2.2.1 v_nLeaves a_pile a_pileAt (r6.2.2.2 - 1) v_opened a_words a_headWords v_law a_set a_rest v_broken v_value v_sum a_chances a_votes a_costs a_table a_prices v_surely a_mostBy a_leastBy v_between v_steadyWays v_quashed v_but a_figures a_all a_lies a_since v_last v_state)) hw 0 o dX12_behindTest_115 flX12_236 ftX12 rfl rfl rfl rfl rfl rfl (Nat.le_of_ble_eq_true rfl) rfl ?_
          refine E.aload_n 1 dX12_behindTest_118 rfl ?_
          refine E.dup dX12_behindTest_119 rfl ?_
          refine E.get hw 0 o dX12_behindTest_120 flX12_256 rfl rfl rfl rfl ?_
          refine E.iconst (v := 1) dX12_behindTest_123 (by decide) ?_
          refine E.isub dX12_behindTest_124 ?_
          refine E.put (es' := (wM G b o v_thrown v_status a_refusals a_row a_images a_isKept a_tape v_taped r5.1 r5.2.1 r5.2.2.1 r5.2.2.2.1 r5.2.2.2.2.1 r5.2.2.2.2.2 v_nClauses a_nClause r6.1 r6.2.1 r6.2.2.1 v_nLeaves a_pile a_pileAt (r6.2.2.2 - 1) (v_opened - 1) a_words a_headWords v_law a_set a_rest v_broken v_value v_sum a_chances a_votes a_costs a_table a_prices v_surely a_mostBy a_leastBy v_between v_steadyWays v_quashed v_but a_figures a_all a_lies a_since v_last v_state)) hw 0 o dX12_behindTest_125 flX12_256 ftX12 rfl rfl rfl rfl rfl rfl (Nat.le_of_ble_eq_true rfl) rfl ?_
          refine E.iconst (v := 2) dX12_behindTest_128 (by decide) ?_
          cases hf
          exact E.iret dX12_behindTest_129 (Nat.le_refl _) (Nat.le_refl _) (pD_rf _ _ _)
      · have hf := e_ift hf h
        refine E.iconst (v := 4) dX12_behindTest_84 (by decide) ?_
        cases hf
        exact E.iret dX12_behindTest_85 (Nat.le_refl _) (Nat.le_refl _) (pD_rf _ _ _)
    · have hf := e_iff hf h
      refine E.locals [1, 0] rfl ?_
      exact tX12_behindTest_L22 hw hf
set_option maxRecDepth 100000 in
theorem mX12_behindTest {G : GT} {b : Nat} {o : Nat} {c0 : Hp} {n : Nat} (hw : e_wf (kM o) n) {v_thrown : Int32} {v_status : Int32} {a_refusals : Nat → Int32} {a_row : Nat → Int32} {a_images : Nat → Int32} {a_isKept : Nat → Int32} {v_nClauses : Int32} {a_nClause : Nat → Int32} {v_nLeaves : Int32} {a_words : Nat → Int64} {a_headWords : Nat → Int64} {v_law : Int32} {a_set : Nat → Int64} {a_rest : Nat → Int64} {v_broken : Int32} {v_value : Int64} {v_sum : Int64} {a_chances : Nat → Int32} {a_votes : Nat → Int64} {a_costs : Nat → Int32} {a_table : Nat → Int64} {a_prices : Nat → Int32} {v_surely : Int64} {a_mostBy : Nat → Int64} {a_leastBy : Nat → Int64} {v_between : Int64} {v_steadyWays : Int32} {v_quashed : Int32} {v_but : Int32} {a_figures : Nat → Int32} {a_all : Nat → Int32} {a_lies : Nat → Int32} {a_since : Nat → Int32} {v_last : Int32} {v_state : Int64} {Fu : Nat} {a_tape : Nat → Int32} {v_taped : Int32} {v_from : Int32} {v_to : Int32} {v_sort : Int32} {v_worth : Int64} {v_fault : Int32} {v_bad : Int32} {v_nCode : Int32} {a_nOp : Nat → Int32} {a_nArg : Nat → Int32} {a_pile : Nat → Int32} {a_pileAt : Nat → Int32} {v_piled : Int32} {v_opened : Int32} {R : Int32 × Int32 × Int32 × Int32 × Int64 × Int32 × Int32 × Int32 × (Nat → Int32) × (Nat → Int32) × (Nat → Int32) × (Nat → Int32) × Int32 × Int32} (hf : fX12_behindTest Fu a_tape v_taped v_from v_to v_sort v_worth v_fault v_bad v_nCode a_nOp a_nArg a_pile a_pileAt v_piled v_opened = some R) : e_C G b yX12_behindTest cX12_behindTest 2 (some .int) 3 0 0 [.ref (b + o)] (e_ov (kM o) (wM G b o v_thrown v_status a_refusals a_row a_images a_isKept a_tape v_taped v_from v_to v_sort v_worth v_fault v_bad v_nClauses a_nClause v_nCode a_nOp a_nArg v_nLeaves a_pile a_pileAt v_piled v_opened a_words a_headWords v_law a_set a_rest v_broken v_value v_sum a_chances a_votes a_costs a_table a_prices v_surely a_mostBy a_leastBy v_between v_steadyWays v_quashed v_but a_figures a_all a_lies a_since v_last v_state) c0) n (pD (some (.int R.1)) (e_ov (kM o) (wM G b o v_thrown v_status a_refusals a_row a_images a_isKept a_tape v_taped R.2.1 R.2.2.1 R.2.2.2.1 R.2.2.2.2.1 R.2.2.2.2.2.1 R.2.2.2.2.2.2.1 v_nClauses a_nClause R.2.2.2.2.2.2.2.1 R.2.2.2.2.2.2.2.2.1 R.2.2.2.2.2.2.2.2.2.1 v_nLeaves R.2.2.2.2.2.2.2.2.2.2.1 R.2.2.2.2.2.2.2.2.2.2.2.1 R.2.2.2.2.2.2.2.2.2.2.2.2.1 R.2.2.2.2.2.2.2.2.2.2.2.2.2 a_words a_headWords v_law a_set a_rest v_broken v_value v_sum a_chances a_votes a_costs a_table a_prices v_surely a_mostBy a_leastBy v_between v_steadyWays v_quashed v_but a_figures a_all a_lies a_since v_last v_state) c0) n) := e_C.of (by decide) (Nat.le_of_ble_eq_true rfl) (tX12_behindTest hw hf)
def fX12_readExpression_L76 (Fu : Nat) (a_tape : Nat → Int32) (v_taped : Int32) (v_from : Int32) (v_to : Int32) (v_sort : Int32) (v_worth : Int64) (v_fault : Int32) (v_bad : Int32) (v_nCode : Int32) (a_nOp : Nat → Int32) (a_nArg : Nat → Int32) (v_nLeaves : Int32) (a_pile : Nat → Int32) (a_pileAt : Nat → Int32) (v_piled : Int32) (v_opened : Int32) (a_words : Nat → Int64) : Option (Int32 × Int32 × Int32 × Int64 × Int32 × Int32 × Int32 × (Nat → Int32) × (Nat → Int32) × Int32 × (Nat → Int32) × (Nat → Int32) × Int32 × Int32) := (fX12_settle Fu v_nCode a_nOp a_nArg a_pile a_pileAt v_piled 1).bind fun r5 => (some (v_from, v_to, v_sort, v_worth, v_fault, v_bad, r5.1, r5.2.1, r5.2.2.1, v_nLeaves, a_pile, a_pileAt, r5.2.2.2, v_opened))
set_option maxHeartbeats 4000000 in
set_option maxRecDepth 100000 in
theorem tX12_readExpression_L76 {G : GT} {b : Nat} {o : Nat} {c0 : Hp} {n : Nat} (hw : e_wf (kM o) n) {v_thrown : Int32} {v_status : Int32} {a_refusals : Nat → Int32} {a_row : Nat → Int32} {a_images : Nat → Int32} {a_isKept : Nat → Int32} {v_nClauses : Int32} {a_nClause : Nat → Int32} {a_headWords : Nat → Int64} {v_law : Int32} {a_set : Nat → Int64} {a_rest : Nat → Int64} {v_broken : Int32} {v_value : Int64} {v_sum : Int64} {a_chances : Nat → Int32} {a_votes : Nat → Int64} {a_costs : Nat → Int32} {a_table : Nat → Int64} {a_prices : Nat → Int32} {v_surely : Int64} {a_mostBy : Nat → Int64} {a_leastBy : Nat → Int64} {v_between : Int64} {v_steadyWays : Int32} {v_quashed : Int32} {v_but : Int32} {a_figures : Nat → Int32} {a_all : Nat → Int32} {a_lies : Nat → Int32} {a_since : Nat → Int32} {v_last : Int32} {v_state : Int64} {Fu : Nat} {a_tape : Nat → Int32} {v_taped : Int32} {v_from : Int32} {v_to : Int32} {v_sort : Int32} {v_worth : Int64} {v_fault : Int32} {v_bad : Int32} {v_nCode : Int32} {a_nOp : Nat → Int32} {a_nArg : Nat → Int32} {v_nLeaves : Int32} {a_pile : Nat → Int32} {a_pileAt : Nat → Int32} {v_piled : Int32} {v_opened : Int32} {a_words : Nat → Int64} {R : Int32 × Int32 × Int32 × Int64 × Int32 × Int32 × Int32 × (Nat → Int32) × (Nat → Int32) × Int32 × (Nat → Int32) × (Nat → Int32) × Int32 × Int32} (hf : fX12_readExpression_L76 Fu a_tape v_taped v_from v_to v_sort v_worth v_fault v_bad v_nCode a_nOp a_nArg v_nLeaves a_pile a_pileAt v_piled v_opened a_words = some R) : E G b yX12_readExpression cX12_readExpression 3 none (e_rm 6 0 0) e_X0 (e_Z G b (pD none (e_ov (kM o) (wM G b o v_thrown v_status a_refusals a_row a_images a_isKept a_tape v_taped R.1 R.2.1 R.2.2.1 R.2.2.2.1 R.2.2.2.2.1 R.2.2.2.2.2.1 v_nClauses a_nClause R.2.2.2.2.2.2.1 R.2.2.2.2.2.2.2.1 R.2.2.2.2.2.2.2.2.1 R.2.2.2.2.2.2.2.2.2.1 R.2.2.2.2.2.2.2.2.2.2.1 R.2.2.2.2.2.2.2.2.2.2.2.1 R.2.2.2.2.2.2.2.2.2.2.2.2.1 R.2.2.2.2.2.2.2.2.2.2.2.2.2 a_words a_headWords v_law a_set a_rest v_broken v_value v_sum a_chances a_votes a_costs a_table a_prices v_surely a_mostBy a_leastBy v_between v_steadyWays v_quashed v_but a_figures a_all a_lies a_since v_last v_state) c0) n) 0 0) 76 [(0, .ref (b + o))] [] (e_ov (kM o) (wM G b o v_thrown v_status a_refusals a_row a_images a_isKept a_tape v_taped v_from v_to v_sort v_worth v_fault v_bad v_nClauses a_nClause v_nCode a_nOp a_nArg v_nLeaves a_pile a_pileAt v_piled v_opened a_words a_headWords v_law a_set a_rest v_broken v_value v_sum a_chances a_votes a_costs a_table a_prices v_surely a_mostBy a_leastBy v_between v_steadyWays v_quashed v_but a_figures a_all a_lies a_since v_last v_state) c0) n 0 0 := by
  unfold fX12_readExpression_L76 at hf
  refine E.aload_n 0 dX12_readExpression_76 rfl ?_
  refine E.iconst (v := 1) dX12_readExpression_77 (by decide) ?_
  obtain ⟨r5, hc5, hf⟩ := e_bind hf
  refine E.callVD [] dX12_readExpression_78 mlX12_286 ⟨hw.sub (p := 0) rfl, e_ov_get hw.1 (p := 0) rfl rfl⟩ rfl rfl (mX12_settle hw hc5) ⟨Nat.le_of_ble_eq_true rfl, Nat.le_of_ble_eq_true rfl⟩ rfl rfl (Nat.le_of_ble_eq_true rfl) ⟨Nat.le_refl _, Nat.le_refl _⟩ rfl ?_
  cases hf
  exact E.vret dX12_readExpression_81 (Nat.le_refl _) (Nat.le_refl _) (pD_rf _ _ _)
def fX12_readExpression_L20 (Fu : Nat) : Nat → (Nat → Int32) → Int32 → Int32 → Int32 → Int32 → Int64 → Int32 → Int32 → Int32 → (Nat → Int32) → (Nat → Int32) → Int32 → (Nat → Int32) → (Nat → Int32) → Int32 → Int32 → (Nat → Int64) → Int32 → Int32 → Option (Int32 × Int32 × Int32 × Int64 × Int32 × Int32 × Int32 × (Nat → Int32) × (Nat → Int32) × Int32 × (Nat → Int32) × (Nat → Int32) × Int32 × Int32)
  | 0, _, _, _, _, _, _, _, _, _, _, _, _, _, _, _, _, _, _, _ => none
  | k + 1, a_tape, v_taped, v_from, v_to, v_sort, v_worth, v_fault, v_bad, v_nCode, a_nOp, a_nArg, v_nLeaves, a_pile, a_pileAt, v_piled, v_opened, a_words, x1, x2 => if (v_bad : Int32) = 0 then (if (x2 : Int32) = (4 : Int32) then (fX12_readExpression_L76 Fu a_tape v_taped v_from v_to v_sort v_worth v_fault v_bad v_nCode a_nOp a_nArg v_nLeaves a_pile a_pileAt v_piled v_opened a_words) else (if (x2 : Int32) = 0 then ((fX12_readPlain Fu a_tape v_taped v_from v_to v_sort v_worth v_fault v_bad v_nCode a_nOp a_nArg v_nLeaves a_pile a_pileAt v_piled v_opened a_words).bind fun r4 => ((fX12_readExpression_L20 Fu k) a_tape v_taped r4.2.1 r4.2.2.1 r4.2.2.2.1 r4.2.2.2.2.1 r4.2.2.2.2.2.1 r4.2.2.2.2.2.2.1 r4.2.2.2.2.2.2.2.1 r4.2.2.2.2.2.2.2.2.1 r4.2.2.2.2.2.2.2.2.2.1 r4.2.2.2.2.2.2.2.2.2.2.1 r4.2.2.2.2.2.2.2.2.2.2.2.1 r4.2.2.2.2.2.2.2.2.2.2.2.2.1 r4.2.2.2.2.2.2.2.2.2.2.2.2.2.1 r4.2.2.2.2.2.2.2.2.2.2.2.2.2.2 a_words x1 r4.1)) else (if (x2 : Int32) = (1 : Int32) then ((fX12_readPart Fu a_tape v_taped v_from v_to v_sort v_worth v_fault v_bad v_nCode a_nOp a_nArg v_nLeaves a_pile a_pileAt v_piled v_opened a_words).bind fun r3 => ((fX12_readExpression_L20 Fu k) a_tape v_taped r3.2.1 r3.2.2.1 r3.2.2.2.1 r3.2.2.2.2.1 r3.2.2.2.2.2.1 r3.2.2.2.2.2.2.1 r3.2.2.2.2.2.2.2.1 r3.2.2.2.2.2.2.2.2.1 r3.2.2.2.2.2.2.2.2.2.1 r3.2.2.2.2.2.2.2.2.2.2.1 r3.2.2.2.2.2.2.2.2.2.2.2.1 r3.2.2.2.2.2.2.2.2.2.2.2.2.1 r3.2.2.2.2.2.2.2.2.2.2.2.2.2.1 r3.2.2.2.2.2.2.2.2.2.2.2.2.2.2 a_words x1 r3.1)) else (if (x2 : Int32) = (3 : Int32) then ((fX12_behindSum Fu a_tape v_taped v_from v_to v_sort v_worth v_fault v_bad v_nCode a_nOp a_nArg a_pile a_pileAt v_piled v_opened x1).bind fun r2 => ((fX12_readExpression_L20 Fu k) a_tape v_taped r2.2.1 r2.2.2.1 r2.2.2.2.1 r2.2.2.2.2.1 r2.2.2.2.2.2.1 r2.2.2.2.2.2.2.1 r2.2.2.2.2.2.2.2.1 r2.2.2.2.2.2.2.2.2.1 r2.2.2.2.2.2.2.2.2.2.1 v_nLeaves r2.2.2.2.2.2.2.2.2.2.2.1 r2.2.2.2.2.2.2.2.2.2.2.2.1 r2.2.2.2.2.2.2.2.2.2.2.2.2.1 r2.2.2.2.2.2.2.2.2.2.2.2.2.2 a_words x1 r2.1)) else ((fX12_behindTest Fu a_tape v_taped v_from v_to v_sort v_worth v_fault v_bad v_nCode a_nOp a_nArg a_pile a_pileAt v_piled v_opened).bind fun r1 => ((fX12_readExpression_L20 Fu k) a_tape v_taped r1.2.1 r1.2.2.1 r1.2.2.2.1 r1.2.2.2.2.1 r1.2.2.2.2.2.1 r1.2.2.2.2.2.2.1 r1.2.2.2.2.2.2.2.1 r1.2.2.2.2.2.2.2.2.1 r1.2.2.2.2.2.2.2.2.2.1 v_nLeaves r1.2.2.2.2.2.2.2.2.2.2.1 r1.2.2.2.2.2.2.2.2.2.2.2.1 r1.2.2.2.2.2.2.2.2.2.2.2.2.1 r1.2.2.2.2.2.2.2.2.2.2.2.2.2 a_words x1 r1.1)))))) else (fX12_readExpression_L76 Fu a_tape v_taped v_from v_to v_sort v_worth v_fault v_bad v_nCode a_nOp a_nArg v_nLeaves a_pile a_pileAt v_piled v_opened a_words)
set_option maxHeartbeats 4000000 in
set_option maxRecDepth 100000 in
theorem tX12_readExpression_L20 {G : GT} {b : Nat} {o : Nat} {c0 : Hp} {n : Nat} (hw : e_wf (kM o) n) {v_thrown : Int32} {v_status : Int32} {a_refusals : Nat → Int32} {a_row : Nat → Int32} {a_images : Nat → Int32} {a_isKept : Nat → Int32} {v_nClauses : Int32} {a_nClause : Nat → Int32} {a_headWords : Nat → Int64} {v_law : Int32} {a_set : Nat → Int64} {a_rest : Nat → Int64} {v_broken : Int32} {v_value : Int64} {v_sum : Int64} {a_chances : Nat → Int32} {a_votes : Nat → Int64} {a_costs : Nat → Int32} {a_table : Nat → Int64} {a_prices : Nat → Int32} {v_surely : Int64} {a_mostBy : Nat → Int64} {a_leastBy : Nat → Int64} {v_between : Int64} {v_steadyWays : Int32} {v_quashed : Int32} {v_but : Int32} {a_figures : Nat → Int32} {a_all : Nat → Int32} {a_lies : Nat → Int32} {a_since : Nat → Int32} {v_last : Int32} {v_state : Int64} {Fu : Nat} : ∀ (k : Nat) {a_tape : Nat → Int32} {v_taped : Int32} {v_from : Int32} {v_to : Int32} {v_sort : Int32} {v_worth : Int64} {v_fault : Int32} {v_bad : Int32} {v_nCode : Int32} {a_nOp : Nat → Int32} {a_nArg : Nat → Int32} {v_nLeaves : Int32} {a_pile : Nat → Int32} {a_pileAt : Nat → Int32} {v_piled : Int32} {v_opened : Int32} {a_words : Nat → Int64} {x1 : Int32} {x2 : Int32} {R : Int32 × Int32 × Int32 × Int64 × Int32 × Int32 × Int32 × (Nat → Int32) × (Nat → Int32) × Int32 × (Nat → Int32) × (Nat → Int32) × Int32 × Int32}, fX12_readExpression_L20 Fu k a_tape v_taped v_from v_to v_sort v_worth v_fault v_bad v_nCode a_nOp a_nArg v_nLeaves a_pile a_pileAt v_piled v_opened a_words x1 x2 = some R → E G b yX12_readExpression cX12_readExpression 3 none (e_rm 6 0 0) e_X0 (e_Z G b (pD none (e_ov (kM o) (wM G b o v_thrown v_status a_refusals a_row a_images a_isKept a_tape v_taped R.1 R.2.1 R.2.2.1 R.2.2.2.1 R.2.2.2.2.1 R.2.2.2.2.2.1 v_nClauses a_nClause R.2.2.2.2.2.2.1 R.2.2.2.2.2.2.2.1 R.2.2.2.2.2.2.2.2.1 R.2.2.2.2.2.2.2.2.2.1 R.2.2.2.2.2.2.2.2.2.2.1 R.2.2.2.2.2.2.2.2.2.2.2.1 R.2.2.2.2.2.2.2.2.2.2.2.2.1 R.2.2.2.2.2.2.2.2.2.2.2.2.2 a_words a_headWords v_law a_set a_rest v_broken v_value v_sum a_chances a_votes a_costs a_table a_prices v_surely a_mostBy a_leastBy v_between v_steadyWays v_quashed v_but a_figures a_all a_lies a_since v_last v_state) c0) n) 0 0) 20 [(0, .ref (b + o)), (1, .int x1), (2, .int x2)] [] (e_ov (kM o) (wM G b o v_thrown v_status a_refusals a_row a_images a_isKept a_tape v_taped v_from v_to v_sort v_worth v_fault v_bad v_nClauses a_nClause v_nCode a_nOp a_nArg v_nLeaves a_pile a_pileAt v_piled v_opened a_words a_headWords v_law a_set a_rest v_broken v_value v_sum a_chances a_votes a_costs a_table a_prices v_surely a_mostBy a_leastBy v_between v_steadyWays v_quashed v_but a_figures a_all a_lies a_since v_last v_state) c0) n 0 0 := by
  intro k
  induction k with
  | zero =>
    intro _ _ _ _ _ _ _ _ _ _ _ _ _ _ _ _ _ _ _ _ hf
    have hf : (none : Option (Int32 × Int32 × Int32 × Int64 × Int32 × Int32 × Int32 × (Nat → Int32) × (Nat → Int32) × Int32 × (Nat → Int32) × (Nat → Int32) × Int32 × Int32)) = some _ := hf
    cases hf
  | succ k ih =>
    intro a_tape v_taped v_from v_to v_sort v_worth v_fault v_bad v_nCode a_nOp a_nArg v_nLeaves a_pile a_pileAt v_piled v_opened a_words x1 x2 R hf
    rw [fX12_readExpression_L20] at hf
    refine E.aload_n 0 dX12_readExpression_20 rfl ?_
    refine E.get hw 0 o dX12_readExpression_21 flX12_194 rfl rfl rfl rfl ?_
    refine E.if_ne dX12_readExpression_24 (fun h => ?_) (fun h => ?_)
    · have hf := e_iff hf h
      refine E.locals [0] rfl ?_
      exact tX12_readExpression_L76 hw hf
    · have hf := e_ift hf h
      refine E.iload_n 2 dX12_readExpression_27 rfl ?_
      refine E.iconst (v := 4) dX12_readExpression_28 (by decide) ?_
      refine E.icmp_eq dX12_readExpression_29 (fun h => ?_) (fun h => ?_)
      · have hf := e_ift hf h
        refine E.locals [0] rfl ?_
        exact tX12_readExpression_L76 hw hf
      · have hf := e_iff hf h
        refine E.iload_n 2 dX12_readExpression_32 rfl ?_
        refine E.if_ne dX12_readExpression_33 (fun h => ?_) (fun h => ?_)
        · have hf := e_iff hf h
          refine E.iload_n 2 dX12_readExpression_43 rfl ?_
          refine E.iconst (v := 1) dX12_readExpression_44 (by decide) ?_
          refine E.icmp_ne dX12_readExpression_45 (fun h => ?_) (fun h => ?_)
          · have hf := e_iff hf h
            refine E.iload_n 2 dX12_readExpression_55 rfl ?_
            refine E.iconst (v := 3) dX12_readExpression_56 (by decide) ?_
            refine E.icmp_ne dX12_readExpression_57 (fun h => ?_) (fun h => ?_)
            · have hf := e_iff hf h
              refine E.aload_n 0 dX12_readExpression_68 rfl ?_
              obtain ⟨r1, hc1, hf⟩ := e_bind hf
              refine E.callVD [] dX12_readExpression_69 mlX12_307 ⟨hw.sub (p := 0) rfl, e_ov_get hw.1 (p := 0) rfl rfl⟩ rfl rfl (mX12_behindTest hw hc1) ⟨Nat.le_of_ble_eq_true rfl, Nat.le_of_ble_eq_true rfl⟩ rfl rfl (Nat.le_of_ble_eq_true rfl) ⟨Nat.le_refl _, Nat.le_refl _⟩ rfl ?_
              refine E.istore_n (lv' := [(2, .int r1.1), (0, .ref (b + o)), (1, .int x1)]) dX12_readExpression_72 (by decide) rfl ?_
              refine E.goto dX12_readExpression_73 ?_
              refine E.locals [1, 2, 0] rfl ?_
              exact ih hf
            · have hf := e_ift hf h
              refine E.aload_n 0 dX12_readExpression_60 rfl ?_
              refine E.iload_n 1 dX12_readExpression_61 rfl ?_
              obtain ⟨r2, hc2, hf⟩ := e_bind hf
              refine E.callVD [] dX12_readExpression_62 mlX12_303 ⟨hw.sub (p := 0) rfl, e_ov_get hw.1 (p := 0) rfl rfl⟩ rfl rfl (mX12_behindSum hw hc2) ⟨Nat.le_of_ble_eq_true rfl, Nat.le_of_ble_eq_true rfl⟩ rfl rfl (Nat.le_of_ble_eq_true rfl) ⟨Nat.le_refl _, Nat.le_refl _⟩ rfl ?_
              refine E.goto dX12_readExpression_65 ?_
              refine E.istore_n (lv' := [(2, .int r2.1), (0, .ref (b + o)), (1, .int x1)]) dX12_readExpression_72 (by decide) rfl ?_
              refine E.goto dX12_readExpression_73 ?_
              refine E.locals [1, 2, 0] rfl ?_
              exact ih hf
          · have hf := e_ift hf h
            refine E.aload_n 0 dX12_readExpression_48 rfl ?_
            obtain ⟨r3, hc3, hf⟩ := e_bind hf
            refine E.callVD [] dX12_readExpression_49 mlX12_283 ⟨hw.sub (p := 0) rfl, e_ov_get hw.1 (p := 0) rfl rfl⟩ rfl rfl (mX12_readPart hw hc3) ⟨Nat.le_of_ble_eq_true rfl, Nat.le_of_ble_eq_true rfl⟩ rfl rfl (Nat.le_of_ble_eq_true rfl) ⟨Nat.le_refl _, Nat.le_refl _⟩ rfl ?_
            refine E.goto dX12_readExpression_52 ?_
            refine E.istore_n (lv' := [(2, .int r3.1), (0, .ref (b + o)), (1, .int x1)]) dX12_readExpression_72 (by decide) rfl ?_
            refine E.goto dX12_readExpression_73 ?_
            refine E.locals [1, 2, 0] rfl ?_
            exact ih hf
        · have hf := e_ift hf h
          refine E.aload_n 0 dX12_readExpression_36 rfl ?_
          obtain ⟨r4, hc4, hf⟩ := e_bind hf
          refine E.callVD [] dX12_readExpression_37 mlX12_300 ⟨hw.sub (p := 0) rfl, e_ov_get hw.1 (p := 0) rfl rfl⟩ rfl rfl (mX12_readPlain hw hc4) ⟨Nat.le_of_ble_eq_true rfl, Nat.le_of_ble_eq_true rfl⟩ rfl rfl (Nat.le_of_ble_eq_true rfl) ⟨Nat.le_refl _, Nat.le_refl _⟩ rfl ?_
          refine E.goto dX12_readExpression_40 ?_
          refine E.istore_n (lv' := [(2, .int r4.1), (0, .ref (b + o)), (1, .int x1)]) dX12_readExpression_72 (by decide) rfl ?_
          refine E.goto dX12_readExpression_73 ?_
          refine E.locals [1, 2, 0] rfl ?_
          exact ih hf
def fX12_readExpression_L19 (Fu : Nat) (a_tape : Nat → Int32) (v_taped : Int32) (v_from : Int32) (v_to : Int32) (v_sort : Int32) (v_worth : Int64) (v_fault : Int32) (v_bad : Int32) (v_nCode : Int32) (a_nOp : Nat → Int32) (a_nArg : Nat → Int32) (v_nLeaves : Int32) (a_pile : Nat → Int32) (a_pileAt : Nat → Int32) (v_piled : Int32) (v_opened : Int32) (a_words : Nat → Int64) (x1 : Int32) (s0 : Int32) : Option (Int32 × Int32 × Int32 × Int64 × Int32 × Int32 × Int32 × (Nat → Int32) × (Nat → Int32) × Int32 × (Nat → Int32) × (Nat → Int32) × Int32 × Int32) := fX12_readExpression_L20 Fu Fu a_tape v_taped v_from v_to v_sort v_worth v_fault v_bad v_nCode a_nOp a_nArg v_nLeaves a_pile a_pileAt v_piled v_opened a_words x1 s0
set_option maxHeartbeats 4000000 in
set_option maxRecDepth 100000 in
theorem tX12_readExpression_L19 {G : GT} {b : Nat} {o : Nat} {c0 : Hp} {n : Nat} (hw : e_wf (kM o) n) {v_thrown : Int32} {v_status : Int32} {a_refusals : Nat → Int32} {a_row : Nat → Int32} {a_images : Nat → Int32} {a_isKept : Nat → Int32} {v_nClauses : Int32} {a_nClause : Nat → Int32} {a_headWords : Nat → Int64} {v_law : Int32} {a_set : Nat → Int64} {a_rest : Nat → Int64} {v_broken : Int32} {v_value : Int64} {v_sum : Int64} {a_chances : Nat → Int32} {a_votes : Nat → Int64} {a_costs : Nat → Int32} {a_table : Nat → Int64} {a_prices : Nat → Int32} {v_surely : Int64} {a_mostBy : Nat → Int64} {a_leastBy : Nat → Int64} {v_between : Int64} {v_steadyWays : Int32} {v_quashed : Int32} {v_but : Int32} {a_figures : Nat → Int32} {a_all : Nat → Int32} {a_lies : Nat → Int32} {a_since : Nat → Int32} {v_last : Int32} {v_state : Int64} {Fu : Nat} {a_tape : Nat → Int32} {v_taped : Int32} {v_from : Int32} {v_to : Int32} {v_sort : Int32} {v_worth : Int64} {v_fault : Int32} {v_bad : Int32} {v_nCode : Int32} {a_nOp : Nat → Int32} {a_nArg : Nat → Int32} {v_nLeaves : Int32} {a_pile : Nat → Int32} {a_pileAt : Nat → Int32} {v_piled : Int32} {v_opened : Int32} {a_words : Nat → Int64} {x1 : Int32} {s0 : Int32} {R : Int32 × Int32 × Int32 × Int64 × Int32 × Int32 × Int32 × (Nat → Int32) × (Nat → Int32) × Int32 × (Nat → Int32) × (Nat → Int32) × Int32 × Int32} (hf : fX12_readExpression_L19 Fu a_tape v_taped v_from v_to v_sort v_worth v_fault v_bad v_nCode a_nOp a_nArg v_nLeaves a_pile a_pileAt v_piled v_opened a_words x1 s0 = some R) : E G b yX12_readExpression cX12_readExpression 3 none (e_rm 6 0 0) e_X0 (e_Z G b (pD none (e_ov (kM o) (wM G b o v_thrown v_status a_refusals a_row a_images a_isKept a_tape v_taped R.1 R.2.1 R.2.2.1 R.2.2.2.1 R.2.2.2.2.1 R.2.2.2.2.2.1 v_nClauses a_nClause R.2.2.2.2.2.2.1 R.2.2.2.2.2.2.2.1 R.2.2.2.2.2.2.2.2.1 R.2.2.2.2.2.2.2.2.2.1 R.2.2.2.2.2.2.2.2.2.2.1 R.2.2.2.2.2.2.2.2.2.2.2.1 R.2.2.2.2.2.2.2.2.2.2.2.2.1 R.2.2.2.2.2.2.2.2.2.2.2.2.2 a_words a_headWords v_law a_set a_rest v_broken v_value v_sum a_chances a_votes a_costs a_table a_prices v_surely a_mostBy a_leastBy v_between v_steadyWays v_quashed v_but a_figures a_all a_lies a_since v_last v_state) c0) n) 0 0) 19 [(0, .ref (b + o)), (1, .int x1)] [.int s0] (e_ov (kM o) (wM G b o v_thrown v_status a_refusals a_row a_images a_isKept a_tape v_taped v_from v_to v_sort v_worth v_fault v_bad v_nClauses a_nClause v_nCode a_nOp a_nArg v_nLeaves a_pile a_pileAt v_piled v_opened a_words a_headWords v_law a_set a_rest v_broken v_value v_sum a_chances a_votes a_costs a_table a_prices v_surely a_mostBy a_leastBy v_between v_steadyWays v_quashed v_but a_figures a_all a_lies a_since v_last v_state) c0) n 0 0 := by
  unfold fX12_readExpression_L19 at hf
  refine E.istore_n (lv' := [(2, .int s0), (0, .ref (b + o)), (1, .int x1)]) dX12_readExpression_19 (by decide) rfl ?_
  refine E.locals [1, 2, 0] rfl ?_
  exact tX12_readExpression_L20 hw _ hf
def fX12_readExpression (Fu : Nat) (a_tape : Nat → Int32) (v_taped : Int32) (v_from : Int32) (v_to : Int32) (v_sort : Int32) (v_worth : Int64) (v_fault : Int32) (v_bad : Int32) (v_nCode : Int32) (a_nOp : Nat → Int32) (a_nArg : Nat → Int32) (v_nLeaves : Int32) (a_pile : Nat → Int32) (a_pileAt : Nat → Int32) (v_piled : Int32) (v_opened : Int32) (a_words : Nat → Int64) (x1 : Int32) : Option (Int32 × Int32 × Int32 × Int64 × Int32 × Int32 × Int32 × (Nat → Int32) × (Nat → Int32) × Int32 × (Nat → Int32) × (Nat → Int32) × Int32 × Int32) := if (x1 : Int32) = 0 then (fX12_readExpression_L19 Fu a_tape v_taped v_from v_to v_sort v_worth v_fault v_bad v_nCode a_nOp a_nArg v_nLeaves a_pile a_pileAt 0 0 a_words x1 1) else (fX12_readExpression_L19 Fu a_tape v_taped v_from v_to v_sort v_worth v_fault v_bad v_nCode a_nOp a_nArg v_nLeaves a_pile a_pileAt 0 0 a_words x1 0)
set_option maxHeartbeats 4000000 in
set_option maxRecDepth 100000 in
theorem tX12_readExpression {G : GT} {b : Nat} {o : Nat} {c0 : Hp} {n : Nat} (hw : e_wf (kM o) n) {v_thrown : Int32} {v_status : Int32} {a_refusals : Nat → Int32} {a_row : Nat → Int32} {a_images : Nat → Int32} {a_isKept : Nat → Int32} {v_nClauses : Int32} {a_nClause : Nat → Int32} {a_headWords : Nat → Int64} {v_law : Int32} {a_set : Nat → Int64} {a_rest : Nat → Int64} {v_broken : Int32} {v_value : Int64} {v_sum : Int64} {a_chances : Nat → Int32} {a_votes : Nat → Int64} {a_costs : Nat → Int32} {a_table : Nat → Int64} {a_prices : Nat → Int32} {v_surely : Int64} {a_mostBy : Nat → Int64} {a_leastBy : Nat → Int64} {v_between : Int64} {v_steadyWays : Int32} {v_quashed : Int32} {v_but : Int32} {a_figures : Nat → Int32} {a_all : Nat → Int32} {a_lies : Nat → Int32} {a_since : Nat → Int32} {v_last : Int32} {v_state : Int64} {Fu : Nat} {a_tape : Nat → Int32} {v_taped : Int32} {v_from : Int32} {v_to : Int32} {v_sort : Int32} {v_worth : Int64} {v_fault : Int32} {v_bad : Int32} {v_nCode : Int32} {a_nOp : Nat → Int32} {a_nArg : Nat → Int32} {v_nLeaves : Int32} {a_pile : Nat → Int32} {a_pileAt : Nat → Int32} {v_piled : Int32} {v_opened : Int32} {a_words : Nat → Int64} {x1 : Int32} {R : Int32 × Int32 × Int32 × Int64 × Int32 × Int32 × Int32 × (Nat → Int32) × (Nat → Int32) × Int32 × (Nat → Int32) × (Nat → Int32) × Int32 × Int32} (hf : fX12_readExpression Fu a_tape v_taped v_from v_to v_sort v_worth v_fault v_bad v_nCode a_nOp a_nArg v_nLeaves a_pile a_pileAt v_piled v_opened a_words x1 = some R) : E G b yX12_readExpression cX12_readExpression 3 none (e_rm 6 0 0) e_X0 (e_Z G b (pD none (e_ov (kM o) (wM G b o v_thrown v_status a_refusals a_row a_images a_isKept a_tape v_taped R.1 R.2.1 R.2.2.1 R.2.2.2.1 R.2.2.2.2.1 R.2.2.2.2.2.1 v_nClauses a_nClause R.2.2.2.2.2.2.1 R.2.2.2.2.2.2.2.1 R.2.2.2.2.2.2.2.2.1 R.2.2.2.2.2.2.2.2.2.1 R.2.2.2.2.2.2.2.2.2.2.1 R.2.2.2.2.2.2.2.2.2.2.2.1 R.2.2.2.2.2.2.2.2.2.2.2.2.1 R.2.2.2.2.2.2.2.2.2.2.2.2.2 a_words a_headWords v_law a_set a_rest v_broken v_value v_sum a_chances a_votes a_costs a_table a_prices v_surely a_mostBy a_leastBy v_between v_steadyWays v_quashed v_but a_figures a_all a_lies a_since v_last v_state) c0) n) 0 0) 0 [(0, .ref (b + o)), (1, .int x1)] [] (e_ov (kM o) (wM G b o v_thrown v_status a_refusals a_row a_images a_isKept a_tape v_taped v_from v_to v_sort v_worth v_fault v_bad v_nClauses a_nClause v_nCode a_nOp a_nArg v_nLeaves a_pile a_pileAt v_piled v_opened a_words a_headWords v_law a_set a_rest v_broken v_value v_sum a_chances a_votes a_costs a_table a_prices v_surely a_mostBy a_leastBy v_between v_steadyWays v_quashed v_but a_figures a_all a_lies a_since v_last v_state) c0) n 0 0 := by
  unfold fX12_readExpression at hf
  refine E.aload_n 0 dX12_readExpression_0 rfl ?_
  refine E.iconst (v := 0) dX12_readExpression_1 (by decide) ?_
  refine E.put (es' := (wM G b o v_thrown v_status a_refusals a_row a_images a_isKept a_tape v_taped v_from v_to v_sort v_worth v_fault v_bad v_nClauses a_nClause v_nCode a_nOp a_nArg v_nLeaves a_pile a_pileAt 0 v_opened a_words a_headWords v_law a_set a_rest v_broken v_value v_sum a_chances a_votes a_costs a_table a_prices v_surely a_mostBy a_leastBy v_between v_steadyWays v_quashed v_but a_figures a_all a_lies a_since v_last v_state)) hw 0 o dX12_readExpression_2 flX12_236 ftX12 rfl rfl rfl rfl rfl rfl (Nat.le_of_ble_eq_true rfl) rfl ?_
  refine E.aload_n 0 dX12_readExpression_5 rfl ?_
  refine E.iconst (v := 0) dX12_readExpression_6 (by decide) ?_
  refine E.put (es' := (wM G b o v_thrown v_status a_refusals a_row a_images a_isKept a_tape v_taped v_from v_to v_sort v_worth v_fault v_bad v_nClauses a_nClause v_nCode a_nOp a_nArg v_nLeaves a_pile a_pileAt 0 0 a_words a_headWords v_law a_set a_rest v_broken v_value v_sum a_chances a_votes a_costs a_table a_prices v_surely a_mostBy a_leastBy v_between v_steadyWays v_quashed v_but a_figures a_all a_lies a_since v_last v_state)) hw 0 o dX12_readExpression_7 flX12_256 ftX12 rfl rfl rfl rfl rfl rfl (Nat.le_of_ble_eq_true rfl) rfl ?_
  refine E.iload_n 1 dX12_readExpression_10 rfl ?_
  refine E.if_eq dX12_readExpression_11 (fun h => ?_) (fun h => ?_)
  · have hf := e_ift hf h
    refine E.iconst (v := 1) dX12_readExpression_18 (by decide) ?_
    exact tX12_readExpression_L19 hw hf
  · have hf := e_iff hf h
    refine E.iconst (v := 0) dX12_readExpression_14 (by decide) ?_
    refine E.goto dX12_readExpression_15 ?_
    exact tX12_readExpression_L19 hw hf
set_option maxRecDepth 100000 in
theorem mX12_readExpression {G : GT} {b : Nat} {o : Nat} {c0 : Hp} {n : Nat} (hw : e_wf (kM o) n) {v_thrown : Int32} {v_status : Int32} {a_refusals : Nat → Int32} {a_row : Nat → Int32} {a_images : Nat → Int32} {a_isKept : Nat → Int32} {v_nClauses : Int32} {a_nClause : Nat → Int32} {a_headWords : Nat → Int64} {v_law : Int32} {a_set : Nat → Int64} {a_rest : Nat → Int64} {v_broken : Int32} {v_value : Int64} {v_sum : Int64} {a_chances : Nat → Int32} {a_votes : Nat → Int64} {a_costs : Nat → Int32} {a_table : Nat → Int64} {a_prices : Nat → Int32} {v_surely : Int64} {a_mostBy : Nat → Int64} {a_leastBy : Nat → Int64} {v_between : Int64} {v_steadyWays : Int32} {v_quashed : Int32} {v_but : Int32} {a_figures : Nat → Int32} {a_all : Nat → Int32} {a_lies : Nat → Int32} {a_since : Nat → Int32} {v_last : Int32} {v_state : Int64} {Fu : Nat} {a_tape : Nat → Int32} {v_taped : Int32} {v_from : Int32} {v_to : Int32} {v_sort : Int32} {v_worth : Int64} {v_fault : Int32} {v_bad : Int32} {v_nCode : Int32} {a_nOp : Nat → Int32} {a_nArg : Nat → Int32} {v_nLeaves : Int32} {a_pile : Nat → Int32} {a_pileAt : Nat → Int32} {v_piled : Int32} {v_opened : Int32} {a_words : Nat → Int64} {x1 : Int32} {R : Int32 × Int32 × Int32 × Int64 × Int32 × Int32 × Int32 × (Nat → Int32) × (Nat → Int32) × Int32 × (Nat → Int32) × (Nat → Int32) × Int32 × Int32} (hf : fX12_readExpression Fu a_tape v_taped v_from v_to v_sort v_worth v_fault v_bad v_nCode a_nOp a_nArg v_nLeaves a_pile a_pileAt v_piled v_opened a_words x1 = some R) : e_C G b yX12_readExpression cX12_readExpression 3 none 6 0 0 [.ref (b + o), .int x1] (e_ov (kM o) (wM G b o v_thrown v_status a_refusals a_row a_images a_isKept a_tape v_taped v_from v_to v_sort v_worth v_fault v_bad v_nClauses a_nClause v_nCode a_nOp a_nArg v_nLeaves a_pile a_pileAt v_piled v_opened a_words a_headWords v_law a_set a_rest v_broken v_value v_sum a_chances a_votes a_costs a_table a_prices v_surely a_mostBy a_leastBy v_between v_steadyWays v_quashed v_but a_figures a_all a_lies a_since v_last v_state) c0) n (pD none (e_ov (kM o) (wM G b o v_thrown v_status a_refusals a_row a_images a_isKept a_tape v_taped R.1 R.2.1 R.2.2.1 R.2.2.2.1 R.2.2.2.2.1 R.2.2.2.2.2.1 v_nClauses a_nClause R.2.2.2.2.2.2.1 R.2.2.2.2.2.2.2.1 R.2.2.2.2.2.2.2.2.1 R.2.2.2.2.2.2.2.2.2.1 R.2.2.2.2.2.2.2.2.2.2.1 R.2.2.2.2.2.2.2.2.2.2.2.1 R.2.2.2.2.2.2.2.2.2.2.2.2.1 R.2.2.2.2.2.2.2.2.2.2.2.2.2 a_words a_headWords v_law a_set a_rest v_broken v_value v_sum a_chances a_votes a_costs a_table a_prices v_surely a_mostBy a_leastBy v_between v_steadyWays v_quashed v_but a_figures a_all a_lies a_since v_last v_state) c0) n) := e_C.of (by decide) (Nat.le_of_ble_eq_true rfl) (tX12_readExpression hw hf)
def fX12_readClause_L180 (Fu : Nat) (a_tape : Nat → Int32) (v_taped : Int32) (v_from : Int32) (v_to : Int32) (v_sort : Int32) (v_worth : Int64) (v_fault : Int32) (v_bad : Int32) (v_nClauses : Int32) (a_nClause : Nat → Int32) (v_nCode : Int32) (a_nOp : Nat → Int32) (a_nArg : Nat → Int32) (v_nLeaves : Int32) (a_pile : Nat → Int32) (a_pileAt : Nat → Int32) (v_piled : Int32) (v_opened : Int32) (a_words : Nat → Int64) (a_headWords : Nat → Int64) (x2 : Int32) : Option (Int32 × Int32 × Int32 × Int64 × Int32 × Int32 × Int32 × (Nat → Int32) × Int32 × (Nat → Int32) × (Nat → Int32) × Int32 × (Nat → Int32) × (Nat → Int32) × Int32 × Int32) := gd (x2 + 6) 96 (some (v_from, v_to, v_sort, v_worth, v_fault, v_bad, v_nClauses, (va_up a_nClause ((x2 + 6) : Int32).toNatClampNeg v_nCode), v_nCode, a_nOp, a_nArg, v_nLeaves, a_pile, a_pileAt, v_piled, v_opened))
set_option maxHeartbeats 4000000 in
set_option maxRecDepth 100000 in
theorem tX12_readClause_L180 {G : GT} {b : Nat} {o : Nat} {c0 : Hp} {n : Nat} (hw : e_wf (kM o) n) {v_thrown : Int32} {v_status : Int32} {a_refusals : Nat → Int32} {a_row : Nat → Int32} {a_images : Nat → Int32} {a_isKept : Nat → Int32} {v_law : Int32} {a_set : Nat → Int64} {a_rest : Nat → Int64} {v_broken : Int32} {v_value : Int64} {v_sum : Int64} {a_chances : Nat → Int32} {a_votes : Nat → Int64} {a_costs : Nat → Int32} {a_table : Nat → Int64} {a_prices : Nat → Int32} {v_surely : Int64} {a_mostBy : Nat → Int64} {a_leastBy : Nat → Int64} {v_between : Int64} {v_steadyWays : Int32} {v_quashed : Int32} {v_but : Int32} {a_figures : Nat → Int32} {a_all : Nat → Int32} {a_lies : Nat → Int32} {a_since : Nat → Int32} {v_last : Int32} {v_state : Int64} {Fu : Nat} {a_tape : Nat → Int32} {v_taped : Int32} {v_from : Int32} {v_to : Int32} {v_sort : Int32} {v_worth : Int64} {v_fault : Int32} {v_bad : Int32} {v_nClauses : Int32} {a_nClause : Nat → Int32} {v_nCode : Int32} {a_nOp : Nat → Int32} {a_nArg : Nat → Int32} {v_nLeaves : Int32} {a_pile : Nat → Int32} {a_pileAt : Nat → Int32} {v_piled : Int32} {v_opened : Int32} {a_words : Nat → Int64} {a_headWords : Nat → Int64} {x2 : Int32} {R : Int32 × Int32 × Int32 × Int64 × Int32 × Int32 × Int32 × (Nat → Int32) × Int32 × (Nat → Int32) × (Nat → Int32) × Int32 × (Nat → Int32) × (Nat → Int32) × Int32 × Int32} (hf : fX12_readClause_L180 Fu a_tape v_taped v_from v_to v_sort v_worth v_fault v_bad v_nClauses a_nClause v_nCode a_nOp a_nArg v_nLeaves a_pile a_pileAt v_piled v_opened a_words a_headWords x2 = some R) : E G b yX12_readClause cX12_readClause 4 none (e_rm 7 0 0) e_X0 (e_Z G b (pD none (e_ov (kM o) (wM G b o v_thrown v_status a_refusals a_row a_images a_isKept a_tape v_taped R.1 R.2.1 R.2.2.1 R.2.2.2.1 R.2.2.2.2.1 R.2.2.2.2.2.1 R.2.2.2.2.2.2.1 R.2.2.2.2.2.2.2.1 R.2.2.2.2.2.2.2.2.1 R.2.2.2.2.2.2.2.2.2.1 R.2.2.2.2.2.2.2.2.2.2.1 R.2.2.2.2.2.2.2.2.2.2.2.1 R.2.2.2.2.2.2.2.2.2.2.2.2.1 R.2.2.2.2.2.2.2.2.2.2.2.2.2.1 R.2.2.2.2.2.2.2.2.2.2.2.2.2.2.1 R.2.2.2.2.2.2.2.2.2.2.2.2.2.2.2 a_words a_headWords v_law a_set a_rest v_broken v_value v_sum a_chances a_votes a_costs a_table a_prices v_surely a_mostBy a_leastBy v_between v_steadyWays v_quashed v_but a_figures a_all a_lies a_since v_last v_state) c0) n) 0 0) 180 [(0, .ref (b + o)), (2, .int x2)] [] (e_ov (kM o) (wM G b o v_thrown v_status a_refusals a_row a_images a_isKept a_tape v_taped v_from v_to v_sort v_worth v_fault v_bad v_nClauses a_nClause v_nCode a_nOp a_nArg v_nLeaves a_pile a_pileAt v_piled v_opened a_words a_headWords v_law a_set a_rest v_broken v_value v_sum a_chances a_votes a_costs a_table a_prices v_surely a_mostBy a_leastBy v_between v_steadyWays v_quashed v_but a_figures a_all a_lies a_since v_last v_state) c0) n 0 0 := by
  unfold fX12_readClause_L180 at hf
  refine E.aload_n 0 dX12_readClause_180 rfl ?_
  refine E.get hw 0 o dX12_readClause_181 flX12_30 rfl rfl rfl rfl ?_
  refine E.iload_n 1 dX12_readClause_184 rfl ?_
  refine E.bipush (v := 6) dX12_readClause_185 (by decide) ?_
  refine E.iadd dX12_readClause_187 ?_
  refine E.aload_n 0 dX12_readClause_188 rfl ?_
  refine E.get hw 0 o dX12_readClause_189 flX12_233 rfl rfl rfl rfl ?_
  obtain ⟨g13, hf⟩ := gd_some hf
  refine E.iast (es' := (wM G b o v_thrown v_status a_refusals a_row a_images a_isKept a_tape v_taped v_from v_to v_sort v_worth v_fault v_bad v_nClauses (va_up a_nClause ((x2 + 6) : Int32).toNatClampNeg v_nCode) v_nCode a_nOp a_nArg v_nLeaves a_pile a_pileAt v_piled v_opened a_words a_headWords v_law a_set a_rest v_broken v_value v_sum a_chances a_votes a_costs a_table a_prices v_surely a_mostBy a_leastBy v_between v_steadyWays v_quashed v_but a_figures a_all a_lies a_since v_last v_state)) hw 6 (o + 6) dX12_readClause_192 rfl rfl g13 rfl ?_
  cases hf
  exact E.vret dX12_readClause_193 (Nat.le_refl _) (Nat.le_refl _) (pD_rf _ _ _)
def fX12_readClause_L75 (Fu : Nat) : Nat → (Nat → Int32) → Int32 → Int32 → Int32 → Int32 → Int64 → Int32 → Int32 → Int32 → (Nat → Int32) → Int32 → (Nat → Int32) → (Nat → Int32) → Int32 → (Nat → Int32) → (Nat → Int32) → Int32 → Int32 → (Nat → Int64) → (Nat → Int64) → Int32 → Int32 → Int32 → Option (Int32 × Int32 × Int32 × Int64 × Int32 × Int32 × Int32 × (Nat → Int32) × Int32 × (Nat → Int32) × (Nat → Int32) × Int32 × (Nat → Int32) × (Nat → Int32) × Int32 × Int32)
  | 0, _, _, _, _, _, _, _, _, _, _, _, _, _, _, _, _, _, _, _, _, _, _, _ => none
  | k + 1, a_tape, v_taped, v_from, v_to, v_sort, v_worth, v_fault, v_bad, v_nClauses, a_nClause, v_nCode, a_nOp, a_nArg, v_nLeaves, a_pile, a_pileAt, v_piled, v_opened, a_words, a_headWords, x1, x2, x3 => if (8 : Int32) ≤ (x3 : Int32) then (gd x2 96 (gd (x2 + 3) 96 ((fX12_readExpression Fu a_tape v_taped v_from v_to v_sort v_worth v_fault v_bad v_nCode a_nOp a_nArg v_nLeaves a_pile a_pileAt v_piled v_opened a_words 0).bind fun r6 => (gd (x2 + 4) 96 (gd (x2 + 5) 96 (if (r6.2.2.2.2.2.1 : Int32) = 0 then ((fX12_isWord r6.2.2.1 r6.2.2.2.1 294).bind fun r9 => (if (r9 : Int32) = 0 then (fX12_readClause_L180 Fu a_tape v_taped r6.1 r6.2.1 r6.2.2.1 r6.2.2.2.1 r6.2.2.2.2.1 r6.2.2.2.2.2.1 (v_nClauses + 1) (va_up (va_up (va_up (va_up a_nClause (x2 : Int32).toNatClampNeg x1) ((x2 + 3) : Int32).toNatClampNeg v_nCode) ((x2 + 4) : Int32).toNatClampNeg r6.2.2.2.2.2.2.1) ((x2 + 5) : Int32).toNatClampNeg r6.2.2.2.2.2.2.1) r6.2.2.2.2.2.2.1 r6.2.2.2.2.2.2.2.1 r6.2.2.2.2.2.2.2.2.1 r6.2.2.2.2.2.2.2.2.2.1 r6.2.2.2.2.2.2.2.2.2.2.1 r6.2.2.2.2.2.2.2.2.2.2.2.1 r6.2.2.2.2.2.2.2.2.2.2.2.2.1 r6.2.2.2.2.2.2.2.2.2.2.2.2.2 a_words a_headWords x2) else ((fX12_next Fu a_tape v_taped r6.1 r6.2.1 r6.2.2.1 r6.2.2.2.1).bind fun r10 => ((fX12_readExpression Fu a_tape v_taped r10.1 r10.2.1 r10.2.2.1 r10.2.2.2 r6.2.2.2.2.1 r6.2.2.2.2.2.1 r6.2.2.2.2.2.2.1 r6.2.2.2.2.2.2.2.1 r6.2.2.2.2.2.2.2.2.1 r6.2.2.2.2.2.2.2.2.2.1 r6.2.2.2.2.2.2.2.2.2.2.1 r6.2.2.2.2.2.2.2.2.2.2.2.1 r6.2.2.2.2.2.2.2.2.2.2.2.2.1 r6.2.2.2.2.2.2.2.2.2.2.2.2.2 a_words 1).bind fun r11 => (fX12_readClause_L180 Fu a_tape v_taped r11.1 r11.2.1 r11.2.2.1 r11.2.2.2.1 r11.2.2.2.2.1 r11.2.2.2.2.2.1 (v_nClauses + 1) (va_up (va_up (va_up (va_up a_nClause (x2 : Int32).toNatClampNeg x1) ((x2 + 3) : Int32).toNatClampNeg v_nCode) ((x2 + 4) : Int32).toNatClampNeg r6.2.2.2.2.2.2.1) ((x2 + 5) : Int32).toNatClampNeg r6.2.2.2.2.2.2.1) r11.2.2.2.2.2.2.1 r11.2.2.2.2.2.2.2.1 r11.2.2.2.2.2.2.2.2.1 r11.2.2.2.2.2.2.2.2.2.1 r11.2.2.2.2.2.2.2.2.2.2.1 r11.2.2.2.2.2.2.2.2.2.2.2.1 r11.2.2.2.2.2.2.2.2.2.2.2.2.1 r11.2.2.2.2.2.2.2.2.2.2.2.2.2 a_words a_headWords x2))))) else (fX12_readClause_L180 Fu a_tape v_taped r6.1 r6.2.1 r6.2.2.1 r6.2.2.2.1 r6.2.2.2.2.1 r6.2.2.2.2.2.1 (v_nClauses + 1) (va_up (va_up (va_up (va_up a_nClause (x2 : Int32).toNatClampNeg x1) ((x2 + 3) : Int32).toNatClampNeg v_nCode) ((x2 + 4) : Int32).toNatClampNeg r6.2.2.2.2.2.2.1) ((x2 + 5) : Int32).toNatClampNeg r6.2.2.2.2.2.2.1) r6.2.2.2.2.2.2.1 r6.2.2.2.2.2.2.2.1 r6.2.2.2.2.2.2.2.2.1 r6.2.2.2.2.2.2.2.2.2.1 r6.2.2.2.2.2.2.2.2.2.2.1 r6.2.2.2.2.2.2.2.2.2.2.2.1 r6.2.2.2.2.2.2.2.2.2.2.2.2.1 r6.2.2.2.2.2.2.2.2.2.2.2.2.2 a_words a_headWords x2))))))) else (gd (x2 + x3) 96 ((fX12_readClause_L75 Fu k) a_tape v_taped v_from v_to v_sort v_worth v_fault v_bad v_nClauses (va_up a_nClause ((x2 + x3) : Int32).toNatClampNeg 0) v_nCode a_nOp a_nArg v_nLeaves a_pile a_pileAt v_piled v_opened a_words a_headWords x1 x2 (x3 + 1)))
set_option maxHeartbeats 4000000 in
set_option maxRecDepth 100000 in
theorem tX12_readClause_L75 {G : GT} {b : Nat} {o : Nat} {c0 : Hp} {n : Nat} (hw : e_wf (kM o) n) {v_thrown : Int32} {v_status : Int32} {a_refusals : Nat → Int32} {a_row : Nat → Int32} {a_images : Nat → Int32} {a_isKept : Nat → Int32} {v_law : Int32} {a_set : Nat → Int64} {a_rest : Nat → Int64} {v_broken : Int32} {v_value : Int64} {v_sum : Int64} {a_chances : Nat → Int32} {a_votes : Nat → Int64} {a_costs : Nat → Int32} {a_table : Nat → Int64} {a_prices : Nat → Int32} {v_surely : Int64} {a_mostBy : Nat → Int64} {a_leastBy : Nat → Int64} {v_between : Int64} {v_steadyWays : Int32} {v_quashed : Int32} {v_but : Int32} {a_figures : Nat → Int32} {a_all : Nat → Int32} {a_lies : Nat → Int32} {a_since : Nat → Int32} {v_last : Int32} {v_state : Int64} {Fu : Nat} : ∀ (k : Nat) {a_tape : Nat → Int32} {v_taped : Int32} {v_from : Int32} {v_to : Int32} {v_sort : Int32} {v_worth : Int64} {v_fault : Int32} {v_bad : Int32} {v_nClauses : Int32} {a_nClause : Nat → Int32} {v_nCode : Int32} {a_nOp : Nat → Int32} {a_nArg : Nat → Int32} {v_nLeaves : Int32} {a_pile : Nat → Int32} {a_pileAt : Nat → Int32} {v_piled : Int32} {v_opened : Int32} {a_words : Nat → Int64} {a_headWords : Nat → Int64} {x1 : Int32} {x2 : Int32} {x3 : Int32} {R : Int32 × Int32 × Int32 × Int64 × Int32 × Int32 × Int32 × (Nat → Int32) × Int32 × (Nat → Int32) × (Nat → Int32) × Int32 × (Nat → Int32) × (Nat → Int32) × Int32 × Int32}, fX12_readClause_L75 Fu k a_tape v_taped v_from v_to v_sort v_worth v_fault v_bad v_nClauses a_nClause v_nCode a_nOp a_nArg v_nLeaves a_pile a_pileAt v_piled v_opened a_words a_headWords x1 x2 x3 = some R → E G b yX12_readClause cX12_readClause 4 none (e_rm 7 0 0) e_X0 (e_Z G b (pD none (e_ov (kM o) (wM G b o v_thrown v_status a_refusals a_row a_images a_isKept a_tape v_taped R.1 R.2.1 R.2.2.1 R.2.2.2.1 R.2.2.2.2.1 R.2.2.2.2.2.1 R.2.2.2.2.2.2.1 R.2.2.2.2.2.2.2.1 R.2.2.2.2.2.2.2.2.1 R.2.2.2.2.2.2.2.2.2.1 R.2.2.2.2.2.2.2.2.2.2.1 R.2.2.2.2.2.2.2.2.2.2.2.1 R.2.2.2.2.2.2.2.2.2.2.2.2.1 R.2.2.2.2.2.2.2.2.2.2.2.2.2.1 R.2.2.2.2.2.2.2.2.2.2.2.2.2.2.1 R.2.2.2.2.2.2.2.2.2.2.2.2.2.2.2 a_words a_headWords v_law a_set a_rest v_broken v_value v_sum a_chances a_votes a_costs a_table a_prices v_surely a_mostBy a_leastBy v_between v_steadyWays v_quashed v_but a_figures a_all a_lies a_since v_last v_state) c0) n) 0 0) 75 [(0, .ref (b + o)), (1, .int x1), (2, .int x2), (3, .int x3)] [] (e_ov (kM o) (wM G b o v_thrown v_status a_refusals a_row a_images a_isKept a_tape v_taped v_from v_to v_sort v_worth v_fault v_bad v_nClauses a_nClause v_nCode a_nOp a_nArg v_nLeaves a_pile a_pileAt v_piled v_opened a_words a_headWords v_law a_set a_rest v_broken v_value v_sum a_chances a_votes a_costs a_table a_prices v_surely a_mostBy a_leastBy v_between v_steadyWays v_quashed v_but a_figures a_all a_lies a_since v_last v_state) c0) n 0 0 := by
  intro k
  induction k with
  | zero =>
    intro _ _ _ _ _ _ _ _ _ _ _ _ _ _ _ _ _ _ _ _ _ _ _ _ hf
    have hf : (none : Option (Int32 × Int32 × Int32 × Int64 × Int32 × Int32 × Int32 × (Nat → Int32) × Int32 × (Nat → Int32) × (Nat → Int32) × Int32 × (Nat → Int32) × (Nat → Int32) × Int32 × Int32)) = some _ := hf
    cases hf
  | succ k ih =>
    intro a_tape v_taped v_from v_to v_sort v_worth v_fault v_bad v_nClauses a_nClause v_nCode a_nOp a_nArg v_nLeaves a_pile a_pileAt v_piled v_opened a_words a_headWords x1 x2 x3 R hf
    rw [fX12_readClause_L75] at hf
    refine E.iload_n 3 dX12_readClause_75 rfl ?_
    refine E.bipush (v := 8) dX12_readClause_76 (by decide) ?_
    refine E.icmp_ge dX12_readClause_78 (fun h => ?_) (fun h => ?_)
    · have hf := e_ift hf h
      refine E.aload_n 0 dX12_readClause_96 rfl ?_
      refine E.get hw 0 o dX12_readClause_97 flX12_30 rfl rfl rfl rfl ?_
      refine E.iload_n 2 dX12_readClause_100 rfl ?_
      refine E.iload_n 1 dX12_readClause_101 rfl ?_
      obtain ⟨g4, hf⟩ := gd_some hf
      refine E.iast (es' := (wM G b o v_thrown v_status a_refusals a_row a_images a_isKept a_tape v_taped v_from v_to v_sort v_worth v_fault v_bad v_nClauses (va_up a_nClause (x2 : Int32).toNatClampNeg x1) v_nCode a_nOp a_nArg v_nLeaves a_pile a_pileAt v_piled v_opened a_words a_headWords v_law a_set a_rest v_broken v_value v_sum a_chances a_votes a_costs a_table a_prices v_surely a_mostBy a_leastBy v_between v_steadyWays v_quashed v_but a_figures a_all a_lies a_since v_last v_state)) hw 6 (o + 6) dX12_readClause_102 rfl rfl g4 rfl ?_
      refine E.aload_n 0 dX12_readClause_103 rfl ?_
      refine E.dup dX12_readClause_104 rfl ?_
      refine E.get hw 0 o dX12_readClause_105 flX12_310 rfl rfl rfl rfl ?_
      refine E.iconst (v := 1) dX12_readClause_108 (by decide) ?_
      refine E.iadd dX12_readClause_109 ?_
      refine E.put (es' := (wM G b o v_thrown v_status a_refusals a_row a_images a_isKept a_tape v_taped v_from v_to v_sort v_worth v_fault v_bad (v_nClauses + 1) (va_up a_nClause (x2 : Int32).toNatClampNeg x1) v_nCode a_nOp a_nArg v_nLeaves a_pile a_pileAt v_piled v_opened a_words a_headWords v_law a_set a_rest v_broken v_value v_sum a_chances a_votes a_costs a_table a_prices v_surely a_mostBy a_leastBy v_between v_steadyWays v_quashed v_but a_figures a_all a_lies a_since v_last v_state)) hw 0 o dX12_readClause_110 flX12_310 ftX12 rfl rfl rfl rfl rfl rfl (Nat.le_of_ble_eq_true rfl) rfl ?_
      refine E.aload_n 0 dX12_readClause_113 rfl ?_
      refine E.get hw 0 o dX12_readClause_114 flX12_30 rfl rfl rfl rfl ?_
      refine E.iload_n 2 dX12_readClause_117 rfl ?_
      refine E.iconst (v := 3) dX12_readClause_118 (by decide) ?_
      refine E.iadd dX12_readClause_119 ?_
      refine E.aload_n 0 dX12_readClause_120 rfl ?_
      refine E.get hw 0 o dX12_readClause_121 flX12_233 rfl rfl rfl rfl ?_
      obtain ⟨g5, hf⟩ := gd_some hf
      refine E.iast (es' := (wM G b o v_thrown v_status a_refusals a_row a_images a_isKept a_tape v_taped v_from v_to v_sort v_worth v_fault v_bad (v_nClauses + 1) (va_up (va_up a_nClause (x2 : Int32).toNatClampNeg x1) ((x2 + 3) : Int32).toNatClampNeg v_nCode) v_nCode a_nOp a_nArg v_nLeaves a_pile a_pileAt v_piled v_opened a_words a_headWords v_law a_set a_rest v_broken v_value v_sum a_chances a_votes a_costs a_table a_prices v_surely a_mostBy a_leastBy v_between v_steadyWays v_quashed v_but a_figures a_all a_lies a_since v_last v_state)) hw 6 (o + 6) dX12_readClause_124 rfl rfl g5 rfl ?_
      refine E.aload_n 0 dX12_readClause_125 rfl ?_
      refine E.iconst (v := 0) dX12_readClause_126 (by decide) ?_
      obtain ⟨r6, hc6, hf⟩ := e_bind hf
      refine E.callVD [] dX12_readClause_127 mlX12_313 ⟨hw.sub (p := 0) rfl, e_ov_get hw.1 (p := 0) rfl rfl⟩ rfl rfl (mX12_readExpression hw hc6) ⟨Nat.le_of_ble_eq_true rfl, Nat.le_of_ble_eq_true rfl⟩ rfl rfl (Nat.le_of_ble_eq_true rfl) ⟨Nat.le_refl _, Nat.le_refl _⟩ rfl ?_
      refine E.aload_n 0 dX12_readClause_130 rfl ?_
      refine E.get hw 0 o dX12_readClause_131 flX12_30 rfl rfl rfl rfl ?_
      refine E.iload_n 2 dX12_readClause_134 rfl ?_
      refine E.iconst (v := 4) dX12_readClause_135 (by decide) ?_
      refine E.iadd dX12_readClause_136 ?_
      refine E.aload_n 0 dX12_readClause_137 rfl ?_
      refine E.get hw 0 o dX12_readClause_138 flX12_233 rfl rfl rfl rfl ?_
      obtain ⟨g7, hf⟩ := gd_some hf
      refine E.iast (es' := (wM G b o v_thrown v_status a_refusals a_row a_images a_isKept a_tape v_taped r6.1 r6.2.1 r6.2.2.1 r6.2.2.2.1 r6.2.2.2.2.1 r6.2.2.2.2.2.1 (v_nClauses + 1) (va_up (va_up (va_up a_nClause (x2 : Int32).toNatClampNeg x1) ((x2 + 3) : Int32).toNatClampNeg v_nCode) ((x2 + 4) : Int32).toNatClampNeg r6.2.2.2.2.2.2.1) r6.2.2.2.2.2.2.1 r6.2.2.2.2.2.2.2.1 r6.2.2.2.2.2.2.2.2.1 r6.2.2.2.2.2.2.2.2.2.1 r6.2.2.2.2.2.2.2.2.2.2.1 r6.2.2.2.2.2.2.2.2.2.2.2.1 r6.2.2.2.2.2.2.2.2.2.2.2.2.1 r6.2.2.2.2.2.2.2.2.2.2.2.2.2 a_words a_headWords v_law a_set a_rest v_broken v_value v_sum a_chances a_votes a_costs a_table a_prices v_surely a_mostBy a_leastBy v_between v_steadyWays v_quashed v_but a_figures a_all a_lies a_since v_last v_state)) hw 6 (o + 6) dX12_readClause_141 rfl rfl g7 rfl ?_
      refine E.aload_n 0 dX12_readClause_142 rfl ?_
      refine E.get hw 0 o dX12_readClause_143 flX12_30 rfl rfl rfl rfl ?_
      refine E.iload_n 2 dX12_readClause_146 rfl ?_
      refine E.iconst (v := 5) dX12_readClause_147 (by decide) ?_
      refine E.iadd dX12_readClause_148 ?_
      refine E.aload_n 0 dX12_readClause_149 rfl ?_
      refine E.get hw 0 o dX12_readClause_150 flX12_233 rfl rfl rfl rfl ?_
      obtain ⟨g8, hf⟩ := gd_some hf
      refine E.iast (es' := (wM G b o v_thrown v_status a_refusals a_row a_images a_isKept a_tape v_taped r6.1 r6.2.1 r6.2.2.1 r6.2.2.2.1 r6.2.2.2.2.1 r6.2.2.2.2.2.1 (v_nClauses + 1) (va_up (va_up (va_up (va_up a_nClause (x2 : Int32).toNatClampNeg x1) ((x2 + 3) : Int32).toNatClampNeg v_nCode) ((x2 + 4) : Int32).toNatClampNeg r6.2.2.2.2.2.2.1) ((x2 + 5) : Int32).toNatClampNeg r6.2.2.2.2.2.2.1) r6.2.2.2.2.2.2.1 r6.2.2.2.2.2.2.2.1 r6.2.2.2.2.2.2.2.2.1 r6.2.2.2.2.2.2.2.2.2.1 r6.2.2.2.2.2.2.2.2.2.2.1 r6.2.2.2.2.2.2.2.2.2.2.2.1 r6.2.2.2.2.2.2.2.2.2.2.2.2.1 r6.2.2.2.2.2.2.2.2.2.2.2.2.2 a_words a_headWords v_law a_set a_rest v_broken v_value v_sum a_chances a_votes a_costs a_table a_prices v_surely a_mostBy a_leastBy v_between v_steadyWays v_quashed v_but a_figures a_all a_lies a_since v_last v_state)) hw 6 (o + 6) dX12_readClause_153 rfl rfl g8 rfl ?_
      refine E.aload_n 0 dX12_readClause_154 rfl ?_
      refine E.get hw 0 o dX12_readClause_155 flX12_194 rfl rfl rfl rfl ?_
      refine E.if_ne dX12_readClause_158 (fun h => ?_) (fun h => ?_)
      · have hf := e_iff hf h
        refine E.locals [0, 2] rfl ?_
        exact tX12_readClause_L180 hw hf
      · have hf := e_ift hf h
        refine E.aload_n 0 dX12_readClause_161 rfl ?_
        refine E.ldc2 dX12_readClause_162 kX12_316 ?_
        obtain ⟨r9, hc9, hf⟩ := e_bind hf
        refine E.callVD [] dX12_readClause_165 mlX12_252 ⟨hw.sub (p := 0) rfl, e_ov_get hw.1 (p := 0) rfl rfl⟩ rfl rfl (mX12_isWord hw hc9) ⟨Nat.le_of_ble_eq_true rfl, Nat.le_of_ble_eq_true rfl⟩ rfl rfl (Nat.le_of_ble_eq_true rfl) ⟨Nat.le_refl _, Nat.le_refl _⟩ rfl ?_
        refine E.if_eq dX12_readClause_168 (fun h => ?_) (fun h => ?_)
        · have hf := e_ift hf h
          refine E.locals [0, 2] rfl ?_
          exact tX12_readClause_L180 hw hf
        · have hf := e_iff hf h
          refine E.aload_n 0 dX12_readClause_171 rfl ?_
          obtain ⟨r10, hc10, hf⟩ := e_bind hf
          refine E.callVD [] dX12_readClause_172 mlX12_198 ⟨hw.sub (p := 0) rfl, e_ov_get hw.1 (p := 0) rfl rfl⟩ rfl rfl (mX12_next hw hc10) ⟨Nat.le_of_ble_eq_true rfl, Nat.le_of_ble_eq_true rfl⟩ rfl rfl (Nat.le_of_ble_eq_true rfl) ⟨Nat.le_refl _, Nat.le_refl _⟩ rfl ?_
          refine E.aload_n 0 dX12_readClause_175 rfl ?_
          refine E.iconst (v := 1) dX12_readClause_176 (by decide) ?_
          obtain ⟨r11, hc11, hf⟩ := e_bind hf
          refine E.callVD [] dX12_readClause_177 mlX12_313 ⟨hw.sub (p := 0) rfl, e_ov_get hw.1 (p := 0) rfl rfl⟩ rfl rfl (mX12_readExpression hw hc11) ⟨Nat.le_of_ble_eq_true rfl, Nat.le_of_ble_eq_true rfl⟩ rfl rfl (Nat.le_of_ble_eq_true rfl) ⟨Nat.le_refl _, Nat.le_refl _⟩ rfl ?_
          refine E.locals [0, 2] rfl ?_
          exact tX12_readClause_L180 hw hf
    · have hf := e_iff hf h
      refine E.aload_n 0 dX12_readClause_81 rfl ?_
      refine E.get hw 0 o dX12_readClause_82 flX12_30 rfl rfl rfl rfl ?_
      refine E.iload_n 2 dX12_readClause_85 rfl ?_
      refine E.iload_n 3 dX12_readClause_86 rfl ?_
      refine E.iadd dX12_readClause_87 ?_
      refine E.iconst (v := 0) dX12_readClause_88 (by decide) ?_
      obtain ⟨g12, hf⟩ := gd_some hf
      refine E.iast (es' := (wM G b o v_thrown v_status a_refusals a_row a_images a_isKept a_tape v_taped v_from v_to v_sort v_worth v_fault v_bad v_nClauses (va_up a_nClause ((x2 + x3) : Int32).toNatClampNeg 0) v_nCode a_nOp a_nArg v_nLeaves a_pile a_pileAt v_piled v_opened a_words a_headWords v_law a_set a_rest v_broken v_value v_sum a_chances a_votes a_costs a_table a_prices v_surely a_mostBy a_leastBy v_between v_steadyWays v_quashed v_but a_figures a_all a_lies a_since v_last v_state)) hw 6 (o + 6) dX12_readClause_89 rfl rfl g12 rfl ?_
      refine E.iinc (q := 3) (v := (x3 + 1)) (lv' := [(3, .int (x3 + 1)), (0, .ref (b + o)), (1, .int x1), (2, .int x2)]) dX12_readClause_90 rfl rfl (by decide) rfl ?_
      refine E.goto dX12_readClause_93 ?_
      refine E.locals [1, 2, 3, 0] rfl ?_
      exact ih hf
def fX12_readClause_L54 (Fu : Nat) (a_tape : Nat → Int32) (v_taped : Int32) (v_from : Int32) (v_to : Int32) (v_sort : Int32) (v_worth : Int64) (v_fault : Int32) (v_bad : Int32) (v_nClauses : Int32) (a_nClause : Nat → Int32) (v_nCode : Int32) (a_nOp : Nat → Int32) (a_nArg : Nat → Int32) (v_nLeaves : Int32) (a_pile : Nat → Int32) (a_pileAt : Nat → Int32) (v_piled : Int32) (v_opened : Int32) (a_words : Nat → Int64) (a_headWords : Nat → Int64) (x1 : Int32) (s0 : Int32) : Option (Int32 × Int32 × Int32 × Int64 × Int32 × Int32 × Int32 × (Nat → Int32) × Int32 × (Nat → Int32) × (Nat → Int32) × Int32 × (Nat → Int32) × (Nat → Int32) × Int32 × Int32) := (fX12_must Fu a_tape v_taped v_from v_to v_sort v_worth v_fault v_bad s0).bind fun r3 => (if (r3.2.2.2.2.2 : Int32) = 0 then (fX12_readClause_L75 Fu Fu a_tape v_taped r3.1 r3.2.1 r3.2.2.1 r3.2.2.2.1 r3.2.2.2.2.1 r3.2.2.2.2.2 v_nClauses a_nClause v_nCode a_nOp a_nArg v_nLeaves a_pile a_pileAt v_piled v_opened a_words a_headWords x1 (8 * v_nClauses) 0) else (some (r3.1, r3.2.1, r3.2.2.1, r3.2.2.2.1, r3.2.2.2.2.1, r3.2.2.2.2.2, v_nClauses, a_nClause, v_nCode, a_nOp, a_nArg, v_nLeaves, a_pile, a_pileAt, v_piled, v_opened)))
set_option maxHeartbeats 4000000 in
set_option maxRecDepth 100000 in
theorem tX12_readClause_L54 {G : GT} {b : Nat} {o : Nat} {c0 : Hp} {n : Nat} (hw : e_wf (kM o) n) {v_thrown : Int32} {v_status : Int32} {a_refusals : Nat → Int32} {a_row : Nat → Int32} {a_images : Nat → Int32} {a_isKept : Nat → Int32} {v_law : Int32} {a_set : Nat → Int64} {a_rest : Nat → Int64} {v_broken : Int32} {v_value : Int64} {v_sum : Int64} {a_chances : Nat → Int32} {a_votes : Nat → Int64} {a_costs : Nat → Int32} {a_table : Nat → Int64} {a_prices : Nat → Int32} {v_surely : Int64} {a_mostBy : Nat → Int64} {a_leastBy : Nat → Int64} {v_between : Int64} {v_steadyWays : Int32} {v_quashed : Int32} {v_but : Int32} {a_figures : Nat → Int32} {a_all : Nat → Int32} {a_lies : Nat → Int32} {a_since : Nat → Int32} {v_last : Int32} {v_state : Int64} {Fu : Nat} {a_tape : Nat → Int32} {v_taped : Int32} {v_from : Int32} {v_to : Int32} {v_sort : Int32} {v_worth : Int64} {v_fault : Int32} {v_bad : Int32} {v_nClauses : Int32} {a_nClause : Nat → Int32} {v_nCode : Int32} {a_nOp : Nat → Int32} {a_nArg : Nat → Int32} {v_nLeaves : Int32} {a_pile : Nat → Int32} {a_pileAt : Nat → Int32} {v_piled : Int32} {v_opened : Int32} {a_words : Nat → Int64} {a_headWords : Nat → Int64} {x1 : Int32} {s0 : Int32} {R : Int32 × Int32 × Int32 × Int64 × Int32 × Int32 × Int32 × (Nat → Int32) × Int32 × (Nat → Int32) × (Nat → Int32) × Int32 × (Nat → Int32) × (Nat → Int32) × Int32 × Int32} (hf : fX12_readClause_L54 Fu a_tape v_taped v_from v_to v_sort v_worth v_fault v_bad v_nClauses a_nClause v_nCode a_nOp a_nArg v_nLeaves a_pile a_pileAt v_piled v_opened a_words a_headWords x1 s0 = some R) : E G b yX12_readClause cX12_readClause 4 none (e_rm 7 0 0) e_X0 (e_Z G b (pD none (e_ov (kM o) (wM G b o v_thrown v_status a_refusals a_row a_images a_isKept a_tape v_taped R.1 R.2.1 R.2.2.1 R.2.2.2.1 R.2.2.2.2.1 R.2.2.2.2.2.1 R.2.2.2.2.2.2.1 R.2.2.2.2.2.2.2.1 R.2.2.2.2.2.2.2.2.1 R.2.2.2.2.2.2.2.2.2.1 R.2.2.2.2.2.2.2.2.2.2.1 R.2.2.2.2.2.2.2.2.2.2.2.1 R.2.2.2.2.2.2.2.2.2.2.2.2.1 R.2.2.2.2.2.2.2.2.2.2.2.2.2.1 R.2.2.2.2.2.2.2.2.2.2.2.2.2.2.1 R.2.2.2.2.2.2.2.2.2.2.2.2.2.2.2 a_words a_headWords v_law a_set a_rest v_broken v_value v_sum a_chances a_votes a_costs a_table a_prices v_surely a_mostBy a_leastBy v_between v_steadyWays v_quashed v_but a_figures a_all a_lies a_since v_last v_state) c0) n) 0 0) 54 [(0, .ref (b + o)), (1, .int x1)] [.int s0, .ref (b + o)] (e_ov (kM o) (wM G b o v_thrown v_status a_refusals a_row a_images a_isKept a_tape v_taped v_from v_to v_sort v_worth v_fault v_bad v_nClauses a_nClause v_nCode a_nOp a_nArg v_nLeaves a_pile a_pileAt v_piled v_opened a_words a_headWords v_law a_set a_rest v_broken v_value v_sum a_chances a_votes a_costs a_table a_prices v_surely a_mostBy a_leastBy v_between v_steadyWays v_quashed v_but a_figures a_all a_lies a_since v_last v_state) c0) n 0 0 := by
  unfold fX12_readClause_L54 at hf
  obtain ⟨r3, hc3, hf⟩ := e_bind hf
  refine E.callVD [] dX12_readClause_54 mlX12_229 ⟨hw.sub (p := 0) rfl, e_ov_get hw.1 (p := 0) rfl rfl⟩ rfl rfl (mX12_must hw hc3) ⟨Nat.le_of_ble_eq_true rfl, Nat.le_of_ble_eq_true rfl⟩ rfl rfl (Nat.le_of_ble_eq_true rfl) ⟨Nat.le_refl _, Nat.le_refl _⟩ rfl ?_
  refine E.aload_n 0 dX12_readClause_57 rfl ?_
  refine E.get hw 0 o dX12_readClause_58 flX12_194 rfl rfl rfl rfl ?_
  refine E.if_eq dX12_readClause_61 (fun h => ?_) (fun h => ?_)
  · have hf := e_ift hf h
    refine E.bipush (v := 8) dX12_readClause_65 (by decide) ?_
    refine E.aload_n 0 dX12_readClause_67 rfl ?_
    refine E.get hw 0 o dX12_readClause_68 flX12_310 rfl rfl rfl rfl ?_
    refine E.imul dX12_readClause_71 ?_
    refine E.istore_n (lv' := [(2, .int (8 * v_nClauses)), (0, .ref (b + o)), (1, .int x1)]) dX12_readClause_72 (by decide) rfl ?_
    refine E.iconst (v := 0) dX12_readClause_73 (by decide) ?_
    refine E.istore_n (lv' := [(3, .int 0), (2, .int (8 * v_nClauses)), (0, .ref (b + o)), (1, .int x1)]) dX12_readClause_74 (by decide) rfl ?_
    refine E.locals [2, 3, 1, 0] rfl ?_
    exact tX12_readClause_L75 hw _ hf
  · have hf := e_iff hf h
    cases hf
    exact E.vret dX12_readClause_64 (Nat.le_refl _) (Nat.le_refl _) (pD_rf _ _ _)
def fX12_readClause_L53 (Fu : Nat) (a_tape : Nat → Int32) (v_taped : Int32) (v_from : Int32) (v_to : Int32) (v_sort : Int32) (v_worth : Int64) (v_fault : Int32) (v_bad : Int32) (v_nClauses : Int32) (a_nClause : Nat → Int32) (v_nCode : Int32) (a_nOp : Nat → Int32) (a_nArg : Nat → Int32) (v_nLeaves : Int32) (a_pile : Nat → Int32) (a_pileAt : Nat → Int32) (v_piled : Int32) (v_opened : Int32) (a_words : Nat → Int64) (a_headWords : Nat → Int64) (x1 : Int32) : Option (Int32 × Int32 × Int32 × Int64 × Int32 × Int32 × Int32 × (Nat → Int32) × Int32 × (Nat → Int32) × (Nat → Int32) × Int32 × (Nat → Int32) × (Nat → Int32) × Int32 × Int32) := fX12_readClause_L54 Fu a_tape v_taped v_from v_to v_sort v_worth v_fault v_bad v_nClauses a_nClause v_nCode a_nOp a_nArg v_nLeaves a_pile a_pileAt v_piled v_opened a_words a_headWords x1 0
set_option maxHeartbeats 4000000 in
set_option maxRecDepth 100000 in
theorem tX12_readClause_L53 {G : GT} {b : Nat} {o : Nat} {c0 : Hp} {n : Nat} (hw : e_wf (kM o) n) {v_thrown : Int32} {v_status : Int32} {a_refusals : Nat → Int32} {a_row : Nat → Int32} {a_images : Nat → Int32} {a_isKept : Nat → Int32} {v_law : Int32} {a_set : Nat → Int64} {a_rest : Nat → Int64} {v_broken : Int32} {v_value : Int64} {v_sum : Int64} {a_chances : Nat → Int32} {a_votes : Nat → Int64} {a_costs : Nat → Int32} {a_table : Nat → Int64} {a_prices : Nat → Int32} {v_surely : Int64} {a_mostBy : Nat → Int64} {a_leastBy : Nat → Int64} {v_between : Int64} {v_steadyWays : Int32} {v_quashed : Int32} {v_but : Int32} {a_figures : Nat → Int32} {a_all : Nat → Int32} {a_lies : Nat → Int32} {a_since : Nat → Int32} {v_last : Int32} {v_state : Int64} {Fu : Nat} {a_tape : Nat → Int32} {v_taped : Int32} {v_from : Int32} {v_to : Int32} {v_sort : Int32} {v_worth : Int64} {v_fault : Int32} {v_bad : Int32} {v_nClauses : Int32} {a_nClause : Nat → Int32} {v_nCode : Int32} {a_nOp : Nat → Int32} {a_nArg : Nat → Int32} {v_nLeaves : Int32} {a_pile : Nat → Int32} {a_pileAt : Nat → Int32} {v_piled : Int32} {v_opened : Int32} {a_words : Nat → Int64} {a_headWords : Nat → Int64} {x1 : Int32} {R : Int32 × Int32 × Int32 × Int64 × Int32 × Int32 × Int32 × (Nat → Int32) × Int32 × (Nat → Int32) × (Nat → Int32) × Int32 × (Nat → Int32) × (Nat → Int32) × Int32 × Int32} (hf : fX12_readClause_L53 Fu a_tape v_taped v_from v_to v_sort v_worth v_fault v_bad v_nClauses a_nClause v_nCode a_nOp a_nArg v_nLeaves a_pile a_pileAt v_piled v_opened a_words a_headWords x1 = some R) : E G b yX12_readClause cX12_readClause 4 none (e_rm 7 0 0) e_X0 (e_Z G b (pD none (e_ov (kM o) (wM G b o v_thrown v_status a_refusals a_row a_images a_isKept a_tape v_taped R.1 R.2.1 R.2.2.1 R.2.2.2.1 R.2.2.2.2.1 R.2.2.2.2.2.1 R.2.2.2.2.2.2.1 R.2.2.2.2.2.2.2.1 R.2.2.2.2.2.2.2.2.1 R.2.2.2.2.2.2.2.2.2.1 R.2.2.2.2.2.2.2.2.2.2.1 R.2.2.2.2.2.2.2.2.2.2.2.1 R.2.2.2.2.2.2.2.2.2.2.2.2.1 R.2.2.2.2.2.2.2.2.2.2.2.2.2.1 R.2.2.2.2.2.2.2.2.2.2.2.2.2.2.1 R.2.2.2.2.2.2.2.2.2.2.2.2.2.2.2 a_words a_headWords v_law a_set a_rest v_broken v_value v_sum a_chances a_votes a_costs a_table a_prices v_surely a_mostBy a_leastBy v_between v_steadyWays v_quashed v_but a_figures a_all a_lies a_since v_last v_state) c0) n) 0 0) 53 [(0, .ref (b + o)), (1, .int x1)] [.ref (b + o)] (e_ov (kM o) (wM G b o v_thrown v_status a_refusals a_row a_images a_isKept a_tape v_taped v_from v_to v_sort v_worth v_fault v_bad v_nClauses a_nClause v_nCode a_nOp a_nArg v_nLeaves a_pile a_pileAt v_piled v_opened a_words a_headWords v_law a_set a_rest v_broken v_value v_sum a_chances a_votes a_costs a_table a_prices v_surely a_mostBy a_leastBy v_between v_steadyWays v_quashed v_but a_figures a_all a_lies a_since v_last v_state) c0) n 0 0 := by
  unfold fX12_readClause_L53 at hf
  refine E.iconst (v := 0) dX12_readClause_53 (by decide) ?_
  exact tX12_readClause_L54 hw hf
def fX12_readClause_L4 (Fu : Nat) : Nat → (Nat → Int32) → Int32 → Int32 → Int32 → Int32 → Int64 → Int32 → Int32 → Int32 → (Nat → Int32) → Int32 → (Nat → Int32) → (Nat → Int32) → Int32 → (Nat → Int32) → (Nat → Int32) → Int32 → Int32 → (Nat → Int64) → (Nat → Int64) → Int32 → Int32 → Option (Int32 × Int32 × Int32 × Int64 × Int32 × Int32 × Int32 × (Nat → Int32) × Int32 × (Nat → Int32) × (Nat → Int32) × Int32 × (Nat → Int32) × (Nat → Int32) × Int32 × Int32)
  | 0, _, _, _, _, _, _, _, _, _, _, _, _, _, _, _, _, _, _, _, _, _, _ => none
  | k + 1, a_tape, v_taped, v_from, v_to, v_sort, v_worth, v_fault, v_bad, v_nClauses, a_nClause, v_nCode, a_nOp, a_nArg, v_nLeaves, a_pile, a_pileAt, v_piled, v_opened, a_words, a_headWords, x1, x2 => if (3 : Int32) ≤ (x2 : Int32) then (if (x1 : Int32) = ((-1 : Int32) : Int32) then (fX12_readClause_L53 Fu a_tape v_taped v_from v_to v_sort v_worth v_fault v_bad v_nClauses a_nClause v_nCode a_nOp a_nArg v_nLeaves a_pile a_pileAt v_piled v_opened a_words a_headWords x1) else (if (12 : Int32) ≤ (v_nClauses : Int32) then (fX12_readClause_L53 Fu a_tape v_taped v_from v_to v_sort v_worth v_fault v_bad v_nClauses a_nClause v_nCode a_nOp a_nArg v_nLeaves a_pile a_pileAt v_piled v_opened a_words a_headWords x1) else (fX12_readClause_L54 Fu a_tape v_taped v_from v_to v_sort v_worth v_fault v_bad v_nClauses a_nClause v_nCode a_nOp a_nArg v_nLeaves a_pile a_pileAt v_piled v_opened a_words a_headWords x1 1))) else (gd x2 3 ((fX12_isWord v_sort v_worth (a_headWords (x2 : Int32).toNatClampNeg)).bind fun r2 => (if (r2 : Int32) = 0 then ((fX12_readClause_L4 Fu k) a_tape v_taped v_from v_to v_sort v_worth v_fault v_bad v_nClauses a_nClause v_nCode a_nOp a_nArg v_nLeaves a_pile a_pileAt v_piled v_opened a_words a_headWords x1 (x2 + 1)) else ((fX12_readClause_L4 Fu k) a_tape v_taped v_from v_to v_sort v_worth v_fault v_bad v_nClauses a_nClause v_nCode a_nOp a_nArg v_nLeaves a_pile a_pileAt v_piled v_opened a_words a_headWords x2 (x2 + 1)))))
set_option maxHeartbeats 4000000 in
set_option maxRecDepth 100000 in
theorem tX12_readClause_L4 {G : GT} {b : Nat} {o : Nat} {c0 : Hp} {n : Nat} (hw : e_wf (kM o) n) {v_thrown : Int32} {v_status : Int32} {a_refusals : Nat → Int32} {a_row : Nat → Int32} {a_images : Nat → Int32} {a_isKept : Nat → Int32} {v_law : Int32} {a_set : Nat → Int64} {a_rest : Nat → Int64} {v_broken : Int32} {v_value : Int64} {v_sum : Int64} {a_chances : Nat → Int32} {a_votes : Nat → Int64} {a_costs : Nat → Int32} {a_table : Nat → Int64} {a_prices : Nat → Int32} {v_surely : Int64} {a_mostBy : Nat → Int64} {a_leastBy : Nat → Int64} {v_between : Int64} {v_steadyWays : Int32} {v_quashed : Int32} {v_but : Int32} {a_figures : Nat → Int32} {a_all : Nat → Int32} {a_lies : Nat → Int32} {a_since : Nat → Int32} {v_last : Int32} {v_state : Int64} {Fu : Nat} : ∀ (k : Nat) {a_tape : Nat → Int32} {v_taped : Int32} {v_from : Int32} {v_to : Int32} {v_sort : Int32} {v_worth : Int64} {v_fault : Int32} {v_bad : Int32} {v_nClauses : Int32} {a_nClause : Nat → Int32} {v_nCode : Int32} {a_nOp : Nat → Int32} {a_nArg : Nat → Int32} {v_nLeaves : Int32} {a_pile : Nat → Int32} {a_pileAt : Nat → Int32} {v_piled : Int32} {v_opened : Int32} {a_words : Nat → Int64} {a_headWords : Nat → Int64} {x1 : Int32} {x2 : Int32} {R : Int32 × Int32 × Int32 × Int64 × Int32 × Int32 × Int32 × (Nat → Int32) × Int32 × (Nat → Int32) × (Nat → Int32) × Int32 × (Nat → Int32) × (Nat → Int32) × Int32 × Int32}, fX12_readClause_L4 Fu k a_tape v_taped v_from v_to v_sort v_worth v_fault v_bad v_nClauses a_nClause v_nCode a_nOp a_nArg v_nLeaves a_pile a_pileAt v_piled v_opened a_words a_headWords x1 x2 = some R → E G b yX12_readClause cX12_readClause 4 none (e_rm 7 0 0) e_X0 (e_Z G b (pD none (e_ov (kM o) (wM G b o v_thrown v_status a_refusals a_row a_images a_isKept a_tape v_taped R.1 R.2.1 R.2.2.1 R.2.2.2.1 R.2.2.2.2.1 R.2.2.2.2.2.1 R.2.2.2.2.2.2.1 R.2.2.2.2.2.2.2.1 R.2.2.2.2.2.2.2.2.1 R.2.2.2.2.2.2.2.2.2.1 R.2.2.2.2.2.2.2.2.2.2.1 R.2.2.2.2.2.2.2.2.2.2.2.1 R.2.2.2.2.2.2.2.2.2.2.2.2.1 R.2.2.2.2.2.2.2.2.2.2.2.2.2.1 R.2.2.2.2.2.2.2.2.2.2.2.2.2.2.1 R.2.2.2.2.2.2.2.2.2.2.2.2.2.2.2 a_words a_headWords v_law a_set a_rest v_broken v_value v_sum a_chances a_votes a_costs a_table a_prices v_surely a_mostBy a_leastBy v_between v_steadyWays v_quashed v_but a_figures a_all a_lies a_since v_last v_state) c0) n) 0 0) 4 [(0, .ref (b + o)), (1, .int x1), (2, .int x2)] [] (e_ov (kM o) (wM G b o v_thrown v_status a_refusals a_row a_images a_isKept a_tape v_taped v_from v_to v_sort v_worth v_fault v_bad v_nClauses a_nClause v_nCode a_nOp a_nArg v_nLeaves a_pile a_pileAt v_piled v_opened a_words a_headWords v_law a_set a_rest v_broken v_value v_sum a_chances a_votes a_costs a_table a_prices v_surely a_mostBy a_leastBy v_between v_steadyWays v_quashed v_but a_figures a_all a_lies a_since v_last v_state) c0) n 0 0 := by
  intro k
  induction k with
  | zero =>
    intro _ _ _ _ _ _ _ _ _ _ _ _ _ _ _ _ _ _ _ _ _ _ _ hf
    have hf : (none : Option (Int32 × Int32 × Int32 × Int64 × Int32 × Int32 × Int32 × (Nat → Int32) × Int32 × (Nat → Int32) × (Nat → Int32) × Int32 × (Nat → Int32) × (Nat → Int32) × Int32 × Int32)) = some _ := hf
    cases hf
  | succ k ih =>
    intro a_tape v_taped v_from v_to v_sort v_worth v_fault v_bad v_nClauses a_nClause v_nCode a_nOp a_nArg v_nLeaves a_pile a_pileAt v_piled v_opened a_words a_headWords x1 x2 R hf
    rw [fX12_readClause_L4] at hf
    refine E.iload_n 2 dX12_readClause_4 rfl ?_
    refine E.iconst (v := 3) dX12_readClause_5 (by decide) ?_
    refine E.icmp_ge dX12_readClause_6 (fun h => ?_) (fun h => ?_)
    · have hf := e_ift hf h
      refine E.aload_n 0 dX12_readClause_34 rfl ?_
      refine E.iload_n 1 dX12_readClause_35 rfl ?_
      refine E.iconst (v := -1) dX12_readClause_36 (by decide) ?_
      refine E.icmp_eq dX12_readClause_37 (fun h => ?_) (fun h => ?_)
      · have hf := e_ift hf h
        refine E.locals [0, 1] rfl ?_
        exact tX12_readClause_L53 hw hf
      · have hf := e_iff hf h
        refine E.aload_n 0 dX12_readClause_40 rfl ?_
        refine E.get hw 0 o dX12_readClause_41 flX12_310 rfl rfl rfl rfl ?_
        refine E.bipush (v := 12) dX12_readClause_44 (by decide) ?_
        refine E.icmp_ge dX12_readClause_46 (fun h => ?_) (fun h => ?_)
        · have hf := e_ift hf h
          refine E.locals [0, 1] rfl ?_
          exact tX12_readClause_L53 hw hf
        · have hf := e_iff hf h
          refine E.iconst (v := 1) dX12_readClause_49 (by decide) ?_
          refine E.goto dX12_readClause_50 ?_
          refine E.locals [0, 1] rfl ?_
          exact tX12_readClause_L54 hw hf
    · have hf := e_iff hf h
      refine E.aload_n 0 dX12_readClause_9 rfl ?_
      refine E.aload_n 0 dX12_readClause_10 rfl ?_
      refine E.get hw 0 o dX12_readClause_11 flX12_75 rfl rfl rfl rfl ?_
      refine E.iload_n 2 dX12_readClause_14 rfl ?_
      obtain ⟨g1, hf⟩ := gd_some hf
      refine E.lald hw 12 (o + 12) dX12_readClause_15 rfl rfl g1 ?_
      obtain ⟨r2, hc2, hf⟩ := e_bind hf
      refine E.callVD [] dX12_readClause_16 mlX12_252 ⟨hw.sub (p := 0) rfl, e_ov_get hw.1 (p := 0) rfl rfl⟩ rfl rfl (mX12_isWord hw hc2) ⟨Nat.le_of_ble_eq_true rfl, Nat.le_of_ble_eq_true rfl⟩ rfl rfl (Nat.le_of_ble_eq_true rfl) ⟨Nat.le_refl _, Nat.le_refl _⟩ rfl ?_
      refine E.if_eq dX12_readClause_19 (fun h => ?_) (fun h => ?_)
      · have hf := e_ift hf h
        refine E.iload_n 1 dX12_readClause_26 rfl ?_
        refine E.istore_n (lv' := [(1, .int x1), (0, .ref (b + o)), (2, .int x2)]) dX12_readClause_27 (by decide) rfl ?_
        refine E.iinc (q := 2) (v := (x2 + 1)) (lv' := [(2, .int (x2 + 1)), (1, .int x1), (0, .ref (b + o))]) dX12_readClause_28 rfl rfl (by decide) rfl ?_
        refine E.goto dX12_readClause_31 ?_
        refine E.locals [2, 1, 0] rfl ?_
        exact ih hf
      · have hf := e_iff hf h
        refine E.iload_n 2 dX12_readClause_22 rfl ?_
        refine E.goto dX12_readClause_23 ?_
        refine E.istore_n (lv' := [(1, .int x2), (0, .ref (b + o)), (2, .int x2)]) dX12_readClause_27 (by decide) rfl ?_
        refine E.iinc (q := 2) (v := (x2 + 1)) (lv' := [(2, .int (x2 + 1)), (1, .int x2), (0, .ref (b + o))]) dX12_readClause_28 rfl rfl (by decide) rfl ?_
        refine E.goto dX12_readClause_31 ?_
        refine E.locals [2, 1, 0] rfl ?_
        exact ih hf
def fX12_readClause (Fu : Nat) (a_tape : Nat → Int32) (v_taped : Int32) (v_from : Int32) (v_to : Int32) (v_sort : Int32) (v_worth : Int64) (v_fault : Int32) (v_bad : Int32) (v_nClauses : Int32) (a_nClause : Nat → Int32) (v_nCode : Int32) (a_nOp : Nat → Int32) (a_nArg : Nat → Int32) (v_nLeaves : Int32) (a_pile : Nat → Int32) (a_pileAt : Nat → Int32) (v_piled : Int32) (v_opened : Int32) (a_words : Nat → Int64) (a_headWords : Nat → Int64) : Option (Int32 × Int32 × Int32 × Int64 × Int32 × Int32 × Int32 × (Nat → Int32) × Int32 × (Nat → Int32) × (Nat → Int32) × Int32 × (Nat → Int32) × (Nat → Int32) × Int32 × Int32) := fX12_readClause_L4 Fu Fu a_tape v_taped v_from v_to v_sort v_worth v_fault v_bad v_nClauses a_nClause v_nCode a_nOp a_nArg v_nLeaves a_pile a_pileAt v_piled v_opened a_words a_headWords (-1 : Int32) 0
set_option maxHeartbeats 4000000 in
set_option maxRecDepth 100000 in
theorem tX12_readClause {G : GT} {b : Nat} {o : Nat} {c0 : Hp} {n : Nat} (hw : e_wf (kM o) n) {v_thrown : Int32} {v_status : Int32} {a_refusals : Nat → Int32} {a_row : Nat → Int32} {a_images : Nat → Int32} {a_isKept : Nat → Int32} {v_law : Int32} {a_set : Nat → Int64} {a_rest : Nat → Int64} {v_broken : Int32} {v_value : Int64} {v_sum : Int64} {a_chances : Nat → Int32} {a_votes : Nat → Int64} {a_costs : Nat → Int32} {a_table : Nat → Int64} {a_prices : Nat → Int32} {v_surely : Int64} {a_mostBy : Nat → Int64} {a_leastBy : Nat → Int64} {v_between : Int64} {v_steadyWays : Int32} {v_quashed : Int32} {v_but : Int32} {a_figures : Nat → Int32} {a_all : Nat → Int32} {a_lies : Nat → Int32} {a_since : Nat → Int32} {v_last : Int32} {v_state : Int64} {Fu : Nat} {a_tape : Nat → Int32} {v_taped : Int32} {v_from : Int32} {v_to : Int32} {v_sort : Int32} {v_worth : Int64} {v_fault : Int32} {v_bad : Int32} {v_nClauses : Int32} {a_nClause : Nat → Int32} {v_nCode : Int32} {a_nOp : Nat → Int32} {a_nArg : Nat → Int32} {v_nLeaves : Int32} {a_pile : Nat → Int32} {a_pileAt : Nat → Int32} {v_piled : Int32} {v_opened : Int32} {a_words : Nat → Int64} {a_headWords : Nat → Int64} {R : Int32 × Int32 × Int32 × Int64 × Int32 × Int32 × Int32 × (Nat → Int32) × Int32 × (Nat → Int32) × (Nat → Int32) × Int32 × (Nat → Int32) × (Nat → Int32) × Int32 × Int32} (hf : fX12_readClause Fu a_tape v_taped v_from v_to v_sort v_worth v_fault v_bad v_nClauses a_nClause v_nCode a_nOp a_nArg v_nLeaves a_pile a_pileAt v_piled v_opened a_words a_headWords = some R) : E G b yX12_readClause cX12_readClause 4 none (e_rm 7 0 0) e_X0 (e_Z G b (pD none (e_ov (kM o) (wM G b o v_thrown v_status a_refusals a_row a_images a_isKept a_tape v_taped R.1 R.2.1 R.2.2.1 R.2.2.2.1 R.2.2.2.2.1 R.2.2.2.2.2.1 R.2.2.2.2.2.2.1 R.2.2.2.2.2.2.2.1 R.2.2.2.2.2.2.2.2.1 R.2.2.2.2.2.2.2.2.2.1 R.2.2.2.2.2.2.2.2.2.2.1 R.2.2.2.2.2.2.2.2.2.2.2.1 R.2.2.2.2.2.2.2.2.2.2.2.2.1 R.2.2.2.2.2.2.2.2.2.2.2.2.2.1 R.2.2.2.2.2.2.2.2.2.2.2.2.2.2.1 R.2.2.2.2.2.2.2.2.2.2.2.2.2.2.2 a_words a_headWords v_law a_set a_rest v_broken v_value v_sum a_chances a_votes a_costs a_table a_prices v_surely a_mostBy a_leastBy v_between v_steadyWays v_quashed v_but a_figures a_all a_lies a_since v_last v_state) c0) n) 0 0) 0 [(0, .ref (b + o))] [] (e_ov (kM o) (wM G b o v_thrown v_status a_refusals a_row a_images a_isKept a_tape v_taped v_from v_to v_sort v_worth v_fault v_bad v_nClauses a_nClause v_nCode a_nOp a_nArg v_nLeaves a_pile a_pileAt v_piled v_opened a_words a_headWords v_law a_set a_rest v_broken v_value v_sum a_chances a_votes a_costs a_table a_prices v_surely a_mostBy a_leastBy v_between v_steadyWays v_quashed v_but a_figures a_all a_lies a_since v_last v_state) c0) n 0 0 := by
  unfold fX12_readClause at hf
  refine E.iconst (v := -1) dX12_readClause_0 (by decide) ?_
  refine E.istore_n (lv' := [(1, .int (-1 : Int32)), (0, .ref (b + o))]) dX12_readClause_1 (by decide) rfl ?_
  refine E.iconst (v := 0) dX12_readClause_2 (by decide) ?_
  refine E.istore_n (lv' := [(2, .int 0), (1, .int (-1 : Int32)), (0, .ref (b + o))]) dX12_readClause_3 (by decide) rfl ?_
  refine E.locals [2, 1, 0] rfl ?_
  exact tX12_readClause_L4 hw _ hf
set_option maxRecDepth 100000 in
theorem mX12_readClause {G : GT} {b : Nat} {o : Nat} {c0 : Hp} {n : Nat} (hw : e_wf (kM o) n) {v_thrown : Int32} {v_status : Int32} {a_refusals : Nat → Int32} {a_row : Nat → Int32} {a_images : Nat → Int32} {a_isKept : Nat → Int32} {v_law : Int32} {a_set : Nat → Int64} {a_rest : Nat → Int64} {v_broken : Int32} {v_value : Int64} {v_sum : Int64} {a_chances : Nat → Int32} {a_votes : Nat → Int64} {a_costs : Nat → Int32} {a_table : Nat → Int64} {a_prices : Nat → Int32} {v_surely : Int64} {a_mostBy : Nat → Int64} {a_leastBy : Nat → Int64} {v_between : Int64} {v_steadyWays : Int32} {v_quashed : Int32} {v_but : Int32} {a_figures : Nat → Int32} {a_all : Nat → Int32} {a_lies : Nat → Int32} {a_since : Nat → Int32} {v_last : Int32} {v_state : Int64} {Fu : Nat} {a_tape : Nat → Int32} {v_taped : Int32} {v_from : Int32} {v_to : Int32} {v_sort : Int32} {v_worth : Int64} {v_fault : Int32} {v_bad : Int32} {v_nClauses : Int32} {a_nClause : Nat → Int32} {v_nCode : Int32} {a_nOp : Nat → Int32} {a_nArg : Nat → Int32} {v_nLeaves : Int32} {a_pile : Nat → Int32} {a_pileAt : Nat → Int32} {v_piled : Int32} {v_opened : Int32} {a_words : Nat → Int64} {a_headWords : Nat → Int64} {R : Int32 × Int32 × Int32 × Int64 × Int32 × Int32 × Int32 × (Nat → Int32) × Int32 × (Nat → Int32) × (Nat → Int32) × Int32 × (Nat → Int32) × (Nat → Int32) × Int32 × Int32} (hf : fX12_readClause Fu a_tape v_taped v_from v_to v_sort v_worth v_fault v_bad v_nClauses a_nClause v_nCode a_nOp a_nArg v_nLeaves a_pile a_pileAt v_piled v_opened a_words a_headWords = some R) : e_C G b yX12_readClause cX12_readClause 4 none 7 0 0 [.ref (b + o)] (e_ov (kM o) (wM G b o v_thrown v_status a_refusals a_row a_images a_isKept a_tape v_taped v_from v_to v_sort v_worth v_fault v_bad v_nClauses a_nClause v_nCode a_nOp a_nArg v_nLeaves a_pile a_pileAt v_piled v_opened a_words a_headWords v_law a_set a_rest v_broken v_value v_sum a_chances a_votes a_costs a_table a_prices v_surely a_mostBy a_leastBy v_between v_steadyWays v_quashed v_but a_figures a_all a_lies a_since v_last v_state) c0) n (pD none (e_ov (kM o) (wM G b o v_thrown v_status a_refusals a_row a_images a_isKept a_tape v_taped R.1 R.2.1 R.2.2.1 R.2.2.2.1 R.2.2.2.2.1 R.2.2.2.2.2.1 R.2.2.2.2.2.2.1 R.2.2.2.2.2.2.2.1 R.2.2.2.2.2.2.2.2.1 R.2.2.2.2.2.2.2.2.2.1 R.2.2.2.2.2.2.2.2.2.2.1 R.2.2.2.2.2.2.2.2.2.2.2.1 R.2.2.2.2.2.2.2.2.2.2.2.2.1 R.2.2.2.2.2.2.2.2.2.2.2.2.2.1 R.2.2.2.2.2.2.2.2.2.2.2.2.2.2.1 R.2.2.2.2.2.2.2.2.2.2.2.2.2.2.2 a_words a_headWords v_law a_set a_rest v_broken v_value v_sum a_chances a_votes a_costs a_table a_prices v_surely a_mostBy a_leastBy v_between v_steadyWays v_quashed v_but a_figures a_all a_lies a_since v_last v_state) c0) n) := e_C.of (by decide) (Nat.le_of_ble_eq_true rfl) (tX12_readClause hw hf)
def fX12_law_L180 (Fu : Nat) : Nat → Int32 → Int32 → (Nat → Int32) → (Nat → Int32) → (Nat → Int32) → Int32 → Int32 → Int32 → Int32 → Int64 → Int32 → Int32 → Int32 → (Nat → Int32) → Int32 → (Nat → Int32) → (Nat → Int32) → Int32 → (Nat → Int32) → (Nat → Int32) → Int32 → Int32 → (Nat → Int64) → (Nat → Int64) → Int32 → Int32 → Option (Int32 × Int32 × Int32 × (Nat → Int32) × (Nat → Int32) × Int32 × Int32 × Int32 × Int32 × Int64 × Int32 × Int32 × Int32 × (Nat → Int32) × Int32 × (Nat → Int32) × (Nat → Int32) × Int32 × (Nat → Int32) × (Nat → Int32) × Int32 × Int32)
  | 0, _, _, _, _, _, _, _, _, _, _, _, _, _, _, _, _, _, _, _, _, _, _, _, _, _, _ => none
  | k + 1, v_thrown, v_status, a_refusals, a_row, a_tape, v_taped, v_from, v_to, v_sort, v_worth, v_fault, v_bad, v_nClauses, a_nClause, v_nCode, a_nOp, a_nArg, v_nLeaves, a_pile, a_pileAt, v_piled, v_opened, a_words, a_headWords, x1, x2 => if (v_nCode : Int32) ≤ (x2 : Int32) then (gd 2 5570 (gd 2 5570 (gd 2 5570 ((fX12_tell v_status a_refusals (((va_up a_row (2 : Int32).toNatClampNeg ((a_row (2 : Int32).toNatClampNeg) + 1)) (2 : Int32).toNatClampNeg) - 1)).bind fun r17 => (some (r17.1, v_thrown, r17.2.1, r17.2.2, (va_up a_row (2 : Int32).toNatClampNeg ((a_row (2 : Int32).toNatClampNeg) + 1)), v_taped, v_from, v_to, v_sort, v_worth, v_fault, v_bad, v_nClauses, a_nClause, v_nCode, a_nOp, a_nArg, v_nLeaves, a_pile, a_pileAt, v_piled, v_opened)))))) else (gd x2 400 (gd ((x1 + 98) + (2 * x2)) 5570 (gd x2 400 (gd (((x1 + 98) + (2 * x2)) + 1) 5570 ((fX12_law_L180 Fu k) v_thrown v_status a_refusals (va_up (va_up a_row (((x1 + 98) + (2 * x2)) : Int32).toNatClampNeg (a_nOp (x2 : Int32).toNatClampNeg)) ((((x1 + 98) + (2 * x2)) + 1) : Int32).toNatClampNeg (a_nArg (x2 : Int32).toNatClampNeg)) a_tape v_taped v_from v_to v_sort v_worth v_fault v_bad v_nClauses a_nClause v_nCode a_nOp a_nArg v_nLeaves a_pile a_pileAt v_piled v_opened a_words a_headWords x1 (x2 + 1))))))
set_option maxHeartbeats 4000000 in
set_option maxRecDepth 100000 in
theorem tX12_law_L180 {G : GT} {b : Nat} {o : Nat} {c0 : Hp} {n : Nat} (hw : e_wf (kM o) n) {a_images : Nat → Int32} {a_isKept : Nat → Int32} {v_law : Int32} {a_set : Nat → Int64} {a_rest : Nat → Int64} {v_broken : Int32} {v_value : Int64} {v_sum : Int64} {a_chances : Nat → Int32} {a_votes : Nat → Int64} {a_costs : Nat → Int32} {a_table : Nat → Int64} {a_prices : Nat → Int32} {v_surely : Int64} {a_mostBy : Nat → Int64} {a_leastBy : Nat → Int64} {v_between : Int64} {v_steadyWays : Int32} {v_quashed : Int32} {v_but : Int32} {a_figures : Nat → Int32} {a_all : Nat → Int32} {a_lies : Nat → Int32} {a_since : Nat → Int32} {v_last : Int32} {v_state : Int64} {Fu : Nat} : ∀ (k : Nat) {v_thrown : Int32} {v_status : Int32} {a_refusals : Nat → Int32} {a_row : Nat → Int32} {a_tape : Nat → Int32} {v_taped : Int32} {v_from : Int32} {v_to : Int32} {v_sort : Int32} {v_worth : Int64} {v_fault : Int32} {v_bad : Int32} {v_nClauses : Int32} {a_nClause : Nat → Int32} {v_nCode : Int32} {a_nOp : Nat → Int32} {a_nArg : Nat → Int32} {v_nLeaves : Int32} {a_pile : Nat → Int32} {a_pileAt : Nat → Int32} {v_piled : Int32} {v_opened : Int32} {a_words : Nat → Int64} {a_headWords : Nat → Int64} {x1 : Int32} {x2 : Int32} {R : Int32 × Int32 × Int32 × (Nat → Int32) × (Nat → Int32) × Int32 × Int32 × Int32 × Int32 × Int64 × Int32 × Int32 × Int32 × (Nat → Int32) × Int32 × (Nat → Int32) × (Nat → Int32) × Int32 × (Nat → Int32) × (Nat → Int32) × Int32 × Int32}, fX12_law_L180 Fu k v_thrown v_status a_refusals a_row a_tape v_taped v_from v_to v_sort v_worth v_fault v_bad v_nClauses a_nClause v_nCode a_nOp a_nArg v_nLeaves a_pile a_pileAt v_piled v_opened a_words a_headWords x1 x2 = some R → E G b yX12_law cX12_law 3 (some .int) (e_rm 8 0 0) e_X0 (e_Z G b (pD (some (.int R.1)) (e_ov (kM o) (wM G b o R.2.1 R.2.2.1 R.2.2.2.1 R.2.2.2.2.1 a_images a_isKept a_tape R.2.2.2.2.2.1 R.2.2.2.2.2.2.1 R.2.2.2.2.2.2.2.1 R.2.2.2.2.2.2.2.2.1 R.2.2.2.2.2.2.2.2.2.1 R.2.2.2.2.2.2.2.2.2.2.1 R.2.2.2.2.2.2.2.2.2.2.2.1 R.2.2.2.2.2.2.2.2.2.2.2.2.1 R.2.2.2.2.2.2.2.2.2.2.2.2.2.1 R.2.2.2.2.2.2.2.2.2.2.2.2.2.2.1 R.2.2.2.2.2.2.2.2.2.2.2.2.2.2.2.1 R.2.2.2.2.2.2.2.2.2.2.2.2.2.2.2.2.1 R.2.2.2.2.2.2.2.2.2.2.2.2.2.2.2.2.2.1 R.2.2.2.2.2.2.2.2.2.2.2.2.2.2.2.2.2.2.1 R.2.2.2.2.2.2.2.2.2.2.2.2.2.2.2.2.2.2.2.1 R.2.2.2.2.2.2.2.2.2.2.2.2.2.2.2.2.2.2.2.2.1 R.2.2.2.2.2.2.2.2.2.2.2.2.2.2.2.2.2.2.2.2.2 a_words a_headWords v_law a_set a_rest v_broken v_value v_sum a_chances a_votes a_costs a_table a_prices v_surely a_mostBy a_leastBy v_between v_steadyWays v_quashed v_but a_figures a_all a_lies a_since v_last v_state) c0) n) 0 0) 180 [(0, .ref (b + o)), (1, .int x1), (2, .int x2)] [] (e_ov (kM o) (wM G b o v_thrown v_status a_refusals a_row a_images a_isKept a_tape v_taped v_from v_to v_sort v_worth v_fault v_bad v_nClauses a_nClause v_nCode a_nOp a_nArg v_nLeaves a_pile a_pileAt v_piled v_opened a_words a_headWords v_law a_set a_rest v_broken v_value v_sum a_chances a_votes a_costs a_table a_prices v_surely a_mostBy a_leastBy v_between v_steadyWays v_quashed v_but a_figures a_all a_lies a_since v_last v_state) c0) n 0 0 := by
  intro k
  induction k with
  | zero =>
    intro _ _ _ _ _ _ _ _ _ _ _ _ _ _ _ _ _ _ _ _ _ _ _ _ _ _ _ hf
    have hf : (none : Option (Int32 × Int32 × Int32 × (Nat → Int32) × (Nat → Int32) × Int32 × Int32 × Int32 × Int32 × Int64 × Int32 × Int32 × Int32 × (Nat → Int32) × Int32 × (Nat → Int32) × (Nat → Int32) × Int32 × (Nat → Int32) × (Nat → Int32) × Int32 × Int32)) = some _ := hf
    cases hf
  | succ k ih =>
    intro v_thrown v_status a_refusals a_row a_tape v_taped v_from v_to v_sort v_worth v_fault v_bad v_nClauses a_nClause v_nCode a_nOp a_nArg v_nLeaves a_pile a_pileAt v_piled v_opened a_words a_headWords x1 x2 R hf
    rw [fX12_law_L180] at hf
    refine E.iload_n 2 dX12_law_180 rfl ?_
    refine E.aload_n 0 dX12_law_181 rfl ?_
    refine E.get hw 0 o dX12_law_182 flX12_233 rfl rfl rfl rfl ?_
    refine E.icmp_ge dX12_law_185 (fun h => ?_) (fun h => ?_)
    · have hf := e_ift hf h
      refine E.aload_n 0 dX12_law_234 rfl ?_
      refine E.get hw 0 o dX12_law_235 flX12_13 rfl rfl rfl rfl ?_
      refine E.iconst (v := 2) dX12_law_238 (by decide) ?_
      refine E.dup2_11 dX12_law_239 rfl rfl ?_
      obtain ⟨g14, hf⟩ := gd_some hf
      refine E.iald hw 2 (o + 2) dX12_law_240 rfl rfl g14 ?_
      refine E.iconst (v := 1) dX12_law_241 (by decide) ?_
      refine E.iadd dX12_law_242 ?_
      obtain ⟨g15, hf⟩ := gd_some hf
      refine E.iast (es' := (wM G b o v_thrown v_status a_refusals (va_up a_row (2 : Int32).toNatClampNeg ((a_row (2 : Int32).toNatClampNeg) + 1)) a_images a_isKept a_tape v_taped v_from v_to v_sort v_worth v_fault v_bad v_nClauses a_nClause v_nCode a_nOp a_nArg v_nLeaves a_pile a_pileAt v_piled v_opened a_words a_headWords v_law a_set a_rest v_broken v_value v_sum a_chances a_votes a_costs a_table a_prices v_surely a_mostBy a_leastBy v_between v_steadyWays v_quashed v_but a_figures a_all a_lies a_since v_last v_state)) hw 2 (o + 2) dX12_law_243 rfl rfl g15 rfl ?_
      refine E.aload_n 0 dX12_law_244 rfl ?_
      refine E.aload_n 0 dX12_law_245 rfl ?_
      refine E.get hw 0 o dX12_law_246 flX12_13 rfl rfl rfl rfl ?_
      refine E.iconst (v := 2) dX12_law_249 (by decide) ?_
      obtain ⟨g16, hf⟩ := gd_some hf
      refine E.iald hw 2 (o + 2) dX12_law_250 rfl rfl g16 ?_
      refine E.iconst (v := 1) dX12_law_251 (by decide) ?_
      refine E.isub dX12_law_252 ?_
      obtain ⟨r17, hc17, hf⟩ := e_bind hf
      refine E.callVD [] dX12_law_253 mlX12_138 ⟨hw.sub (p := 0) rfl, e_ov_get hw.1 (p := 0) rfl rfl⟩ rfl rfl (mX12_tell hw hc17) ⟨Nat.le_of_ble_eq_true rfl, Nat.le_of_ble_eq_true rfl⟩ rfl rfl (Nat.le_of_ble_eq_true rfl) ⟨Nat.le_refl _, Nat.le_refl _⟩ rfl ?_
      cases hf
      exact E.iret dX12_law_256 (Nat.le_refl _) (Nat.le_refl _) (pD_rf _ _ _)
    · have hf := e_iff hf h
      refine E.aload_n 0 dX12_law_188 rfl ?_
      refine E.get hw 0 o dX12_law_189 flX12_13 rfl rfl rfl rfl ?_
      refine E.iload_n 1 dX12_law_192 rfl ?_
      refine E.bipush (v := 98) dX12_law_193 (by decide) ?_
      refine E.iadd dX12_law_195 ?_
      refine E.iconst (v := 2) dX12_law_196 (by decide) ?_
      refine E.iload_n 2 dX12_law_197 rfl ?_
      refine E.imul dX12_law_198 ?_
      refine E.iadd dX12_law_199 ?_
      refine E.aload_n 0 dX12_law_200 rfl ?_
      refine E.get hw 0 o dX12_law_201 flX12_33 rfl rfl rfl rfl ?_
      refine E.iload_n 2 dX12_law_204 rfl ?_
      obtain ⟨g18, hf⟩ := gd_some hf
      refine E.iald hw 7 (o + 7) dX12_law_205 rfl rfl g18 ?_
      obtain ⟨g19, hf⟩ := gd_some hf
      refine E.iast (es' := (wM G b o v_thrown v_status a_refusals (va_up a_row (((x1 + 98) + (2 * x2)) : Int32).toNatClampNeg (a_nOp (x2 : Int32).toNatClampNeg)) a_images a_isKept a_tape v_taped v_from v_to v_sort v_worth v_fault v_bad v_nClauses a_nClause v_nCode a_nOp a_nArg v_nLeaves a_pile a_pileAt v_piled v_opened a_words a_headWords v_law a_set a_rest v_broken v_value v_sum a_chances a_votes a_costs a_table a_prices v_surely a_mostBy a_leastBy v_between v_steadyWays v_quashed v_but a_figures a_all a_lies a_since v_last v_state)) hw 2 (o + 2) dX12_law_206 rfl rfl g19 rfl ?_
      refine E.aload_n 0 dX12_law_207 rfl ?_
      refine E.get hw 0 o dX12_law_208 flX12_13 rfl rfl rfl rfl ?_
      refine E.iload_n 1 dX12_law_211 rfl ?_
      refine E.bipush (v := 98) dX12_law_212 (by decide) ?_
      refine E.iadd dX12_law_214 ?_
      refine E.iconst (v := 2) dX12_law_215 (by decide) ?_
      refine E.iload_n 2 dX12_law_216 rfl ?_
      refine E.imul dX12_law_217 ?_
      refine E.iadd dX12_law_218 ?_
      refine E.iconst (v := 1) dX12_law_219 (by decide) ?_
      refine E.iadd dX12_law_220 ?_
      refine E.aload_n 0 dX12_law_221 rfl ?_
      refine E.get hw 0 o dX12_law_222 flX12_36 rfl rfl rfl rfl ?_
      refine E.iload_n 2 dX12_law_225 rfl ?_
      obtain ⟨g20, hf⟩ := gd_some hf
      refine E.iald hw 8 (o + 8) dX12_law_226 rfl rfl g20 ?_
      obtain ⟨g21, hf⟩ := gd_some hf
      refine E.iast (es' := (wM G b o v_thrown v_status a_refusals (va_up (va_up a_row (((x1 + 98) + (2 * x2)) : Int32).toNatClampNeg (a_nOp (x2 : Int32).toNatClampNeg)) ((((x1 + 98) + (2 * x2)) + 1) : Int32).toNatClampNeg (a_nArg (x2 : Int32).toNatClampNeg)) a_images a_isKept a_tape v_taped v_from v_to v_sort v_worth v_fault v_bad v_nClauses a_nClause v_nCode a_nOp a_nArg v_nLeaves a_pile a_pileAt v_piled v_opened a_words a_headWords v_law a_set a_rest v_broken v_value v_sum a_chances a_votes a_costs a_table a_prices v_surely a_mostBy a_leastBy v_between v_steadyWays v_quashed v_but a_figures a_all a_lies a_since v_last v_state)) hw 2 (o + 2) dX12_law_227 rfl rfl g21 rfl ?_
      refine E.iinc (q := 2) (v := (x2 + 1)) (lv' := [(2, .int (x2 + 1)), (0, .ref (b + o)), (1, .int x1)]) dX12_law_228 rfl rfl (by decide) rfl ?_
      refine E.goto dX12_law_231 ?_
      refine E.locals [1, 2, 0] rfl ?_
      exact ih hf
def fX12_law_L145 (Fu : Nat) : Nat → Int32 → Int32 → (Nat → Int32) → (Nat → Int32) → (Nat → Int32) → Int32 → Int32 → Int32 → Int32 → Int64 → Int32 → Int32 → Int32 → (Nat → Int32) → Int32 → (Nat → Int32) → (Nat → Int32) → Int32 → (Nat → Int32) → (Nat → Int32) → Int32 → Int32 → (Nat → Int64) → (Nat → Int64) → Int32 → Int32 → Option (Int32 × Int32 × Int32 × (Nat → Int32) × (Nat → Int32) × Int32 × Int32 × Int32 × Int32 × Int64 × Int32 × Int32 × Int32 × (Nat → Int32) × Int32 × (Nat → Int32) × (Nat → Int32) × Int32 × (Nat → Int32) × (Nat → Int32) × Int32 × Int32)
  | 0, _, _, _, _, _, _, _, _, _, _, _, _, _, _, _, _, _, _, _, _, _, _, _, _, _, _ => none
  | k + 1, v_thrown, v_status, a_refusals, a_row, a_tape, v_taped, v_from, v_to, v_sort, v_worth, v_fault, v_bad, v_nClauses, a_nClause, v_nCode, a_nOp, a_nArg, v_nLeaves, a_pile, a_pileAt, v_piled, v_opened, a_words, a_headWords, x1, x2 => if ((8 * v_nClauses) : Int32) ≤ (x2 : Int32) then (fX12_law_L180 Fu Fu v_thrown v_status a_refusals a_row a_tape v_taped v_from v_to v_sort v_worth v_fault v_bad v_nClauses a_nClause v_nCode a_nOp a_nArg v_nLeaves a_pile a_pileAt v_piled v_opened a_words a_headWords x1 0) else (gd x2 96 (gd ((x1 + 2) + x2) 5570 ((fX12_law_L145 Fu k) v_thrown v_status a_refusals (va_up a_row (((x1 + 2) + x2) : Int32).toNatClampNeg (a_nClause (x2 : Int32).toNatClampNeg)) a_tape v_taped v_from v_to v_sort v_worth v_fault v_bad v_nClauses a_nClause v_nCode a_nOp a_nArg v_nLeaves a_pile a_pileAt v_piled v_opened a_words a_headWords x1 (x2 + 1))))
set_option maxHeartbeats 4000000 in
set_option maxRecDepth 100000 in
theorem tX12_law_L145 {G : GT} {b : Nat} {o : Nat} {c0 : Hp} {n : Nat} (hw : e_wf (kM o) n) {a_images : Nat → Int32} {a_isKept : Nat → Int32} {v_law : Int32} {a_set : Nat → Int64} {a_rest : Nat → Int64} {v_broken : Int32} {v_value : Int64} {v_sum : Int64} {a_chances : Nat → Int32} {a_votes : Nat → Int64} {a_costs : Nat → Int32} {a_table : Nat → Int64} {a_prices : Nat → Int32} {v_surely : Int64} {a_mostBy : Nat → Int64} {a_leastBy : Nat → Int64} {v_between : Int64} {v_steadyWays : Int32} {v_quashed : Int32} {v_but : Int32} {a_figures : Nat → Int32} {a_all : Nat → Int32} {a_lies : Nat → Int32} {a_since : Nat → Int32} {v_last : Int32} {v_state : Int64} {Fu : Nat} : ∀ (k : Nat) {v_thrown : Int32} {v_status : Int32} {a_refusals : Nat → Int32} {a_row : Nat → Int32} {a_tape : Nat → Int32} {v_taped : Int32} {v_from : Int32} {v_to : Int32} {v_sort : Int32} {v_worth : Int64} {v_fault : Int32} {v_bad : Int32} {v_nClauses : Int32} {a_nClause : Nat → Int32} {v_nCode : Int32} {a_nOp : Nat → Int32} {a_nArg : Nat → Int32} {v_nLeaves : Int32} {a_pile : Nat → Int32} {a_pileAt : Nat → Int32} {v_piled : Int32} {v_opened : Int32} {a_words : Nat → Int64} {a_headWords : Nat → Int64} {x1 : Int32} {x2 : Int32} {R : Int32 × Int32 × Int32 × (Nat → Int32) × (Nat → Int32) × Int32 × Int32 × Int32 × Int32 × Int64 × Int32 × Int32 × Int32 × (Nat → Int32) × Int32 × (Nat → Int32) × (Nat → Int32) × Int32 × (Nat → Int32) × (Nat → Int32) × Int32 × Int32}, fX12_law_L145 Fu k v_thrown v_status a_refusals a_row a_tape v_taped v_from v_to v_sort v_worth v_fault v_bad v_nClauses a_nClause v_nCode a_nOp a_nArg v_nLeaves a_pile a_pileAt v_piled v_opened a_words a_headWords x1 x2 = some R → E G b yX12_law cX12_law 3 (some .int) (e_rm 8 0 0) e_X0 (e_Z G b (pD (some (.int R.1)) (e_ov (kM o) (wM G b o R.2.1 R.2.2.1 R.2.2.2.1 R.2.2.2.2.1 a_images a_isKept a_tape R.2.2.2.2.2.1 R.2.2.2.2.2.2.1 R.2.2.2.2.2.2.2.1 R.2.2.2.2.2.2.2.2.1 R.2.2.2.2.2.2.2.2.2.1 R.2.2.2.2.2.2.2.2.2.2.1 R.2.2.2.2.2.2.2.2.2.2.2.1 R.2.2.2.2.2.2.2.2.2.2.2.2.1 R.2.2.2.2.2.2.2.2.2.2.2.2.2.1 R.2.2.2.2.2.2.2.2.2.2.2.2.2.2.1 R.2.2.2.2.2.2.2.2.2.2.2.2.2.2.2.1 R.2.2.2.2.2.2.2.2.2.2.2.2.2.2.2.2.1 R.2.2.2.2.2.2.2.2.2.2.2.2.2.2.2.2.2.1 R.2.2.2.2.2.2.2.2.2.2.2.2.2.2.2.2.2.2.1 R.2.2.2.2.2.2.2.2.2.2.2.2.2.2.2.2.2.2.2.1 R.2.2.2.2.2.2.2.2.2.2.2.2.2.2.2.2.2.2.2.2.1 R.2.2.2.2.2.2.2.2.2.2.2.2.2.2.2.2.2.2.2.2.2 a_words a_headWords v_law a_set a_rest v_broken v_value v_sum a_chances a_votes a_costs a_table a_prices v_surely a_mostBy a_leastBy v_between v_steadyWays v_quashed v_but a_figures a_all a_lies a_since v_last v_state) c0) n) 0 0) 145 [(0, .ref (b + o)), (1, .int x1), (2, .int x2)] [] (e_ov (kM o) (wM G b o v_thrown v_status a_refusals a_row a_images a_isKept a_tape v_taped v_from v_to v_sort v_worth v_fault v_bad v_nClauses a_nClause v_nCode a_nOp a_nArg v_nLeaves a_pile a_pileAt v_piled v_opened a_words a_headWords v_law a_set a_rest v_broken v_value v_sum a_chances a_votes a_costs a_table a_prices v_surely a_mostBy a_leastBy v_between v_steadyWays v_quashed v_but a_figures a_all a_lies a_since v_last v_state) c0) n 0 0 := by
  intro k
  induction k with
  | zero =>
    intro _ _ _ _ _ _ _ _ _ _ _ _ _ _ _ _ _ _ _ _ _ _ _ _ _ _ _ hf
    have hf : (none : Option (Int32 × Int32 × Int32 × (Nat → Int32) × (Nat → Int32) × Int32 × Int32 × Int32 × Int32 × Int64 × Int32 × Int32 × Int32 × (Nat → Int32) × Int32 × (Nat → Int32) × (Nat → Int32) × Int32 × (Nat → Int32) × (Nat → Int32) × Int32 × Int32)) = some _ := hf
    cases hf
  | succ k ih =>
    intro v_thrown v_status a_refusals a_row a_tape v_taped v_from v_to v_sort v_worth v_fault v_bad v_nClauses a_nClause v_nCode a_nOp a_nArg v_nLeaves a_pile a_pileAt v_piled v_opened a_words a_headWords x1 x2 R hf
    rw [fX12_law_L145] at hf
    refine E.iload_n 2 dX12_law_145 rfl ?_
    refine E.bipush (v := 8) dX12_law_146 (by decide) ?_
    refine E.aload_n 0 dX12_law_148 rfl ?_
    refine E.get hw 0 o dX12_law_149 flX12_310 rfl rfl rfl rfl ?_
    refine E.imul dX12_law_152 ?_
    refine E.icmp_ge dX12_law_153 (fun h => ?_) (fun h => ?_)
    · have hf := e_ift hf h
      refine E.iconst (v := 0) dX12_law_178 (by decide) ?_
      refine E.istore_n (lv' := [(2, .int 0), (0, .ref (b + o)), (1, .int x1)]) dX12_law_179 (by decide) rfl ?_
      refine E.locals [1, 2, 0] rfl ?_
      exact tX12_law_L180 hw _ hf
    · have hf := e_iff hf h
      refine E.aload_n 0 dX12_law_156 rfl ?_
      refine E.get hw 0 o dX12_law_157 flX12_13 rfl rfl rfl rfl ?_
      refine E.iload_n 1 dX12_law_160 rfl ?_
      refine E.iconst (v := 2) dX12_law_161 (by decide) ?_
      refine E.iadd dX12_law_162 ?_
      refine E.iload_n 2 dX12_law_163 rfl ?_
      refine E.iadd dX12_law_164 ?_
      refine E.aload_n 0 dX12_law_165 rfl ?_
      refine E.get hw 0 o dX12_law_166 flX12_30 rfl rfl rfl rfl ?_
      refine E.iload_n 2 dX12_law_169 rfl ?_
      obtain ⟨g12, hf⟩ := gd_some hf
      refine E.iald hw 6 (o + 6) dX12_law_170 rfl rfl g12 ?_
      obtain ⟨g13, hf⟩ := gd_some hf
      refine E.iast (es' := (wM G b o v_thrown v_status a_refusals (va_up a_row (((x1 + 2) + x2) : Int32).toNatClampNeg (a_nClause (x2 : Int32).toNatClampNeg)) a_images a_isKept a_tape v_taped v_from v_to v_sort v_worth v_fault v_bad v_nClauses a_nClause v_nCode a_nOp a_nArg v_nLeaves a_pile a_pileAt v_piled v_opened a_words a_headWords v_law a_set a_rest v_broken v_value v_sum a_chances a_votes a_costs a_table a_prices v_surely a_mostBy a_leastBy v_between v_steadyWays v_quashed v_but a_figures a_all a_lies a_since v_last v_state)) hw 2 (o + 2) dX12_law_171 rfl rfl g13 rfl ?_
      refine E.iinc (q := 2) (v := (x2 + 1)) (lv' := [(2, .int (x2 + 1)), (0, .ref (b + o)), (1, .int x1)]) dX12_law_172 rfl rfl (by decide) rfl ?_
      refine E.goto dX12_law_175 ?_
      refine E.locals [1, 2, 0] rfl ?_
      exact ih hf
def fX12_law_L97 (Fu : Nat) (v_thrown : Int32) (v_status : Int32) (a_refusals : Nat → Int32) (a_row : Nat → Int32) (a_tape : Nat → Int32) (v_taped : Int32) (v_from : Int32) (v_to : Int32) (v_sort : Int32) (v_worth : Int64) (v_fault : Int32) (v_bad : Int32) (v_nClauses : Int32) (a_nClause : Nat → Int32) (v_nCode : Int32) (a_nOp : Nat → Int32) (a_nArg : Nat → Int32) (v_nLeaves : Int32) (a_pile : Nat → Int32) (a_pileAt : Nat → Int32) (v_piled : Int32) (v_opened : Int32) (a_words : Nat → Int64) (a_headWords : Nat → Int64) : Option (Int32 × Int32 × Int32 × (Nat → Int32) × (Nat → Int32) × Int32 × Int32 × Int32 × Int32 × Int64 × Int32 × Int32 × Int32 × (Nat → Int32) × Int32 × (Nat → Int32) × (Nat → Int32) × Int32 × (Nat → Int32) × (Nat → Int32) × Int32 × Int32) := if (v_bad : Int32) = 0 then (gd 2 5570 (gd ((170 + (900 * (a_row (2 : Int32).toNatClampNeg))) + 1) 5570 (fX12_law_L145 Fu Fu v_thrown v_status a_refusals (va_up a_row (((170 + (900 * (a_row (2 : Int32).toNatClampNeg))) + 1) : Int32).toNatClampNeg v_nClauses) a_tape 0 v_from v_to v_sort v_worth v_fault v_bad v_nClauses a_nClause v_nCode a_nOp a_nArg v_nLeaves a_pile a_pileAt v_piled v_opened a_words a_headWords (170 + (900 * (a_row (2 : Int32).toNatClampNeg))) 0))) else ((fX12_tell v_status a_refusals (-6 : Int32)).bind fun r11 => (some (r11.1, v_thrown, r11.2.1, r11.2.2, a_row, 0, v_from, v_to, v_sort, v_worth, v_fault, v_bad, v_nClauses, a_nClause, v_nCode, a_nOp, a_nArg, v_nLeaves, a_pile, a_pileAt, v_piled, v_opened)))
set_option maxHeartbeats 4000000 in
set_option maxRecDepth 100000 in
theorem tX12_law_L97 {G : GT} {b : Nat} {o : Nat} {c0 : Hp} {n : Nat} (hw : e_wf (kM o) n) {a_images : Nat → Int32} {a_isKept : Nat → Int32} {v_law : Int32} {a_set : Nat → Int64} {a_rest : Nat → Int64} {v_broken : Int32} {v_value : Int64} {v_sum : Int64} {a_chances : Nat → Int32} {a_votes : Nat → Int64} {a_costs : Nat → Int32} {a_table : Nat → Int64} {a_prices : Nat → Int32} {v_surely : Int64} {a_mostBy : Nat → Int64} {a_leastBy : Nat → Int64} {v_between : Int64} {v_steadyWays : Int32} {v_quashed : Int32} {v_but : Int32} {a_figures : Nat → Int32} {a_all : Nat → Int32} {a_lies : Nat → Int32} {a_since : Nat → Int32} {v_last : Int32} {v_state : Int64} {Fu : Nat} {v_thrown : Int32} {v_status : Int32} {a_refusals : Nat → Int32} {a_row : Nat → Int32} {a_tape : Nat → Int32} {v_taped : Int32} {v_from : Int32} {v_to : Int32} {v_sort : Int32} {v_worth : Int64} {v_fault : Int32} {v_bad : Int32} {v_nClauses : Int32} {a_nClause : Nat → Int32} {v_nCode : Int32} {a_nOp : Nat → Int32} {a_nArg : Nat → Int32} {v_nLeaves : Int32} {a_pile : Nat → Int32} {a_pileAt : Nat → Int32} {v_piled : Int32} {v_opened : Int32} {a_words : Nat → Int64} {a_headWords : Nat → Int64} {R : Int32 × Int32 × Int32 × (Nat → Int32) × (Nat → Int32) × Int32 × Int32 × Int32 × Int32 × Int64 × Int32 × Int32 × Int32 × (Nat → Int32) × Int32 × (Nat → Int32) × (Nat → Int32) × Int32 × (Nat → Int32) × (Nat → Int32) × Int32 × Int32} (hf : fX12_law_L97 Fu v_thrown v_status a_refusals a_row a_tape v_taped v_from v_to v_sort v_worth v_fault v_bad v_nClauses a_nClause v_nCode a_nOp a_nArg v_nLeaves a_pile a_pileAt v_piled v_opened a_words a_headWords = some R) : E G b yX12_law cX12_law 3 (some .int) (e_rm 8 0 0) e_X0 (e_Z G b (pD (some (.int R.1)) (e_ov (kM o) (wM G b o R.2.1 R.2.2.1 R.2.2.2.1 R.2.2.2.2.1 a_images a_isKept a_tape R.2.2.2.2.2.1 R.2.2.2.2.2.2.1 R.2.2.2.2.2.2.2.1 R.2.2.2.2.2.2.2.2.1 R.2.2.2.2.2.2.2.2.2.1 R.2.2.2.2.2.2.2.2.2.2.1 R.2.2.2.2.2.2.2.2.2.2.2.1 R.2.2.2.2.2.2.2.2.2.2.2.2.1 R.2.2.2.2.2.2.2.2.2.2.2.2.2.1 R.2.2.2.2.2.2.2.2.2.2.2.2.2.2.1 R.2.2.2.2.2.2.2.2.2.2.2.2.2.2.2.1 R.2.2.2.2.2.2.2.2.2.2.2.2.2.2.2.2.1 R.2.2.2.2.2.2.2.2.2.2.2.2.2.2.2.2.2.1 R.2.2.2.2.2.2.2.2.2.2.2.2.2.2.2.2.2.2.1 R.2.2.2.2.2.2.2.2.2.2.2.2.2.2.2.2.2.2.2.1 R.2.2.2.2.2.2.2.2.2.2.2.2.2.2.2.2.2.2.2.2.1 R.2.2.2.2.2.2.2.2.2.2.2.2.2.2.2.2.2.2.2.2.2 a_words a_headWords v_law a_set a_rest v_broken v_value v_sum a_chances a_votes a_costs a_table a_prices v_surely a_mostBy a_leastBy v_between v_steadyWays v_quashed v_but a_figures a_all a_lies a_since v_last v_state) c0) n) 0 0) 97 [(0, .ref (b + o))] [] (e_ov (kM o) (wM G b o v_thrown v_status a_refusals a_row a_images a_isKept a_tape v_taped v_from v_to v_sort v_worth v_fault v_bad v_nClauses a_nClause v_nCode a_nOp a_nArg v_nLeaves a_pile a_pileAt v_piled v_opened a_words a_headWords v_law a_set a_rest v_broken v_value v_sum a_chances a_votes a_costs a_table a_prices v_surely a_mostBy a_leastBy v_between v_steadyWays v_quashed v_but a_figures a_all a_lies a_since v_last v_state) c0) n 0 0 := by
  unfold fX12_law_L97 at hf
  refine E.aload_n 0 dX12_law_97 rfl ?_
  refine E.iconst (v := 0) dX12_law_98 (by decide) ?_
  refine E.put (es' := (wM G b o v_thrown v_status a_refusals a_row a_images a_isKept a_tape 0 v_from v_to v_sort v_worth v_fault v_bad v_nClauses a_nClause v_nCode a_nOp a_nArg v_nLeaves a_pile a_pileAt v_piled v_opened a_words a_headWords v_law a_set a_rest v_broken v_value v_sum a_chances a_votes a_costs a_table a_prices v_surely a_mostBy a_leastBy v_between v_steadyWays v_quashed v_but a_figures a_all a_lies a_since v_last v_state)) hw 0 o dX12_law_99 flX12_184 ftX12 rfl rfl rfl rfl rfl rfl (Nat.le_of_ble_eq_true rfl) rfl ?_
  refine E.aload_n 0 dX12_law_102 rfl ?_
  refine E.get hw 0 o dX12_law_103 flX12_194 rfl rfl rfl rfl ?_
  refine E.if_eq dX12_law_106 (fun h => ?_) (fun h => ?_)
  · have hf := e_ift hf h
    refine E.sipush (v := 170) dX12_law_116 (by decide) ?_
    refine E.sipush (v := 900) dX12_law_119 (by decide) ?_
    refine E.aload_n 0 dX12_law_122 rfl ?_
    refine E.get hw 0 o dX12_law_123 flX12_13 rfl rfl rfl rfl ?_
    refine E.iconst (v := 2) dX12_law_126 (by decide) ?_
    obtain ⟨g9, hf⟩ := gd_some hf
    refine E.iald hw 2 (o + 2) dX12_law_127 rfl rfl g9 ?_
    refine E.imul dX12_law_128 ?_
    refine E.iadd dX12_law_129 ?_
    refine E.istore_n (lv' := [(1, .int (170 + (900 * (a_row (2 : Int32).toNatClampNeg)))), (0, .ref (b + o))]) dX12_law_130 (by decide) rfl ?_
    refine E.aload_n 1 dX12_law_131 rfl ?_
    refine E.get hw 0 o dX12_law_132 flX12_13 rfl rfl rfl rfl ?_
    refine E.iload_n 0 dX12_law_135 rfl ?_
    refine E.iconst (v := 1) dX12_law_136 (by decide) ?_
    refine E.iadd dX12_law_137 ?_
    refine E.aload_n 1 dX12_law_138 rfl ?_
    refine E.get hw 0 o dX12_law_139 flX12_310 rfl rfl rfl rfl ?_
    obtain ⟨g10, hf⟩ := gd_some hf
    refine E.iast (es' := (wM G b o v_thrown v_status a_refusals (va_up a_row (((170 + (900 * (a_row (2 : Int32).toNatClampNeg))) + 1) : Int32).toNatClampNeg v_nClauses) a_images a_isKept a_tape 0 v_from v_to v_sort v_worth v_fault v_bad v_nClauses a_nClause v_nCode a_nOp a_nArg v_nLeaves a_pile a_pileAt v_piled v_opened a_words a_headWords v_law a_set a_rest v_broken v_value v_sum a_chances a_votes a_costs a_table a_prices v_surely a_mostBy a_leastBy v_between v_steadyWays v_quashed v_but a_figures a_all a_lies a_since v_last v_state)) hw 2 (o + 2) dX12_law_142 rfl rfl g10 rfl ?_
    refine E.iconst (v := 0) dX12_law_143 (by decide) ?_
    refine E.istore_n (lv' := [(2, .int 0), (1, .int (170 + (900 * (a_row (2 : Int32).toNatClampNeg)))), (0, .ref (b + o))]) dX12_law_144 (by decide) rfl ?_
    refine E.locals [2, 1, 0] rfl ?_
    exact tX12_law_L145 hw _ hf
  · have hf := e_iff hf h
    refine E.aload_n 0 dX12_law_109 rfl ?_
    refine E.bipush (v := -6) dX12_law_110 (by decide) ?_
    obtain ⟨r11, hc11, hf⟩ := e_bind hf
    refine E.callVD [] dX12_law_112 mlX12_138 ⟨hw.sub (p := 0) rfl, e_ov_get hw.1 (p := 0) rfl rfl⟩ rfl rfl (mX12_tell hw hc11) ⟨Nat.le_of_ble_eq_true rfl, Nat.le_of_ble_eq_true rfl⟩ rfl rfl (Nat.le_of_ble_eq_true rfl) ⟨Nat.le_refl _, Nat.le_refl _⟩ rfl ?_
    cases hf
    exact E.iret dX12_law_115 (Nat.le_refl _) (Nat.le_refl _) (pD_rf _ _ _)
def fX12_law_L78 (Fu : Nat) (v_thrown : Int32) (v_status : Int32) (a_refusals : Nat → Int32) (a_row : Nat → Int32) (a_tape : Nat → Int32) (v_taped : Int32) (v_from : Int32) (v_to : Int32) (v_sort : Int32) (v_worth : Int64) (v_fault : Int32) (v_bad : Int32) (v_nClauses : Int32) (a_nClause : Nat → Int32) (v_nCode : Int32) (a_nOp : Nat → Int32) (a_nArg : Nat → Int32) (v_nLeaves : Int32) (a_pile : Nat → Int32) (a_pileAt : Nat → Int32) (v_piled : Int32) (v_opened : Int32) (a_words : Nat → Int64) (a_headWords : Nat → Int64) : Option (Int32 × Int32 × Int32 × (Nat → Int32) × (Nat → Int32) × Int32 × Int32 × Int32 × Int32 × Int64 × Int32 × Int32 × Int32 × (Nat → Int32) × Int32 × (Nat → Int32) × (Nat → Int32) × Int32 × (Nat → Int32) × (Nat → Int32) × Int32 × Int32) := if (v_bad : Int32) = 0 then (if (v_sort : Int32) = 0 then (fX12_law_L97 Fu v_thrown v_status a_refusals a_row a_tape v_taped v_from v_to v_sort v_worth v_fault v_bad v_nClauses a_nClause v_nCode a_nOp a_nArg v_nLeaves a_pile a_pileAt v_piled v_opened a_words a_headWords) else ((fX12_must Fu a_tape v_taped v_from v_to v_sort v_worth v_fault v_bad 0).bind fun r8 => (fX12_law_L97 Fu v_thrown v_status a_refusals a_row a_tape v_taped r8.1 r8.2.1 r8.2.2.1 r8.2.2.2.1 r8.2.2.2.2.1 r8.2.2.2.2.2 v_nClauses a_nClause v_nCode a_nOp a_nArg v_nLeaves a_pile a_pileAt v_piled v_opened a_words a_headWords))) else (fX12_law_L97 Fu v_thrown v_status a_refusals a_row a_tape v_taped v_from v_to v_sort v_worth v_fault v_bad v_nClauses a_nClause v_nCode a_nOp a_nArg v_nLeaves a_pile a_pileAt v_piled v_opened a_words a_headWords)
set_option maxHeartbeats 4000000 in
set_option maxRecDepth 100000 in
theorem tX12_law_L78 {G : GT} {b : Nat} {o : Nat} {c0 : Hp} {n : Nat} (hw : e_wf (kM o) n) {a_images : Nat → Int32} {a_isKept : Nat → Int32} {v_law : Int32} {a_set : Nat → Int64} {a_rest : Nat → Int64} {v_broken : Int32} {v_value : Int64} {v_sum : Int64} {a_chances : Nat → Int32} {a_votes : Nat → Int64} {a_costs : Nat → Int32} {a_table : Nat → Int64} {a_prices : Nat → Int32} {v_surely : Int64} {a_mostBy : Nat → Int64} {a_leastBy : Nat → Int64} {v_between : Int64} {v_steadyWays : Int32} {v_quashed : Int32} {v_but : Int32} {a_figures : Nat → Int32} {a_all : Nat → Int32} {a_lies : Nat → Int32} {a_since : Nat → Int32} {v_last : Int32} {v_state : Int64} {Fu : Nat} {v_thrown : Int32} {v_status : Int32} {a_refusals : Nat → Int32} {a_row : Nat → Int32} {a_tape : Nat → Int32} {v_taped : Int32} {v_from : Int32} {v_to : Int32} {v_sort : Int32} {v_worth : Int64} {v_fault : Int32} {v_bad : Int32} {v_nClauses : Int32} {a_nClause : Nat → Int32} {v_nCode : Int32} {a_nOp : Nat → Int32} {a_nArg : Nat → Int32} {v_nLeaves : Int32} {a_pile : Nat → Int32} {a_pileAt : Nat → Int32} {v_piled : Int32} {v_opened : Int32} {a_words : Nat → Int64} {a_headWords : Nat → Int64} {R : Int32 × Int32 × Int32 × (Nat → Int32) × (Nat → Int32) × Int32 × Int32 × Int32 × Int32 × Int64 × Int32 × Int32 × Int32 × (Nat → Int32) × Int32 × (Nat → Int32) × (Nat → Int32) × Int32 × (Nat → Int32) × (Nat → Int32) × Int32 × Int32} (hf : fX12_law_L78 Fu v_thrown v_status a_refusals a_row a_tape v_taped v_from v_to v_sort v_worth v_fault v_bad v_nClauses a_nClause v_nCode a_nOp a_nArg v_nLeaves a_pile a_pileAt v_piled v_opened a_words a_headWords = some R) : E G b yX12_law cX12_law 3 (some .int) (e_rm 8 0 0) e_X0 (e_Z G b (pD (some (.int R.1)) (e_ov (kM o) (wM G b o R.2.1 R.2.2.1 R.2.2.2.1 R.2.2.2.2.1 a_images a_isKept a_tape R.2.2.2.2.2.1 R.2.2.2.2.2.2.1 R.2.2.2.2.2.2.2.1 R.2.2.2.2.2.2.2.2.1 R.2.2.2.2.2.2.2.2.2.1 R.2.2.2.2.2.2.2.2.2.2.1 R.2.2.2.2.2.2.2.2.2.2.2.1 R.2.2.2.2.2.2.2.2.2.2.2.2.1 R.2.2.2.2.2.2.2.2.2.2.2.2.2.1 R.2.2.2.2.2.2.2.2.2.2.2.2.2.2.1 R.2.2.2.2.2.2.2.2.2.2.2.2.2.2.2.1 R.2.2.2.2.2.2.2.2.2.2.2.2.2.2.2.2.1 R.2.2.2.2.2.2.2.2.2.2.2.2.2.2.2.2.2.1 R.2.2.2.2.2.2.2.2.2.2.2.2.2.2.2.2.2.2.1 R.2.2.2.2.2.2.2.2.2.2.2.2.2.2.2.2.2.2.2.1 R.2.2.2.2.2.2.2.2.2.2.2.2.2.2.2.2.2.2.2.2.1 R.2.2.2.2.2.2.2.2.2.2.2.2.2.2.2.2.2.2.2.2.2 a_words a_headWords v_law a_set a_rest v_broken v_value v_sum a_chances a_votes a_costs a_table a_prices v_surely a_mostBy a_leastBy v_between v_steadyWays v_quashed v_but a_figures a_all a_lies a_since v_last v_state) c0) n) 0 0) 78 [(0, .ref (b + o))] [] (e_ov (kM o) (wM G b o v_thrown v_status a_refusals a_row a_images a_isKept a_tape v_taped v_from v_to v_sort v_worth v_fault v_bad v_nClauses a_nClause v_nCode a_nOp a_nArg v_nLeaves a_pile a_pileAt v_piled v_opened a_words a_headWords v_law a_set a_rest v_broken v_value v_sum a_chances a_votes a_costs a_table a_prices v_surely a_mostBy a_leastBy v_between v_steadyWays v_quashed v_but a_figures a_all a_lies a_since v_last v_state) c0) n 0 0 := by
  unfold fX12_law_L78 at hf
  refine E.aload_n 0 dX12_law_78 rfl ?_
  refine E.get hw 0 o dX12_law_79 flX12_194 rfl rfl rfl rfl ?_
  refine E.if_ne dX12_law_82 (fun h => ?_) (fun h => ?_)
  · have hf := e_iff hf h
    exact tX12_law_L97 hw hf
  · have hf := e_ift hf h
    refine E.aload_n 0 dX12_law_85 rfl ?_
    refine E.get hw 0 o dX12_law_86 flX12_214 rfl rfl rfl rfl ?_
    refine E.if_eq dX12_law_89 (fun h => ?_) (fun h => ?_)
    · have hf := e_ift hf h
      exact tX12_law_L97 hw hf
    · have hf := e_iff hf h
      refine E.aload_n 0 dX12_law_92 rfl ?_
      refine E.iconst (v := 0) dX12_law_93 (by decide) ?_
      obtain ⟨r8, hc8, hf⟩ := e_bind hf
      refine E.callVD [] dX12_law_94 mlX12_229 ⟨hw.sub (p := 0) rfl, e_ov_get hw.1 (p := 0) rfl rfl⟩ rfl rfl (mX12_must hw hc8) ⟨Nat.le_of_ble_eq_true rfl, Nat.le_of_ble_eq_true rfl⟩ rfl rfl (Nat.le_of_ble_eq_true rfl) ⟨Nat.le_refl _, Nat.le_refl _⟩ rfl ?_
      exact tX12_law_L97 hw hf
def fX12_law_L51 (Fu : Nat) : Nat → Int32 → Int32 → (Nat → Int32) → (Nat → Int32) → (Nat → Int32) → Int32 → Int32 → Int32 → Int32 → Int64 → Int32 → Int32 → Int32 → (Nat → Int32) → Int32 → (Nat → Int32) → (Nat → Int32) → Int32 → (Nat → Int32) → (Nat → Int32) → Int32 → Int32 → (Nat → Int64) → (Nat → Int64) → Option (Int32 × Int32 × Int32 × (Nat → Int32) × (Nat → Int32) × Int32 × Int32 × Int32 × Int32 × Int64 × Int32 × Int32 × Int32 × (Nat → Int32) × Int32 × (Nat → Int32) × (Nat → Int32) × Int32 × (Nat → Int32) × (Nat → Int32) × Int32 × Int32)
  | 0, _, _, _, _, _, _, _, _, _, _, _, _, _, _, _, _, _, _, _, _, _, _, _, _ => none
  | k + 1, v_thrown, v_status, a_refusals, a_row, a_tape, v_taped, v_from, v_to, v_sort, v_worth, v_fault, v_bad, v_nClauses, a_nClause, v_nCode, a_nOp, a_nArg, v_nLeaves, a_pile, a_pileAt, v_piled, v_opened, a_words, a_headWords => if (v_bad : Int32) = 0 then ((fX12_isSign v_sort v_worth 59).bind fun r5 => (if (r5 : Int32) = 0 then (fX12_law_L78 Fu v_thrown v_status a_refusals a_row a_tape v_taped v_from v_to v_sort v_worth v_fault v_bad v_nClauses a_nClause v_nCode a_nOp a_nArg v_nLeaves a_pile a_pileAt v_piled v_opened a_words a_headWords) else ((fX12_next Fu a_tape v_taped v_from v_to v_sort v_worth).bind fun r6 => ((fX12_readClause Fu a_tape v_taped r6.1 r6.2.1 r6.2.2.1 r6.2.2.2 v_fault v_bad v_nClauses a_nClause v_nCode a_nOp a_nArg v_nLeaves a_pile a_pileAt v_piled v_opened a_words a_headWords).bind fun r7 => ((fX12_law_L51 Fu k) v_thrown v_status a_refusals a_row a_tape v_taped r7.1 r7.2.1 r7.2.2.1 r7.2.2.2.1 r7.2.2.2.2.1 r7.2.2.2.2.2.1 r7.2.2.2.2.2.2.1 r7.2.2.2.2.2.2.2.1 r7.2.2.2.2.2.2.2.2.1 r7.2.2.2.2.2.2.2.2.2.1 r7.2.2.2.2.2.2.2.2.2.2.1 r7.2.2.2.2.2.2.2.2.2.2.2.1 r7.2.2.2.2.2.2.2.2.2.2.2.2.1 r7.2.2.2.2.2.2.2.2.2.2.2.2.2.1 r7.2.2.2.2.2.2.2.2.2.2.2.2.2.2.1 r7.2.2.2.2.2.2.2.2.2.2.2.2.2.2.2 a_words a_headWords))))) else (fX12_law_L78 Fu v_thrown v_status a_refusals a_row a_tape v_taped v_from v_to v_sort v_worth v_fault v_bad v_nClauses a_nClause v_nCode a_nOp a_nArg v_nLeaves a_pile a_pileAt v_piled v_opened a_words a_headWords)
set_option maxHeartbeats 4000000 in
set_option maxRecDepth 100000 in
theorem tX12_law_L51 {G : GT} {b : Nat} {o : Nat} {c0 : Hp} {n : Nat} (hw : e_wf (kM o) n) {a_images : Nat → Int32} {a_isKept : Nat → Int32} {v_law : Int32} {a_set : Nat → Int64} {a_rest : Nat → Int64} {v_broken : Int32} {v_value : Int64} {v_sum : Int64} {a_chances : Nat → Int32} {a_votes : Nat → Int64} {a_costs : Nat → Int32} {a_table : Nat → Int64} {a_prices : Nat → Int32} {v_surely : Int64} {a_mostBy : Nat → Int64} {a_leastBy : Nat → Int64} {v_between : Int64} {v_steadyWays : Int32} {v_quashed : Int32} {v_but : Int32} {a_figures : Nat → Int32} {a_all : Nat → Int32} {a_lies : Nat → Int32} {a_since : Nat → Int32} {v_last : Int32} {v_state : Int64} {Fu : Nat} : ∀ (k : Nat) {v_thrown : Int32} {v_status : Int32} {a_refusals : Nat → Int32} {a_row : Nat → Int32} {a_tape : Nat → Int32} {v_taped : Int32} {v_from : Int32} {v_to : Int32} {v_sort : Int32} {v_worth : Int64} {v_fault : Int32} {v_bad : Int32} {v_nClauses : Int32} {a_nClause : Nat → Int32} {v_nCode : Int32} {a_nOp : Nat → Int32} {a_nArg : Nat → Int32} {v_nLeaves : Int32} {a_pile : Nat → Int32} {a_pileAt : Nat → Int32} {v_piled : Int32} {v_opened : Int32} {a_words : Nat → Int64} {a_headWords : Nat → Int64} {R : Int32 × Int32 × Int32 × (Nat → Int32) × (Nat → Int32) × Int32 × Int32 × Int32 × Int32 × Int64 × Int32 × Int32 × Int32 × (Nat → Int32) × Int32 × (Nat → Int32) × (Nat → Int32) × Int32 × (Nat → Int32) × (Nat → Int32) × Int32 × Int32}, fX12_law_L51 Fu k v_thrown v_status a_refusals a_row a_tape v_taped v_from v_to v_sort v_worth v_fault v_bad v_nClauses a_nClause v_nCode a_nOp a_nArg v_nLeaves a_pile a_pileAt v_piled v_opened a_words a_headWords = some R → E G b yX12_law cX12_law 3 (some .int) (e_rm 8 0 0) e_X0 (e_Z G b (pD (some (.int R.1)) (e_ov (kM o) (wM G b o R.2.1 R.2.2.1 R.2.2.2.1 R.2.2.2.2.1 a_images a_isKept a_tape R.2.2.2.2.2.1 R.2.2.2.2.2.2.1 R.2.2.2.2.2.2.2.1 R.2.2.2.2.2.2.2.2.1 R.2.2.2.2.2.2.2.2.2.1 R.2.2.2.2.2.2.2.2.2.2.1 R.2.2.2.2.2.2.2.2.2.2.2.1 R.2.2.2.2.2.2.2.2.2.2.2.2.1 R.2.2.2.2.2.2.2.2.2.2.2.2.2.1 R.2.2.2.2.2.2.2.2.2.2.2.2.2.2.1 R.2.2.2.2.2.2.2.2.2.2.2.2.2.2.2.1 R.2.2.2.2.2.2.2.2.2.2.2.2.2.2.2.2.1 R.2.2.2.2.2.2.2.2.2.2.2.2.2.2.2.2.2.1 R.2.2.2.2.2.2.2.2.2.2.2.2.2.2.2.2.2.2.1 R.2.2.2.2.2.2.2.2.2.2.2.2.2.2.2.2.2.2.2.1 R.2.2.2.2.2.2.2.2.2.2.2.2.2.2.2.2.2.2.2.2.1 R.2.2.2.2.2.2.2.2.2.2.2.2.2.2.2.2.2.2.2.2.2 a_words a_headWords v_law a_set a_rest v_broken v_value v_sum a_chances a_votes a_costs a_table a_prices v_surely a_mostBy a_leastBy v_between v_steadyWays v_quashed v_but a_figures a_all a_lies a_since v_last v_state) c0) n) 0 0) 51 [(0, .ref (b + o))] [] (e_ov (kM o) (wM G b o v_thrown v_status a_refusals a_row a_images a_isKept a_tape v_taped v_from v_to v_sort v_worth v_fault v_bad v_nClauses a_nClause v_nCode a_nOp a_nArg v_nLeaves a_pile a_pileAt v_piled v_opened a_words a_headWords v_law a_set a_rest v_broken v_value v_sum a_chances a_votes a_costs a_table a_prices v_surely a_mostBy a_leastBy v_between v_steadyWays v_quashed v_but a_figures a_all a_lies a_since v_last v_state) c0) n 0 0 := by
  intro k
  induction k with
  | zero =>
    intro _ _ _ _ _ _ _ _ _ _ _ _ _ _ _ _ _ _ _ _ _ _ _ _ _ hf
    have hf : (none : Option (Int32 × Int32 × Int32 × (Nat → Int32) × (Nat → Int32) × Int32 × Int32 × Int32 × Int32 × Int64 × Int32 × Int32 × Int32 × (Nat → Int32) × Int32 × (Nat → Int32) × (Nat → Int32) × Int32 × (Nat → Int32) × (Nat → Int32) × Int32 × Int32)) = some _ := hf
    cases hf
  | succ k ih =>
    intro v_thrown v_status a_refusals a_row a_tape v_taped v_from v_to v_sort v_worth v_fault v_bad v_nClauses a_nClause v_nCode a_nOp a_nArg v_nLeaves a_pile a_pileAt v_piled v_opened a_words a_headWords R hf
    rw [fX12_law_L51] at hf
    refine E.aload_n 0 dX12_law_51 rfl ?_
    refine E.get hw 0 o dX12_law_52 flX12_194 rfl rfl rfl rfl ?_
    refine E.if_ne dX12_law_55 (fun h => ?_) (fun h => ?_)
    · have hf := e_iff hf h
      exact tX12_law_L78 hw hf
    · have hf := e_ift hf h
      refine E.aload_n 0 dX12_law_58 rfl ?_
      refine E.bipush (v := 59) dX12_law_59 (by decide) ?_
      obtain ⟨r5, hc5, hf⟩ := e_bind hf
      refine E.callVD [] dX12_law_61 mlX12_265 ⟨hw.sub (p := 0) rfl, e_ov_get hw.1 (p := 0) rfl rfl⟩ rfl rfl (mX12_isSign hw hc5) ⟨Nat.le_of_ble_eq_true rfl, Nat.le_of_ble_eq_true rfl⟩ rfl rfl (Nat.le_of_ble_eq_true rfl) ⟨Nat.le_refl _, Nat.le_refl _⟩ rfl ?_
      refine E.if_eq dX12_law_64 (fun h => ?_) (fun h => ?_)
      · have hf := e_ift hf h
        exact tX12_law_L78 hw hf
      · have hf := e_iff hf h
        refine E.aload_n 0 dX12_law_67 rfl ?_
        obtain ⟨r6, hc6, hf⟩ := e_bind hf
        refine E.callVD [] dX12_law_68 mlX12_198 ⟨hw.sub (p := 0) rfl, e_ov_get hw.1 (p := 0) rfl rfl⟩ rfl rfl (mX12_next hw hc6) ⟨Nat.le_of_ble_eq_true rfl, Nat.le_of_ble_eq_true rfl⟩ rfl rfl (Nat.le_of_ble_eq_true rfl) ⟨Nat.le_refl _, Nat.le_refl _⟩ rfl ?_
        refine E.aload_n 0 dX12_law_71 rfl ?_
        obtain ⟨r7, hc7, hf⟩ := e_bind hf
        refine E.callVD [] dX12_law_72 mlX12_321 ⟨hw.sub (p := 0) rfl, e_ov_get hw.1 (p := 0) rfl rfl⟩ rfl rfl (mX12_readClause hw hc7) ⟨Nat.le_of_ble_eq_true rfl, Nat.le_of_ble_eq_true rfl⟩ rfl rfl (Nat.le_of_ble_eq_true rfl) ⟨Nat.le_refl _, Nat.le_refl _⟩ rfl ?_
        refine E.goto dX12_law_75 ?_
        exact ih hf
def fX12_law (Fu : Nat) (v_thrown : Int32) (v_status : Int32) (a_refusals : Nat → Int32) (a_row : Nat → Int32) (a_tape : Nat → Int32) (v_taped : Int32) (v_from : Int32) (v_to : Int32) (v_sort : Int32) (v_worth : Int64) (v_fault : Int32) (v_bad : Int32) (v_nClauses : Int32) (a_nClause : Nat → Int32) (v_nCode : Int32) (a_nOp : Nat → Int32) (a_nArg : Nat → Int32) (v_nLeaves : Int32) (a_pile : Nat → Int32) (a_pileAt : Nat → Int32) (v_piled : Int32) (v_opened : Int32) (a_words : Nat → Int64) (a_headWords : Nat → Int64) : Option (Int32 × Int32 × Int32 × (Nat → Int32) × (Nat → Int32) × Int32 × Int32 × Int32 × Int32 × Int64 × Int32 × Int32 × Int32 × (Nat → Int32) × Int32 × (Nat → Int32) × (Nat → Int32) × Int32 × (Nat → Int32) × (Nat → Int32) × Int32 × Int32) := gd 2 5570 (if ((a_row (2 : Int32).toNatClampNeg) : Int32) = (6 : Int32) then ((fX12_tell v_status a_refusals (-5 : Int32)).bind fun r4 => (some (r4.1, 0, r4.2.1, r4.2.2, a_row, 0, v_from, v_to, v_sort, v_worth, v_fault, v_bad, v_nClauses, a_nClause, v_nCode, a_nOp, a_nArg, v_nLeaves, a_pile, a_pileAt, v_piled, v_opened))) else ((fX12_begin Fu a_tape v_taped v_from v_to v_sort v_worth v_fault v_bad).bind fun r2 => ((fX12_readClause Fu a_tape v_taped r2.1 r2.2.1 r2.2.2.1 r2.2.2.2.1 r2.2.2.2.2.1 r2.2.2.2.2.2 0 a_nClause 0 a_nOp a_nArg 0 a_pile a_pileAt v_piled v_opened a_words a_headWords).bind fun r3 => (fX12_law_L51 Fu Fu 0 v_status a_refusals a_row a_tape v_taped r3.1 r3.2.1 r3.2.2.1 r3.2.2.2.1 r3.2.2.2.2.1 r3.2.2.2.2.2.1 r3.2.2.2.2.2.2.1 r3.2.2.2.2.2.2.2.1 r3.2.2.2.2.2.2.2.2.1 r3.2.2.2.2.2.2.2.2.2.1 r3.2.2.2.2.2.2.2.2.2.2.1 r3.2.2.2.2.2.2.2.2.2.2.2.1 r3.2.2.2.2.2.2.2.2.2.2.2.2.1 r3.2.2.2.2.2.2.2.2.2.2.2.2.2.1 r3.2.2.2.2.2.2.2.2.2.2.2.2.2.2.1 r3.2.2.2.2.2.2.2.2.2.2.2.2.2.2.2 a_words a_headWords))))
set_option maxHeartbeats 4000000 in
set_option maxRecDepth 100000 in
theorem tX12_law {G : GT} {b : Nat} {o : Nat} {c0 : Hp} {n : Nat} (hw : e_wf (kM o) n) {a_images : Nat → Int32} {a_isKept : Nat → Int32} {v_law : Int32} {a_set : Nat → Int64} {a_rest : Nat → Int64} {v_broken : Int32} {v_value : Int64} {v_sum : Int64} {a_chances : Nat → Int32} {a_votes : Nat → Int64} {a_costs : Nat → Int32} {a_table : Nat → Int64} {a_prices : Nat → Int32} {v_surely : Int64} {a_mostBy : Nat → Int64} {a_leastBy : Nat → Int64} {v_between : Int64} {v_steadyWays : Int32} {v_quashed : Int32} {v_but : Int32} {a_figures : Nat → Int32} {a_all : Nat → Int32} {a_lies : Nat → Int32} {a_since : Nat → Int32} {v_last : Int32} {v_state : Int64} {Fu : Nat} {v_thrown : Int32} {v_status : Int32} {a_refusals : Nat → Int32} {a_row : Nat → Int32} {a_tape : Nat → Int32} {v_taped : Int32} {v_from : Int32} {v_to : Int32} {v_sort : Int32} {v_worth : Int64} {v_fault : Int32} {v_bad : Int32} {v_nClauses : Int32} {a_nClause : Nat → Int32} {v_nCode : Int32} {a_nOp : Nat → Int32} {a_nArg : Nat → Int32} {v_nLeaves : Int32} {a_pile : Nat → Int32} {a_pileAt : Nat → Int32} {v_piled : Int32} {v_opened : Int32} {a_words : Nat → Int64} {a_headWords : Nat → Int64} {R : Int32 × Int32 × Int32 × (Nat → Int32) × (Nat → Int32) × Int32 × Int32 × Int32 × Int32 × Int64 × Int32 × Int32 × Int32 × (Nat → Int32) × Int32 × (Nat → Int32) × (Nat → Int32) × Int32 × (Nat → Int32) × (Nat → Int32) × Int32 × Int32} (hf : fX12_law Fu v_thrown v_status a_refusals a_row a_tape v_taped v_from v_to v_sort v_worth v_fault v_bad v_nClauses a_nClause v_nCode a_nOp a_nArg v_nLeaves a_pile a_pileAt v_piled v_opened a_words a_headWords = some R) : E G b yX12_law cX12_law 3 (some .int) (e_rm 8 0 0) e_X0 (e_Z G b (pD (some (.int R.1)) (e_ov (kM o) (wM G b o R.2.1 R.2.2.1 R.2.2.2.1 R.2.2.2.2.1 a_images a_isKept a_tape R.2.2.2.2.2.1 R.2.2.2.2.2.2.1 R.2.2.2.2.2.2.2.1 R.2.2.2.2.2.2.2.2.1 R.2.2.2.2.2.2.2.2.2.1 R.2.2.2.2.2.2.2.2.2.2.1 R.2.2.2.2.2.2.2.2.2.2.2.1 R.2.2.2.2.2.2.2.2.2.2.2.2.1 R.2.2.2.2.2.2.2.2.2.2.2.2.2.1 R.2.2.2.2.2.2.2.2.2.2.2.2.2.2.1 R.2.2.2.2.2.2.2.2.2.2.2.2.2.2.2.1 R.2.2.2.2.2.2.2.2.2.2.2.2.2.2.2.2.1 R.2.2.2.2.2.2.2.2.2.2.2.2.2.2.2.2.2.1 R.2.2.2.2.2.2.2.2.2.2.2.2.2.2.2.2.2.2.1 R.2.2.2.2.2.2.2.2.2.2.2.2.2.2.2.2.2.2.2.1 R.2.2.2.2.2.2.2.2.2.2.2.2.2.2.2.2.2.2.2.2.1 R.2.2.2.2.2.2.2.2.2.2.2.2.2.2.2.2.2.2.2.2.2 a_words a_headWords v_law a_set a_rest v_broken v_value v_sum a_chances a_votes a_costs a_table a_prices v_surely a_mostBy a_leastBy v_between v_steadyWays v_quashed v_but a_figures a_all a_lies a_since v_last v_state) c0) n) 0 0) 0 [(0, .ref (b + o))] [] (e_ov (kM o) (wM G b o v_thrown v_status a_refusals a_row a_images a_isKept a_tape v_taped v_from v_to v_sort v_worth v_fault v_bad v_nClauses a_nClause v_nCode a_nOp a_nArg v_nLeaves a_pile a_pileAt v_piled v_opened a_words a_headWords v_law a_set a_rest v_broken v_value v_sum a_chances a_votes a_costs a_table a_prices v_surely a_mostBy a_leastBy v_between v_steadyWays v_quashed v_but a_figures a_all a_lies a_since v_last v_state) c0) n 0 0 := by
  unfold fX12_law at hf
  refine E.aload_n 0 dX12_law_0 rfl ?_
  refine E.iconst (v := 0) dX12_law_1 (by decide) ?_
  refine E.put (es' := (wM G b o 0 v_status a_refusals a_row a_images a_isKept a_tape v_taped v_from v_to v_sort v_worth v_fault v_bad v_nClauses a_nClause v_nCode a_nOp a_nArg v_nLeaves a_pile a_pileAt v_piled v_opened a_words a_headWords v_law a_set a_rest v_broken v_value v_sum a_chances a_votes a_costs a_table a_prices v_surely a_mostBy a_leastBy v_between v_steadyWays v_quashed v_but a_figures a_all a_lies a_since v_last v_state)) hw 0 o dX12_law_2 flX12_124 ftX12 rfl rfl rfl rfl rfl rfl (Nat.le_of_ble_eq_true rfl) rfl ?_
  refine E.aload_n 0 dX12_law_5 rfl ?_
  refine E.get hw 0 o dX12_law_6 flX12_13 rfl rfl rfl rfl ?_
  refine E.iconst (v := 2) dX12_law_9 (by decide) ?_
  obtain ⟨g1, hf⟩ := gd_some hf
  refine E.iald hw 2 (o + 2) dX12_law_10 rfl rfl g1 ?_
  refine E.bipush (v := 6) dX12_law_11 (by decide) ?_
  refine E.icmp_ne dX12_law_13 (fun h => ?_) (fun h => ?_)
  · have hf := e_iff hf h
    refine E.aload_n 0 dX12_law_28 rfl ?_
    obtain ⟨r2, hc2, hf⟩ := e_bind hf
    refine E.callVD [] dX12_law_29 mlX12_318 ⟨hw.sub (p := 0) rfl, e_ov_get hw.1 (p := 0) rfl rfl⟩ rfl rfl (mX12_begin hw hc2) ⟨Nat.le_of_ble_eq_true rfl, Nat.le_of_ble_eq_true rfl⟩ rfl rfl (Nat.le_of_ble_eq_true rfl) ⟨Nat.le_refl _, Nat.le_refl _⟩ rfl ?_
    refine E.aload_n 0 dX12_law_32 rfl ?_
    refine E.iconst (v := 0) dX12_law_33 (by decide) ?_
    refine E.put (es' := (wM G b o 0 v_status a_refusals a_row a_images a_isKept a_tape v_taped r2.1 r2.2.1 r2.2.2.1 r2.2.2.2.1 r2.2.2.2.2.1 r2.2.2.2.2.2 0 a_nClause v_nCode a_nOp a_nArg v_nLeaves a_pile a_pileAt v_piled v_opened a_words a_headWords v_law a_set a_rest v_broken v_value v_sum a_chances a_votes a_costs a_table a_prices v_surely a_mostBy a_leastBy v_between v_steadyWays v_quashed v_but a_figures a_all a_lies a_since v_last v_state)) hw 0 o dX12_law_34 flX12_310 ftX12 rfl rfl rfl rfl rfl rfl (Nat.le_of_ble_eq_true rfl) rfl ?_
    refine E.aload_n 0 dX12_law_37 rfl ?_
    refine E.iconst (v := 0) dX12_law_38 (by decide) ?_
    refine E.put (es' := (wM G b o 0 v_status a_refusals a_row a_images a_isKept a_tape v_taped r2.1 r2.2.1 r2.2.2.1 r2.2.2.2.1 r2.2.2.2.2.1 r2.2.2.2.2.2 0 a_nClause 0 a_nOp a_nArg v_nLeaves a_pile a_pileAt v_piled v_opened a_words a_headWords v_law a_set a_rest v_broken v_value v_sum a_chances a_votes a_costs a_table a_prices v_surely a_mostBy a_leastBy v_between v_steadyWays v_quashed v_but a_figures a_all a_lies a_since v_last v_state)) hw 0 o dX12_law_39 flX12_233 ftX12 rfl rfl rfl rfl rfl rfl (Nat.le_of_ble_eq_true rfl) rfl ?_
    refine E.aload_n 0 dX12_law_42 rfl ?_
    refine E.iconst (v := 0) dX12_law_43 (by decide) ?_
    refine E.put (es' := (wM G b o 0 v_status a_refusals a_row a_images a_isKept a_tape v_taped r2.1 r2.2.1 r2.2.2.1 r2.2.2.2.1 r2.2.2.2.2.1 r2.2.2.2.2.2 0 a_nClause 0 a_nOp a_nArg 0 a_pile a_pileAt v_piled v_opened a_words a_headWords v_law a_set a_rest v_broken v_value v_sum a_chances a_votes a_costs a_table a_prices v_surely a_mostBy a_leastBy v_between v_steadyWays v_quashed v_but a_figures a_all a_lies a_since v_last v_state)) hw 0 o dX12_law_44 flX12_262 ftX12 rfl rfl rfl rfl rfl rfl (Nat.le_of_ble_eq_true rfl) rfl ?_
    refine E.aload_n 0 dX12_law_47 rfl ?_
    obtain ⟨r3, hc3, hf⟩ := e_bind hf
    refine E.callVD [] dX12_law_48 mlX12_321 ⟨hw.sub (p := 0) rfl, e_ov_get hw.1 (p := 0) rfl rfl⟩ rfl rfl (mX12_readClause hw hc3) ⟨Nat.le_of_ble_eq_true rfl, Nat.le_of_ble_eq_true rfl⟩ rfl rfl (Nat.le_of_ble_eq_true rfl) ⟨Nat.le_refl _, Nat.le_refl _⟩ rfl ?_
    exact tX12_law_L51 hw _ hf
  · have hf := e_ift hf h
    refine E.aload_n 0 dX12_law_16 rfl ?_
    refine E.iconst (v := 0) dX12_law_17 (by decide) ?_
    refine E.put (es' := (wM G b o 0 v_status a_refusals a_row a_images a_isKept a_tape 0 v_from v_to v_sort v_worth v_fault v_bad v_nClauses a_nClause v_nCode a_nOp a_nArg v_nLeaves a_pile a_pileAt v_piled v_opened a_words a_headWords v_law a_set a_rest v_broken v_value v_sum a_chances a_votes a_costs a_table a_prices v_surely a_mostBy a_leastBy v_between v_steadyWays v_quashed v_but a_figures a_all a_lies a_since v_last v_state)) hw 0 o dX12_law_18 flX12_184 ftX12 rfl rfl rfl rfl rfl rfl (Nat.le_of_ble_eq_true rfl) rfl ?_
    refine E.aload_n 0 dX12_law_21 rfl ?_
    refine E.bipush (v := -5) dX12_law_22 (by decide) ?_
    obtain ⟨r4, hc4, hf⟩ := e_bind hf
    refine E.callVD [] dX12_law_24 mlX12_138 ⟨hw.sub (p := 0) rfl, e_ov_get hw.1 (p := 0) rfl rfl⟩ rfl rfl (mX12_tell hw hc4) ⟨Nat.le_of_ble_eq_true rfl, Nat.le_of_ble_eq_true rfl⟩ rfl rfl (Nat.le_of_ble_eq_true rfl) ⟨Nat.le_refl _, Nat.le_refl _⟩ rfl ?_
    cases hf
    exact E.iret dX12_law_27 (Nat.le_refl _) (Nat.le_refl _) (pD_rf _ _ _)
set_option maxRecDepth 100000 in
theorem mX12_law {G : GT} {b : Nat} {o : Nat} {c0 : Hp} {n : Nat} (hw : e_wf (kM o) n) {a_images : Nat → Int32} {a_isKept : Nat → Int32} {v_law : Int32} {a_set : Nat → Int64} {a_rest : Nat → Int64} {v_broken : Int32} {v_value : Int64} {v_sum : Int64} {a_chances : Nat → Int32} {a_votes : Nat → Int64} {a_costs : Nat → Int32} {a_table : Nat → Int64} {a_prices : Nat → Int32} {v_surely : Int64} {a_mostBy : Nat → Int64} {a_leastBy : Nat → Int64} {v_between : Int64} {v_steadyWays : Int32} {v_quashed : Int32} {v_but : Int32} {a_figures : Nat → Int32} {a_all : Nat → Int32} {a_lies : Nat → Int32} {a_since : Nat → Int32} {v_last : Int32} {v_state : Int64} {Fu : Nat} {v_thrown : Int32} {v_status : Int32} {a_refusals : Nat → Int32} {a_row : Nat → Int32} {a_tape : Nat → Int32} {v_taped : Int32} {v_from : Int32} {v_to : Int32} {v_sort : Int32} {v_worth : Int64} {v_fault : Int32} {v_bad : Int32} {v_nClauses : Int32} {a_nClause : Nat → Int32} {v_nCode : Int32} {a_nOp : Nat → Int32} {a_nArg : Nat → Int32} {v_nLeaves : Int32} {a_pile : Nat → Int32} {a_pileAt : Nat → Int32} {v_piled : Int32} {v_opened : Int32} {a_words : Nat → Int64} {a_headWords : Nat → Int64} {R : Int32 × Int32 × Int32 × (Nat → Int32) × (Nat → Int32) × Int32 × Int32 × Int32 × Int32 × Int64 × Int32 × Int32 × Int32 × (Nat → Int32) × Int32 × (Nat → Int32) × (Nat → Int32) × Int32 × (Nat → Int32) × (Nat → Int32) × Int32 × Int32} (hf : fX12_law Fu v_thrown v_status a_refusals a_row a_tape v_taped v_from v_to v_sort v_worth v_fault v_bad v_nClauses a_nClause v_nCode a_nOp a_nArg v_nLeaves a_pile a_pileAt v_piled v_opened a_words a_headWords = some R) : e_C G b yX12_law cX12_law 3 (some .int) 8 0 0 [.ref (b + o)] (e_ov (kM o) (wM G b o v_thrown v_status a_refusals a_row a_images a_isKept a_tape v_taped v_from v_to v_sort v_worth v_fault v_bad v_nClauses a_nClause v_nCode a_nOp a_nArg v_nLeaves a_pile a_pileAt v_piled v_opened a_words a_headWords v_law a_set a_rest v_broken v_value v_sum a_chances a_votes a_costs a_table a_prices v_surely a_mostBy a_leastBy v_between v_steadyWays v_quashed v_but a_figures a_all a_lies a_since v_last v_state) c0) n (pD (some (.int R.1)) (e_ov (kM o) (wM G b o R.2.1 R.2.2.1 R.2.2.2.1 R.2.2.2.2.1 a_images a_isKept a_tape R.2.2.2.2.2.1 R.2.2.2.2.2.2.1 R.2.2.2.2.2.2.2.1 R.2.2.2.2.2.2.2.2.1 R.2.2.2.2.2.2.2.2.2.1 R.2.2.2.2.2.2.2.2.2.2.1 R.2.2.2.2.2.2.2.2.2.2.2.1 R.2.2.2.2.2.2.2.2.2.2.2.2.1 R.2.2.2.2.2.2.2.2.2.2.2.2.2.1 R.2.2.2.2.2.2.2.2.2.2.2.2.2.2.1 R.2.2.2.2.2.2.2.2.2.2.2.2.2.2.2.1 R.2.2.2.2.2.2.2.2.2.2.2.2.2.2.2.2.1 R.2.2.2.2.2.2.2.2.2.2.2.2.2.2.2.2.2.1 R.2.2.2.2.2.2.2.2.2.2.2.2.2.2.2.2.2.2.1 R.2.2.2.2.2.2.2.2.2.2.2.2.2.2.2.2.2.2.2.1 R.2.2.2.2.2.2.2.2.2.2.2.2.2.2.2.2.2.2.2.2.1 R.2.2.2.2.2.2.2.2.2.2.2.2.2.2.2.2.2.2.2.2.2 a_words a_headWords v_law a_set a_rest v_broken v_value v_sum a_chances a_votes a_costs a_table a_prices v_surely a_mostBy a_leastBy v_between v_steadyWays v_quashed v_but a_figures a_all a_lies a_since v_last v_state) c0) n) := e_C.of (by decide) (Nat.le_of_ble_eq_true rfl) (tX12_law hw hf)
def fX12_force_L28 (v_thrown : Int32) (v_status : Int32) (a_refusals : Nat → Int32) (a_row : Nat → Int32) (x1 : Int32) : Option (Int32 × Int32 × Int32 × (Nat → Int32) × (Nat → Int32)) := (fX12_change v_status a_row 3 x1).bind fun r4 => (some (r4.1, v_thrown, r4.2.1, a_refusals, r4.2.2))
set_option maxHeartbeats 4000000 in
set_option maxRecDepth 100000 in
theorem tX12_force_L28 {G : GT} {b : Nat} {o : Nat} {c0 : Hp} {n : Nat} (hw : e_wf (kM o) n) {a_images : Nat → Int32} {a_isKept : Nat → Int32} {a_tape : Nat → Int32} {v_taped : Int32} {v_from : Int32} {v_to : Int32} {v_sort : Int32} {v_worth : Int64} {v_fault : Int32} {v_bad : Int32} {v_nClauses : Int32} {a_nClause : Nat → Int32} {v_nCode : Int32} {a_nOp : Nat → Int32} {a_nArg : Nat → Int32} {v_nLeaves : Int32} {a_pile : Nat → Int32} {a_pileAt : Nat → Int32} {v_piled : Int32} {v_opened : Int32} {a_words : Nat → Int64} {a_headWords : Nat → Int64} {v_law : Int32} {a_set : Nat → Int64} {a_rest : Nat → Int64} {v_broken : Int32} {v_value : Int64} {v_sum : Int64} {a_chances : Nat → Int32} {a_votes : Nat → Int64} {a_costs : Nat → Int32} {a_table : Nat → Int64} {a_prices : Nat → Int32} {v_surely : Int64} {a_mostBy : Nat → Int64} {a_leastBy : Nat → Int64} {v_between : Int64} {v_steadyWays : Int32} {v_quashed : Int32} {v_but : Int32} {a_figures : Nat → Int32} {a_all : Nat → Int32} {a_lies : Nat → Int32} {a_since : Nat → Int32} {v_last : Int32} {v_state : Int64} {v_thrown : Int32} {v_status : Int32} {a_refusals : Nat → Int32} {a_row : Nat → Int32} {x1 : Int32} {R : Int32 × Int32 × Int32 × (Nat → Int32) × (Nat → Int32)} (hf : fX12_force_L28 v_thrown v_status a_refusals a_row x1 = some R) : E G b yX12_force cX12_force 2 (some .int) (e_rm 2 0 0) e_X0 (e_Z G b (pD (some (.int R.1)) (e_ov (kM o) (wM G b o R.2.1 R.2.2.1 R.2.2.2.1 R.2.2.2.2 a_images a_isKept a_tape v_taped v_from v_to v_sort v_worth v_fault v_bad v_nClauses a_nClause v_nCode a_nOp a_nArg v_nLeaves a_pile a_pileAt v_piled v_opened a_words a_headWords v_law a_set a_rest v_broken v_value v_sum a_chances a_votes a_costs a_table a_prices v_surely a_mostBy a_leastBy v_between v_steadyWays v_quashed v_but a_figures a_all a_lies a_since v_last v_state) c0) n) 0 0) 28 [(0, .ref (b + o)), (1, .int x1)] [] (e_ov (kM o) (wM G b o v_thrown v_status a_refusals a_row a_images a_isKept a_tape v_taped v_from v_to v_sort v_worth v_fault v_bad v_nClauses a_nClause v_nCode a_nOp a_nArg v_nLeaves a_pile a_pileAt v_piled v_opened a_words a_headWords v_law a_set a_rest v_broken v_value v_sum a_chances a_votes a_costs a_table a_prices v_surely a_mostBy a_leastBy v_between v_steadyWays v_quashed v_but a_figures a_all a_lies a_since v_last v_state) c0) n 0 0 := by
  unfold fX12_force_L28 at hf
  refine E.aload_n 0 dX12_force_28 rfl ?_
  refine E.iconst (v := 3) dX12_force_29 (by decide) ?_
  refine E.iload_n 1 dX12_force_30 rfl ?_
  obtain ⟨r4, hc4, hf⟩ := e_bind hf
  refine E.callVD [] dX12_force_31 mlX12_157 ⟨hw.sub (p := 0) rfl, e_ov_get hw.1 (p := 0) rfl rfl⟩ rfl rfl (mX12_change hw hc4) ⟨Nat.le_of_ble_eq_true rfl, Nat.le_of_ble_eq_true rfl⟩ rfl rfl (Nat.le_of_ble_eq_true rfl) ⟨Nat.le_refl _, Nat.le_refl _⟩ rfl ?_
  refine E.goto dX12_force_34 ?_
  cases hf
  exact E.iret dX12_force_43 (Nat.le_refl _) (Nat.le_refl _) (pD_rf _ _ _)
def fX12_force (v_thrown : Int32) (v_status : Int32) (a_refusals : Nat → Int32) (a_row : Nat → Int32) (x1 : Int32) : Option (Int32 × Int32 × Int32 × (Nat → Int32) × (Nat → Int32)) := if (x1 : Int32) = ((-1 : Int32) : Int32) then (fX12_force_L28 0 v_status a_refusals a_row x1) else (gd 2 5570 ((fX12_in ((x1 : Int32).toInt64) 0 ((((a_row (2 : Int32).toNatClampNeg) : Int32).toInt64) - 1)).bind fun r2 => (if (r2 : Int32) = 0 then ((fX12_tell v_status a_refusals (-2 : Int32)).bind fun r3 => (some (r3.1, 0, r3.2.1, r3.2.2, a_row))) else (fX12_force_L28 0 v_status a_refusals a_row x1))))
set_option maxHeartbeats 4000000 in
set_option maxRecDepth 100000 in
theorem tX12_force {G : GT} {b : Nat} {o : Nat} {c0 : Hp} {n : Nat} (hw : e_wf (kM o) n) {a_images : Nat → Int32} {a_isKept : Nat → Int32} {a_tape : Nat → Int32} {v_taped : Int32} {v_from : Int32} {v_to : Int32} {v_sort : Int32} {v_worth : Int64} {v_fault : Int32} {v_bad : Int32} {v_nClauses : Int32} {a_nClause : Nat → Int32} {v_nCode : Int32} {a_nOp : Nat → Int32} {a_nArg : Nat → Int32} {v_nLeaves : Int32} {a_pile : Nat → Int32} {a_pileAt : Nat → Int32} {v_piled : Int32} {v_opened : Int32} {a_words : Nat → Int64} {a_headWords : Nat → Int64} {v_law : Int32} {a_set : Nat → Int64} {a_rest : Nat → Int64} {v_broken : Int32} {v_value : Int64} {v_sum : Int64} {a_chances : Nat → Int32} {a_votes : Nat → Int64} {a_costs : Nat → Int32} {a_table : Nat → Int64} {a_prices : Nat → Int32} {v_surely : Int64} {a_mostBy : Nat → Int64} {a_leastBy : Nat → Int64} {v_between : Int64} {v_steadyWays : Int32} {v_quashed : Int32} {v_but : Int32} {a_figures : Nat → Int32} {a_all : Nat → Int32} {a_lies : Nat → Int32} {a_since : Nat → Int32} {v_last : Int32} {v_state : Int64} {v_thrown : Int32} {v_status : Int32} {a_refusals : Nat → Int32} {a_row : Nat → Int32} {x1 : Int32} {R : Int32 × Int32 × Int32 × (Nat → Int32) × (Nat → Int32)} (hf : fX12_force v_thrown v_status a_refusals a_row x1 = some R) : E G b yX12_force cX12_force 2 (some .int) (e_rm 2 0 0) e_X0 (e_Z G b (pD (some (.int R.1)) (e_ov (kM o) (wM G b o R.2.1 R.2.2.1 R.2.2.2.1 R.2.2.2.2 a_images a_isKept a_tape v_taped v_from v_to v_sort v_worth v_fault v_bad v_nClauses a_nClause v_nCode a_nOp a_nArg v_nLeaves a_pile a_pileAt v_piled v_opened a_words a_headWords v_law a_set a_rest v_broken v_value v_sum a_chances a_votes a_costs a_table a_prices v_surely a_mostBy a_leastBy v_between v_steadyWays v_quashed v_but a_figures a_all a_lies a_since v_last v_state) c0) n) 0 0) 0 [(0, .ref (b + o)), (1, .int x1)] [] (e_ov (kM o) (wM G b o v_thrown v_status a_refusals a_row a_images a_isKept a_tape v_taped v_from v_to v_sort v_worth v_fault v_bad v_nClauses a_nClause v_nCode a_nOp a_nArg v_nLeaves a_pile a_pileAt v_piled v_opened a_words a_headWords v_law a_set a_rest v_broken v_value v_sum a_chances a_votes a_costs a_table a_prices v_surely a_mostBy a_leastBy v_between v_steadyWays v_quashed v_but a_figures a_all a_lies a_since v_last v_state) c0) n 0 0 := by
  unfold fX12_force at hf
  refine E.aload_n 0 dX12_force_0 rfl ?_
  refine E.iconst (v := 0) dX12_force_1 (by decide) ?_
  refine E.put (es' := (wM G b o 0 v_status a_refusals a_row a_images a_isKept a_tape v_taped v_from v_to v_sort v_worth v_fault v_bad v_nClauses a_nClause v_nCode a_nOp a_nArg v_nLeaves a_pile a_pileAt v_piled v_opened a_words a_headWords v_law a_set a_rest v_broken v_value v_sum a_chances a_votes a_costs a_table a_prices v_surely a_mostBy a_leastBy v_between v_steadyWays v_quashed v_but a_figures a_all a_lies a_since v_last v_state)) hw 0 o dX12_force_2 flX12_124 ftX12 rfl rfl rfl rfl rfl rfl (Nat.le_of_ble_eq_true rfl) rfl ?_
  refine E.iload_n 1 dX12_force_5 rfl ?_
  refine E.iconst (v := -1) dX12_force_6 (by decide) ?_
  refine E.icmp_eq dX12_force_7 (fun h => ?_) (fun h => ?_)
  · have hf := e_ift hf h
    exact tX12_force_L28 hw hf
  · have hf := e_iff hf h
    refine E.iload_n 1 dX12_force_10 rfl ?_
    refine E.i2l dX12_force_11 ?_
    refine E.lconst (v := 0) dX12_force_12 (by decide) ?_
    refine E.aload_n 0 dX12_force_13 rfl ?_
    refine E.get hw 0 o dX12_force_14 flX12_13 rfl rfl rfl rfl ?_
    refine E.iconst (v := 2) dX12_force_17 (by decide) ?_
    obtain ⟨g1, hf⟩ := gd_some hf
    refine E.iald hw 2 (o + 2) dX12_force_18 rfl rfl g1 ?_
    refine E.i2l dX12_force_19 ?_
    refine E.lconst (v := 1) dX12_force_20 (by decide) ?_
    refine E.lsub dX12_force_21 ?_
    obtain ⟨r2, hc2, hf⟩ := e_bind hf
    refine E.callSD [] dX12_force_22 mlX12_134 (mX12_in hc2) ⟨Nat.le_of_ble_eq_true rfl, Nat.le_of_ble_eq_true rfl⟩ rfl rfl (Nat.le_of_ble_eq_true rfl) ⟨Nat.le_refl _, Nat.le_refl _⟩ rfl ?_
    refine E.if_eq dX12_force_25 (fun h => ?_) (fun h => ?_)
    · have hf := e_ift hf h
      refine E.aload_n 0 dX12_force_37 rfl ?_
      refine E.bipush (v := -2) dX12_force_38 (by decide) ?_
      obtain ⟨r3, hc3, hf⟩ := e_bind hf
      refine E.callVD [] dX12_force_40 mlX12_138 ⟨hw.sub (p := 0) rfl, e_ov_get hw.1 (p := 0) rfl rfl⟩ rfl rfl (mX12_tell hw hc3) ⟨Nat.le_of_ble_eq_true rfl, Nat.le_of_ble_eq_true rfl⟩ rfl rfl (Nat.le_of_ble_eq_true rfl) ⟨Nat.le_refl _, Nat.le_refl _⟩ rfl ?_
      cases hf
      exact E.iret dX12_force_43 (Nat.le_refl _) (Nat.le_refl _) (pD_rf _ _ _)
    · have hf := e_iff hf h
      exact tX12_force_L28 hw hf
set_option maxRecDepth 100000 in
theorem mX12_force {G : GT} {b : Nat} {o : Nat} {c0 : Hp} {n : Nat} (hw : e_wf (kM o) n) {a_images : Nat → Int32} {a_isKept : Nat → Int32} {a_tape : Nat → Int32} {v_taped : Int32} {v_from : Int32} {v_to : Int32} {v_sort : Int32} {v_worth : Int64} {v_fault : Int32} {v_bad : Int32} {v_nClauses : Int32} {a_nClause : Nat → Int32} {v_nCode : Int32} {a_nOp : Nat → Int32} {a_nArg : Nat → Int32} {v_nLeaves : Int32} {a_pile : Nat → Int32} {a_pileAt : Nat → Int32} {v_piled : Int32} {v_opened : Int32} {a_words : Nat → Int64} {a_headWords : Nat → Int64} {v_law : Int32} {a_set : Nat → Int64} {a_rest : Nat → Int64} {v_broken : Int32} {v_value : Int64} {v_sum : Int64} {a_chances : Nat → Int32} {a_votes : Nat → Int64} {a_costs : Nat → Int32} {a_table : Nat → Int64} {a_prices : Nat → Int32} {v_surely : Int64} {a_mostBy : Nat → Int64} {a_leastBy : Nat → Int64} {v_between : Int64} {v_steadyWays : Int32} {v_quashed : Int32} {v_but : Int32} {a_figures : Nat → Int32} {a_all : Nat → Int32} {a_lies : Nat → Int32} {a_since : Nat → Int32} {v_last : Int32} {v_state : Int64} {v_thrown : Int32} {v_status : Int32} {a_refusals : Nat → Int32} {a_row : Nat → Int32} {x1 : Int32} {R : Int32 × Int32 × Int32 × (Nat → Int32) × (Nat → Int32)} (hf : fX12_force v_thrown v_status a_refusals a_row x1 = some R) : e_C G b yX12_force cX12_force 2 (some .int) 2 0 0 [.ref (b + o), .int x1] (e_ov (kM o) (wM G b o v_thrown v_status a_refusals a_row a_images a_isKept a_tape v_taped v_from v_to v_sort v_worth v_fault v_bad v_nClauses a_nClause v_nCode a_nOp a_nArg v_nLeaves a_pile a_pileAt v_piled v_opened a_words a_headWords v_law a_set a_rest v_broken v_value v_sum a_chances a_votes a_costs a_table a_prices v_surely a_mostBy a_leastBy v_between v_steadyWays v_quashed v_but a_figures a_all a_lies a_since v_last v_state) c0) n (pD (some (.int R.1)) (e_ov (kM o) (wM G b o R.2.1 R.2.2.1 R.2.2.2.1 R.2.2.2.2 a_images a_isKept a_tape v_taped v_from v_to v_sort v_worth v_fault v_bad v_nClauses a_nClause v_nCode a_nOp a_nArg v_nLeaves a_pile a_pileAt v_piled v_opened a_words a_headWords v_law a_set a_rest v_broken v_value v_sum a_chances a_votes a_costs a_table a_prices v_surely a_mostBy a_leastBy v_between v_steadyWays v_quashed v_but a_figures a_all a_lies a_since v_last v_state) c0) n) := e_C.of (by decide) (Nat.le_of_ble_eq_true rfl) (tX12_force hw hf)
def fX12_reckon_L68 (v_broken : Int32) (x2 : Int64) (x4 : Int64) (s0 : Int32) : Option (Int64 × Int32) := gb s0 (if (s0 : Int32) = 0 then (gzl x4 (some ((x2 / x4), s0))) else (some (0, s0)))
set_option maxHeartbeats 4000000 in
set_option maxRecDepth 100000 in
theorem tX12_reckon_L68 {G : GT} {b : Nat} {o : Nat} {c0 : Hp} {n : Nat} (hw : e_wf (kM o) n) {v_thrown : Int32} {v_status : Int32} {a_refusals : Nat → Int32} {a_row : Nat → Int32} {a_images : Nat → Int32} {a_isKept : Nat → Int32} {a_tape : Nat → Int32} {v_taped : Int32} {v_from : Int32} {v_to : Int32} {v_sort : Int32} {v_worth : Int64} {v_fault : Int32} {v_bad : Int32} {v_nClauses : Int32} {a_nClause : Nat → Int32} {v_nCode : Int32} {a_nOp : Nat → Int32} {a_nArg : Nat → Int32} {v_nLeaves : Int32} {a_pile : Nat → Int32} {a_pileAt : Nat → Int32} {v_piled : Int32} {v_opened : Int32} {a_words : Nat → Int64} {a_headWords : Nat → Int64} {v_law : Int32} {a_set : Nat → Int64} {a_rest : Nat → Int64} {v_value : Int64} {v_sum : Int64} {a_chances : Nat → Int32} {a_votes : Nat → Int64} {a_costs : Nat → Int32} {a_table : Nat → Int64} {a_prices : Nat → Int32} {v_surely : Int64} {a_mostBy : Nat → Int64} {a_leastBy : Nat → Int64} {v_between : Int64} {v_steadyWays : Int32} {v_quashed : Int32} {v_but : Int32} {a_figures : Nat → Int32} {a_all : Nat → Int32} {a_lies : Nat → Int32} {a_since : Nat → Int32} {v_last : Int32} {v_state : Int64} {v_broken : Int32} {x2 : Int64} {x4 : Int64} {s0 : Int32} {R : Int64 × Int32} (hf : fX12_reckon_L68 v_broken x2 x4 s0 = some R) : E G b yX12_reckon cX12_reckon 6 (some .long) (e_rm 0 0 0) e_X0 (e_Z G b (pD (some (.long R.1)) (e_ov (kM o) (wM G b o v_thrown v_status a_refusals a_row a_images a_isKept a_tape v_taped v_from v_to v_sort v_worth v_fault v_bad v_nClauses a_nClause v_nCode a_nOp a_nArg v_nLeaves a_pile a_pileAt v_piled v_opened a_words a_headWords v_law a_set a_rest R.2 v_value v_sum a_chances a_votes a_costs a_table a_prices v_surely a_mostBy a_leastBy v_between v_steadyWays v_quashed v_but a_figures a_all a_lies a_since v_last v_state) c0) n) 0 0) 68 [(0, .ref (b + o)), (2, .long x2), (4, .long x4)] [.int s0, .ref (b + o)] (e_ov (kM o) (wM G b o v_thrown v_status a_refusals a_row a_images a_isKept a_tape v_taped v_from v_to v_sort v_worth v_fault v_bad v_nClauses a_nClause v_nCode a_nOp a_nArg v_nLeaves a_pile a_pileAt v_piled v_opened a_words a_headWords v_law a_set a_rest v_broken v_value v_sum a_chances a_votes a_costs a_table a_prices v_surely a_mostBy a_leastBy v_between v_steadyWays v_quashed v_but a_figures a_all a_lies a_since v_last v_state) c0) n 0 0 := by
  unfold fX12_reckon_L68 at hf
  obtain ⟨g1, hf⟩ := gb_some hf
  refine E.put (es' := (wM G b o v_thrown v_status a_refusals a_row a_images a_isKept a_tape v_taped v_from v_to v_sort v_worth v_fault v_bad v_nClauses a_nClause v_nCode a_nOp a_nArg v_nLeaves a_pile a_pileAt v_piled v_opened a_words a_headWords v_law a_set a_rest s0 v_value v_sum a_chances a_votes a_costs a_table a_prices v_surely a_mostBy a_leastBy v_between v_steadyWays v_quashed v_but a_figures a_all a_lies a_since v_last v_state)) hw 0 o dX12_reckon_68 flX12_324 ftX12 rfl rfl rfl rfl (nb01 g1) (fb01 g1) (Nat.le_of_ble_eq_true rfl) rfl ?_
  refine E.aload_n 0 dX12_reckon_71 rfl ?_
  refine E.get hw 0 o dX12_reckon_72 flX12_324 rfl rfl rfl rfl ?_
  refine E.if_eq dX12_reckon_75 (fun h => ?_) (fun h => ?_)
  · have hf := e_ift hf h
    refine E.lload_n 1 dX12_reckon_82 rfl ?_
    refine E.lload 2 dX12_reckon_83 rfl ?_
    obtain ⟨g2, hf⟩ := gzl_some hf
    refine E.ldiv dX12_reckon_85 g2 ?_
    cases hf
    exact E.lret dX12_reckon_86 (Nat.le_refl _) (Nat.le_refl _) (pD_rf _ _ _)
  · have hf := e_iff hf h
    refine E.lconst (v := 0) dX12_reckon_78 (by decide) ?_
    refine E.goto dX12_reckon_79 ?_
    cases hf
    exact E.lret dX12_reckon_86 (Nat.le_refl _) (Nat.le_refl _) (pD_rf _ _ _)
def fX12_reckon (v_broken : Int32) (x1 : Int32) (x2 : Int64) (x4 : Int64) : Option (Int64 × Int32) := if (x1 : Int32) = 20 then (some ((x2 + x4), v_broken)) else (if (x1 : Int32) = 21 then (some ((x2 - x4), v_broken)) else (if (x1 : Int32) = 22 then (some ((x2 * x4), v_broken)) else (if (x1 : Int32) = 23 then (if x4 = 0 then (fX12_reckon_L68 v_broken x2 x4 1) else (fX12_reckon_L68 v_broken x2 x4 0)) else (if (x1 : Int32) = 24 then (if x4 ≤ x2 then (some (0, v_broken)) else (some (1, v_broken))) else (if (x1 : Int32) = 25 then (if x2 ≤ x4 then (some (0, v_broken)) else (some (1, v_broken))) else (if x2 = x4 then (some (1, v_broken)) else (some (0, v_broken))))))))
set_option maxHeartbeats 4000000 in
set_option maxRecDepth 100000 in
theorem tX12_reckon {G : GT} {b : Nat} {o : Nat} {c0 : Hp} {n : Nat} (hw : e_wf (kM o) n) {v_thrown : Int32} {v_status : Int32} {a_refusals : Nat → Int32} {a_row : Nat → Int32} {a_images : Nat → Int32} {a_isKept : Nat → Int32} {a_tape : Nat → Int32} {v_taped : Int32} {v_from : Int32} {v_to : Int32} {v_sort : Int32} {v_worth : Int64} {v_fault : Int32} {v_bad : Int32} {v_nClauses : Int32} {a_nClause : Nat → Int32} {v_nCode : Int32} {a_nOp : Nat → Int32} {a_nArg : Nat → Int32} {v_nLeaves : Int32} {a_pile : Nat → Int32} {a_pileAt : Nat → Int32} {v_piled : Int32} {v_opened : Int32} {a_words : Nat → Int64} {a_headWords : Nat → Int64} {v_law : Int32} {a_set : Nat → Int64} {a_rest : Nat → Int64} {v_value : Int64} {v_sum : Int64} {a_chances : Nat → Int32} {a_votes : Nat → Int64} {a_costs : Nat → Int32} {a_table : Nat → Int64} {a_prices : Nat → Int32} {v_surely : Int64} {a_mostBy : Nat → Int64} {a_leastBy : Nat → Int64} {v_between : Int64} {v_steadyWays : Int32} {v_quashed : Int32} {v_but : Int32} {a_figures : Nat → Int32} {a_all : Nat → Int32} {a_lies : Nat → Int32} {a_since : Nat → Int32} {v_last : Int32} {v_state : Int64} {v_broken : Int32} {x1 : Int32} {x2 : Int64} {x4 : Int64} {R : Int64 × Int32} (hf : fX12_reckon v_broken x1 x2 x4 = some R) : E G b yX12_reckon cX12_reckon 6 (some .long) (e_rm 0 0 0) e_X0 (e_Z G b (pD (some (.long R.1)) (e_ov (kM o) (wM G b o v_thrown v_status a_refusals a_row a_images a_isKept a_tape v_taped v_from v_to v_sort v_worth v_fault v_bad v_nClauses a_nClause v_nCode a_nOp a_nArg v_nLeaves a_pile a_pileAt v_piled v_opened a_words a_headWords v_law a_set a_rest R.2 v_value v_sum a_chances a_votes a_costs a_table a_prices v_surely a_mostBy a_leastBy v_between v_steadyWays v_quashed v_but a_figures a_all a_lies a_since v_last v_state) c0) n) 0 0) 0 [(0, .ref (b + o)), (1, .int x1), (2, .long x2), (4, .long x4)] [] (e_ov (kM o) (wM G b o v_thrown v_status a_refusals a_row a_images a_isKept a_tape v_taped v_from v_to v_sort v_worth v_fault v_bad v_nClauses a_nClause v_nCode a_nOp a_nArg v_nLeaves a_pile a_pileAt v_piled v_opened a_words a_headWords v_law a_set a_rest v_broken v_value v_sum a_chances a_votes a_costs a_table a_prices v_surely a_mostBy a_leastBy v_between v_steadyWays v_quashed v_but a_figures a_all a_lies a_since v_last v_state) c0) n 0 0 := by
  unfold fX12_reckon at hf
  refine E.iload_n 1 dX12_reckon_0 rfl ?_
  by_cases h20 : (x1 : Int32) = 20
  · have hf := e_ift hf h20
    refine E.tswI (w := 20) (tgt := 40) dX12_reckon_1 h20 (by decide) (by decide) (o2 := 39) rfl (by decide) ?_
    refine E.lload_n 2 dX12_reckon_40 rfl ?_
    refine E.lload 3 dX12_reckon_41 rfl ?_
    refine E.ladd dX12_reckon_43 ?_
    cases hf
    exact E.lret dX12_reckon_44 (Nat.le_refl _) (Nat.le_refl _) (pD_rf _ _ _)
  · have hf := e_iff hf h20
    by_cases h21 : (x1 : Int32) = 21
    · have hf := e_ift hf h21
      refine E.tswI (w := 21) (tgt := 45) dX12_reckon_1 h21 (by decide) (by decide) (o2 := 44) rfl (by decide) ?_
      refine E.lload_n 2 dX12_reckon_45 rfl ?_
      refine E.lload 3 dX12_reckon_46 rfl ?_
      refine E.lsub dX12_reckon_48 ?_
      cases hf
      exact E.lret dX12_reckon_49 (Nat.le_refl _) (Nat.le_refl _) (pD_rf _ _ _)
    · have hf := e_iff hf h21
      by_cases h22 : (x1 : Int32) = 22
      · have hf := e_ift hf h22
        refine E.tswI (w := 22) (tgt := 50) dX12_reckon_1 h22 (by decide) (by decide) (o2 := 49) rfl (by decide) ?_
        refine E.lload_n 2 dX12_reckon_50 rfl ?_
        refine E.lload 3 dX12_reckon_51 rfl ?_
        refine E.lmul dX12_reckon_53 ?_
        cases hf
        exact E.lret dX12_reckon_54 (Nat.le_refl _) (Nat.le_refl _) (pD_rf _ _ _)
      · have hf := e_iff hf h22
        by_cases h23 : (x1 : Int32) = 23
        · have hf := e_ift hf h23
          refine E.tswI (w := 23) (tgt := 55) dX12_reckon_1 h23 (by decide) (by decide) (o2 := 54) rfl (by decide) ?_
          refine E.aload_n 0 dX12_reckon_55 rfl ?_
          refine E.lload 3 dX12_reckon_56 rfl ?_
          refine E.lconst (v := 0) dX12_reckon_58 (by decide) ?_
          refine E.lc_ne dX12_reckon_59 dX12_reckon_60 (fun h => ?_) (fun h => ?_)
          · have hf := e_iff hf h
            refine E.iconst (v := 0) dX12_reckon_67 (by decide) ?_
            refine E.locals [0, 2, 3] rfl ?_
            exact tX12_reckon_L68 hw hf
          · have hf := e_ift hf h
            refine E.iconst (v := 1) dX12_reckon_63 (by decide) ?_
            refine E.goto dX12_reckon_64 ?_
            refine E.locals [0, 2, 3] rfl ?_
            exact tX12_reckon_L68 hw hf
        · have hf := e_iff hf h23
          by_cases h24 : (x1 : Int32) = 24
          · have hf := e_ift hf h24
            refine E.tswI (w := 24) (tgt := 87) dX12_reckon_1 h24 (by decide) (by decide) (o2 := 86) rfl (by decide) ?_
            refine E.lload_n 2 dX12_reckon_87 rfl ?_
            refine E.lload 3 dX12_reckon_88 rfl ?_
            refine E.lc_ge dX12_reckon_90 dX12_reckon_91 (fun h => ?_) (fun h => ?_)
            · have hf := e_ift hf h
              refine E.lconst (v := 0) dX12_reckon_98 (by decide) ?_
              cases hf
              exact E.lret dX12_reckon_99 (Nat.le_refl _) (Nat.le_refl _) (pD_rf _ _ _)
            · have hf := e_iff hf h
              refine E.lconst (v := 1) dX12_reckon_94 (by decide) ?_
              refine E.goto dX12_reckon_95 ?_
              cases hf
              exact E.lret dX12_reckon_99 (Nat.le_refl _) (Nat.le_refl _) (pD_rf _ _ _)
          · have hf := e_iff hf h24
            by_cases h25 : (x1 : Int32) = 25
            · have hf := e_ift hf h25
              refine E.tswI (w := 25) (tgt := 100) dX12_reckon_1 h25 (by decide) (by decide) (o2 := 99) rfl (by decide) ?_
              refine E.lload_n 2 dX12_reckon_100 rfl ?_
              refine E.lload 3 dX12_reckon_101 rfl ?_
              refine E.lc_le dX12_reckon_103 dX12_reckon_104 (fun h => ?_) (fun h => ?_)
              · have hf := e_ift hf h
                refine E.lconst (v := 0) dX12_reckon_111 (by decide) ?_
                cases hf
                exact E.lret dX12_reckon_112 (Nat.le_refl _) (Nat.le_refl _) (pD_rf _ _ _)
              · have hf := e_iff hf h
                refine E.lconst (v := 1) dX12_reckon_107 (by decide) ?_
                refine E.goto dX12_reckon_108 ?_
                cases hf
                exact E.lret dX12_reckon_112 (Nat.le_refl _) (Nat.le_refl _) (pD_rf _ _ _)
            · have hf := e_iff hf h25
              refine E.tswO (tgt := 113) dX12_reckon_1 (e_tsw_6 (ne_toInt h20 (k := 20) (by decide)) (ne_toInt h21 (k := 21) (by decide)) (ne_toInt h22 (k := 22) (by decide)) (ne_toInt h23 (k := 23) (by decide)) (ne_toInt h24 (k := 24) (by decide)) (ne_toInt h25 (k := 25) (by decide)) (by decide) (by decide) (by decide) (by decide) (by decide) (by decide) (by decide)) (by decide) ?_
              refine E.lload_n 2 dX12_reckon_113 rfl ?_
              refine E.lload 3 dX12_reckon_114 rfl ?_
              refine E.lc_ne dX12_reckon_116 dX12_reckon_117 (fun h => ?_) (fun h => ?_)
              · have hf := e_iff hf h
                refine E.lconst (v := 0) dX12_reckon_124 (by decide) ?_
                cases hf
                exact E.lret dX12_reckon_125 (Nat.le_refl _) (Nat.le_refl _) (pD_rf _ _ _)
              · have hf := e_ift hf h
                refine E.lconst (v := 1) dX12_reckon_120 (by decide) ?_
                refine E.goto dX12_reckon_121 ?_
                cases hf
                exact E.lret dX12_reckon_125 (Nat.le_refl _) (Nat.le_refl _) (pD_rf _ _ _)
set_option maxRecDepth 100000 in
theorem mX12_reckon {G : GT} {b : Nat} {o : Nat} {c0 : Hp} {n : Nat} (hw : e_wf (kM o) n) {v_thrown : Int32} {v_status : Int32} {a_refusals : Nat → Int32} {a_row : Nat → Int32} {a_images : Nat → Int32} {a_isKept : Nat → Int32} {a_tape : Nat → Int32} {v_taped : Int32} {v_from : Int32} {v_to : Int32} {v_sort : Int32} {v_worth : Int64} {v_fault : Int32} {v_bad : Int32} {v_nClauses : Int32} {a_nClause : Nat → Int32} {v_nCode : Int32} {a_nOp : Nat → Int32} {a_nArg : Nat → Int32} {v_nLeaves : Int32} {a_pile : Nat → Int32} {a_pileAt : Nat → Int32} {v_piled : Int32} {v_opened : Int32} {a_words : Nat → Int64} {a_headWords : Nat → Int64} {v_law : Int32} {a_set : Nat → Int64} {a_rest : Nat → Int64} {v_value : Int64} {v_sum : Int64} {a_chances : Nat → Int32} {a_votes : Nat → Int64} {a_costs : Nat → Int32} {a_table : Nat → Int64} {a_prices : Nat → Int32} {v_surely : Int64} {a_mostBy : Nat → Int64} {a_leastBy : Nat → Int64} {v_between : Int64} {v_steadyWays : Int32} {v_quashed : Int32} {v_but : Int32} {a_figures : Nat → Int32} {a_all : Nat → Int32} {a_lies : Nat → Int32} {a_since : Nat → Int32} {v_last : Int32} {v_state : Int64} {v_broken : Int32} {x1 : Int32} {x2 : Int64} {x4 : Int64} {R : Int64 × Int32} (hf : fX12_reckon v_broken x1 x2 x4 = some R) : e_C G b yX12_reckon cX12_reckon 6 (some .long) 0 0 0 [.ref (b + o), .int x1, .long x2, .long x4] (e_ov (kM o) (wM G b o v_thrown v_status a_refusals a_row a_images a_isKept a_tape v_taped v_from v_to v_sort v_worth v_fault v_bad v_nClauses a_nClause v_nCode a_nOp a_nArg v_nLeaves a_pile a_pileAt v_piled v_opened a_words a_headWords v_law a_set a_rest v_broken v_value v_sum a_chances a_votes a_costs a_table a_prices v_surely a_mostBy a_leastBy v_between v_steadyWays v_quashed v_but a_figures a_all a_lies a_since v_last v_state) c0) n (pD (some (.long R.1)) (e_ov (kM o) (wM G b o v_thrown v_status a_refusals a_row a_images a_isKept a_tape v_taped v_from v_to v_sort v_worth v_fault v_bad v_nClauses a_nClause v_nCode a_nOp a_nArg v_nLeaves a_pile a_pileAt v_piled v_opened a_words a_headWords v_law a_set a_rest R.2 v_value v_sum a_chances a_votes a_costs a_table a_prices v_surely a_mostBy a_leastBy v_between v_steadyWays v_quashed v_but a_figures a_all a_lies a_since v_last v_state) c0) n) := e_C.of (by decide) (Nat.le_of_ble_eq_true rfl) (tX12_reckon hw hf)
