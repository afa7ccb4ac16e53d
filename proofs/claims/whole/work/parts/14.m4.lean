def fX12_reckonAll_L260 (Fu : Nat) (a_row : Nat → Int32) (v_law : Int32) (a_set : Nat → Int64) (a_rest : Nat → Int64) (v_broken : Int32) (v_value : Int64) (s0 : Int64) : Option ((Nat → Int64) × Int32 × Int64) := some (a_rest, v_broken, s0)
set_option maxHeartbeats 4000000 in
set_option maxRecDepth 100000 in
theorem tX12_reckonAll_L260 {G : GT} {b : Nat} {o : Nat} {c0 : Hp} {n : Nat} (hw : e_wf (kM o) n) {v_thrown : Int32} {v_status : Int32} {a_refusals : Nat → Int32} {a_images : Nat → Int32} {a_isKept : Nat → Int32} {a_tape : Nat → Int32} {v_taped : Int32} {v_from : Int32} {v_to : Int32} {v_sort : Int32} {v_worth : Int64} {v_fault : Int32} {v_bad : Int32} {v_nClauses : Int32} {a_nClause : Nat → Int32} {v_nCode : Int32} {a_nOp : Nat → Int32} {a_nArg : Nat → Int32} {v_nLeaves : Int32} {a_pile : Nat → Int32} {a_pileAt : Nat → Int32} {v_piled : Int32} {v_opened : Int32} {a_words : Nat → Int64} {a_headWords : Nat → Int64} {v_sum : Int64} {a_chances : Nat → Int32} {a_votes : Nat → Int64} {a_costs : Nat → Int32} {a_table : Nat → Int64} {a_prices : Nat → Int32} {v_surely : Int64} {a_mostBy : Nat → Int64} {a_leastBy : Nat → Int64} {v_between : Int64} {v_steadyWays : Int32} {v_quashed : Int32} {v_but : Int32} {a_figures : Nat → Int32} {a_all : Nat → Int32} {a_lies : Nat → Int32} {a_since : Nat → Int32} {v_last : Int32} {v_state : Int64} {Fu : Nat} {a_row : Nat → Int32} {v_law : Int32} {a_set : Nat → Int64} {a_rest : Nat → Int64} {v_broken : Int32} {v_value : Int64} {s0 : Int64} {R : (Nat → Int64) × Int32 × Int64} (hf : fX12_reckonAll_L260 Fu a_row v_law a_set a_rest v_broken v_value s0 = some R) : E G b yX12_reckonAll cX12_reckonAll 7 none (e_rm 1 0 0) e_X0 (e_Z G b (pD none (e_ov (kM o) (wM G b o v_thrown v_status a_refusals a_row a_images a_isKept a_tape v_taped v_from v_to v_sort v_worth v_fault v_bad v_nClauses a_nClause v_nCode a_nOp a_nArg v_nLeaves a_pile a_pileAt v_piled v_opened a_words a_headWords v_law a_set R.1 R.2.1 R.2.2 v_sum a_chances a_votes a_costs a_table a_prices v_surely a_mostBy a_leastBy v_between v_steadyWays v_quashed v_but a_figures a_all a_lies a_since v_last v_state) c0) n) 0 0) 260 [] [.long s0, .ref (b + o)] (e_ov (kM o) (wM G b o v_thrown v_status a_refusals a_row a_images a_isKept a_tape v_taped v_from v_to v_sort v_worth v_fault v_bad v_nClauses a_nClause v_nCode a_nOp a_nArg v_nLeaves a_pile a_pileAt v_piled v_opened a_words a_headWords v_law a_set a_rest v_broken v_value v_sum a_chances a_votes a_costs a_table a_prices v_surely a_mostBy a_leastBy v_between v_steadyWays v_quashed v_but a_figures a_all a_lies a_since v_last v_state) c0) n 0 0 := by
  unfold fX12_reckonAll_L260 at hf
  refine E.put (es' := (wM G b o v_thrown v_status a_refusals a_row a_images a_isKept a_tape v_taped v_from v_to v_sort v_worth v_fault v_bad v_nClauses a_nClause v_nCode a_nOp a_nArg v_nLeaves a_pile a_pileAt v_piled v_opened a_words a_headWords v_law a_set a_rest v_broken s0 v_sum a_chances a_votes a_costs a_table a_prices v_surely a_mostBy a_leastBy v_between v_steadyWays v_quashed v_but a_figures a_all a_lies a_since v_last v_state)) hw 0 o dX12_reckonAll_260 flX12_338 ftX12 rfl rfl rfl rfl rfl rfl (Nat.le_of_ble_eq_true rfl) rfl ?_
  cases hf
  exact E.vret dX12_reckonAll_263 (Nat.le_refl _) (Nat.le_refl _) (pD_rf _ _ _)
def fX12_reckonAll_L245 (Fu : Nat) (a_row : Nat → Int32) (v_law : Int32) (a_set : Nat → Int64) (a_rest : Nat → Int64) (v_broken : Int32) (v_value : Int64) (x3 : Int32) : Option ((Nat → Int64) × Int32 × Int64) := if (x3 : Int32) ≤ 0 then (fX12_reckonAll_L260 Fu a_row v_law a_set a_rest v_broken v_value 0) else (gd 0 400 (fX12_reckonAll_L260 Fu a_row v_law a_set a_rest v_broken v_value (a_rest (0 : Int32).toNatClampNeg)))
set_option maxHeartbeats 4000000 in
set_option maxRecDepth 100000 in
theorem tX12_reckonAll_L245 {G : GT} {b : Nat} {o : Nat} {c0 : Hp} {n : Nat} (hw : e_wf (kM o) n) {v_thrown : Int32} {v_status : Int32} {a_refusals : Nat → Int32} {a_images : Nat → Int32} {a_isKept : Nat → Int32} {a_tape : Nat → Int32} {v_taped : Int32} {v_from : Int32} {v_to : Int32} {v_sort : Int32} {v_worth : Int64} {v_fault : Int32} {v_bad : Int32} {v_nClauses : Int32} {a_nClause : Nat → Int32} {v_nCode : Int32} {a_nOp : Nat → Int32} {a_nArg : Nat → Int32} {v_nLeaves : Int32} {a_pile : Nat → Int32} {a_pileAt : Nat → Int32} {v_piled : Int32} {v_opened : Int32} {a_words : Nat → Int64} {a_headWords : Nat → Int64} {v_sum : Int64} {a_chances : Nat → Int32} {a_votes : Nat → Int64} {a_costs : Nat → Int32} {a_table : Nat → Int64} {a_prices : Nat → Int32} {v_surely : Int64} {a_mostBy : Nat → Int64} {a_leastBy : Nat → Int64} {v_between : Int64} {v_steadyWays : Int32} {v_quashed : Int32} {v_but : Int32} {a_figures : Nat → Int32} {a_all : Nat → Int32} {a_lies : Nat → Int32} {a_since : Nat → Int32} {v_last : Int32} {v_state : Int64} {Fu : Nat} {a_row : Nat → Int32} {v_law : Int32} {a_set : Nat → Int64} {a_rest : Nat → Int64} {v_broken : Int32} {v_value : Int64} {x3 : Int32} {R : (Nat → Int64) × Int32 × Int64} (hf : fX12_reckonAll_L245 Fu a_row v_law a_set a_rest v_broken v_value x3 = some R) : E G b yX12_reckonAll cX12_reckonAll 7 none (e_rm 1 0 0) e_X0 (e_Z G b (pD none (e_ov (kM o) (wM G b o v_thrown v_status a_refusals a_row a_images a_isKept a_tape v_taped v_from v_to v_sort v_worth v_fault v_bad v_nClauses a_nClause v_nCode a_nOp a_nArg v_nLeaves a_pile a_pileAt v_piled v_opened a_words a_headWords v_law a_set R.1 R.2.1 R.2.2 v_sum a_chances a_votes a_costs a_table a_prices v_surely a_mostBy a_leastBy v_between v_steadyWays v_quashed v_but a_figures a_all a_lies a_since v_last v_state) c0) n) 0 0) 245 [(0, .ref (b + o)), (3, .int x3)] [] (e_ov (kM o) (wM G b o v_thrown v_status a_refusals a_row a_images a_isKept a_tape v_taped v_from v_to v_sort v_worth v_fault v_bad v_nClauses a_nClause v_nCode a_nOp a_nArg v_nLeaves a_pile a_pileAt v_piled v_opened a_words a_headWords v_law a_set a_rest v_broken v_value v_sum a_chances a_votes a_costs a_table a_prices v_surely a_mostBy a_leastBy v_between v_steadyWays v_quashed v_but a_figures a_all a_lies a_since v_last v_state) c0) n 0 0 := by
  unfold fX12_reckonAll_L245 at hf
  refine E.aload_n 0 dX12_reckonAll_245 rfl ?_
  refine E.iload_n 1 dX12_reckonAll_246 rfl ?_
  refine E.if_le dX12_reckonAll_247 (fun h => ?_) (fun h => ?_)
  · have hf := e_ift hf h
    refine E.lconst (v := 0) dX12_reckonAll_259 (by decide) ?_
    refine E.locals [] rfl ?_
    exact tX12_reckonAll_L260 hw hf
  · have hf := e_iff hf h
    refine E.aload_n 0 dX12_reckonAll_250 rfl ?_
    refine E.get hw 0 o dX12_reckonAll_251 flX12_81 rfl rfl rfl rfl ?_
    refine E.iconst (v := 0) dX12_reckonAll_254 (by decide) ?_
    obtain ⟨g13, hf⟩ := gd_some hf
    refine E.lald hw 14 (o + 14) dX12_reckonAll_255 rfl rfl g13 ?_
    refine E.goto dX12_reckonAll_256 ?_
    refine E.locals [] rfl ?_
    exact tX12_reckonAll_L260 hw hf
def fX12_reckonAll_L228 (Fu : Nat) (k10 : (Nat → Int32) → Int32 → (Nat → Int64) → (Nat → Int64) → Int32 → Int64 → Int32 → Int32 → Int32 → Option ((Nat → Int64) × Int32 × Int64)) (a_row : Nat → Int32) (v_law : Int32) (a_set : Nat → Int64) (a_rest : Nat → Int64) (v_broken : Int32) (v_value : Int64) (x2 : Int32) (x3 : Int32) (x4 : Int32) (x6 : Int32) (s0 : Int64) (s1 : Int64) : Option ((Nat → Int64) × Int32 × Int64) := if s1 = s0 then (k10 a_row v_law a_set a_rest v_broken v_value x2 x3 x6) else (k10 a_row v_law a_set a_rest v_broken v_value x2 (x3 + (-1 : Int32)) x4)
set_option maxHeartbeats 4000000 in
set_option maxRecDepth 100000 in
theorem tX12_reckonAll_L228 {G : GT} {b : Nat} {o : Nat} {c0 : Hp} {n : Nat} (hw : e_wf (kM o) n) {v_thrown : Int32} {v_status : Int32} {a_refusals : Nat → Int32} {a_images : Nat → Int32} {a_isKept : Nat → Int32} {a_tape : Nat → Int32} {v_taped : Int32} {v_from : Int32} {v_to : Int32} {v_sort : Int32} {v_worth : Int64} {v_fault : Int32} {v_bad : Int32} {v_nClauses : Int32} {a_nClause : Nat → Int32} {v_nCode : Int32} {a_nOp : Nat → Int32} {a_nArg : Nat → Int32} {v_nLeaves : Int32} {a_pile : Nat → Int32} {a_pileAt : Nat → Int32} {v_piled : Int32} {v_opened : Int32} {a_words : Nat → Int64} {a_headWords : Nat → Int64} {v_sum : Int64} {a_chances : Nat → Int32} {a_votes : Nat → Int64} {a_costs : Nat → Int32} {a_table : Nat → Int64} {a_prices : Nat → Int32} {v_surely : Int64} {a_mostBy : Nat → Int64} {a_leastBy : Nat → Int64} {v_between : Int64} {v_steadyWays : Int32} {v_quashed : Int32} {v_but : Int32} {a_figures : Nat → Int32} {a_all : Nat → Int32} {a_lies : Nat → Int32} {a_since : Nat → Int32} {v_last : Int32} {v_state : Int64} {Fu : Nat} {k10 : (Nat → Int32) → Int32 → (Nat → Int64) → (Nat → Int64) → Int32 → Int64 → Int32 → Int32 → Int32 → Option ((Nat → Int64) × Int32 × Int64)} (hk10 : ∀ {a_row : Nat → Int32} {v_law : Int32} {a_set : Nat → Int64} {a_rest : Nat → Int64} {v_broken : Int32} {v_value : Int64} {x2 : Int32} {x3 : Int32} {x4 : Int32} {R : (Nat → Int64) × Int32 × Int64}, k10 a_row v_law a_set a_rest v_broken v_value x2 x3 x4 = some R → E G b yX12_reckonAll cX12_reckonAll 7 none (e_rm 1 0 0) e_X0 (e_Z G b (pD none (e_ov (kM o) (wM G b o v_thrown v_status a_refusals a_row a_images a_isKept a_tape v_taped v_from v_to v_sort v_worth v_fault v_bad v_nClauses a_nClause v_nCode a_nOp a_nArg v_nLeaves a_pile a_pileAt v_piled v_opened a_words a_headWords v_law a_set R.1 R.2.1 R.2.2 v_sum a_chances a_votes a_costs a_table a_prices v_surely a_mostBy a_leastBy v_between v_steadyWays v_quashed v_but a_figures a_all a_lies a_since v_last v_state) c0) n) 0 0) 10 [(0, .ref (b + o)), (2, .int x2), (3, .int x3), (4, .int x4)] [] (e_ov (kM o) (wM G b o v_thrown v_status a_refusals a_row a_images a_isKept a_tape v_taped v_from v_to v_sort v_worth v_fault v_bad v_nClauses a_nClause v_nCode a_nOp a_nArg v_nLeaves a_pile a_pileAt v_piled v_opened a_words a_headWords v_law a_set a_rest v_broken v_value v_sum a_chances a_votes a_costs a_table a_prices v_surely a_mostBy a_leastBy v_between v_steadyWays v_quashed v_but a_figures a_all a_lies a_since v_last v_state) c0) n 0 0) {a_row : Nat → Int32} {v_law : Int32} {a_set : Nat → Int64} {a_rest : Nat → Int64} {v_broken : Int32} {v_value : Int64} {x2 : Int32} {x3 : Int32} {x4 : Int32} {x6 : Int32} {s0 : Int64} {s1 : Int64} {R : (Nat → Int64) × Int32 × Int64} (hf : fX12_reckonAll_L228 Fu k10 a_row v_law a_set a_rest v_broken v_value x2 x3 x4 x6 s0 s1 = some R) : E G b yX12_reckonAll cX12_reckonAll 7 none (e_rm 1 0 0) e_X0 (e_Z G b (pD none (e_ov (kM o) (wM G b o v_thrown v_status a_refusals a_row a_images a_isKept a_tape v_taped v_from v_to v_sort v_worth v_fault v_bad v_nClauses a_nClause v_nCode a_nOp a_nArg v_nLeaves a_pile a_pileAt v_piled v_opened a_words a_headWords v_law a_set R.1 R.2.1 R.2.2 v_sum a_chances a_votes a_costs a_table a_prices v_surely a_mostBy a_leastBy v_between v_steadyWays v_quashed v_but a_figures a_all a_lies a_since v_last v_state) c0) n) 0 0) 228 [(0, .ref (b + o)), (2, .int x2), (3, .int x3), (4, .int x4), (6, .int x6)] [.long s0, .long s1] (e_ov (kM o) (wM G b o v_thrown v_status a_refusals a_row a_images a_isKept a_tape v_taped v_from v_to v_sort v_worth v_fault v_bad v_nClauses a_nClause v_nCode a_nOp a_nArg v_nLeaves a_pile a_pileAt v_piled v_opened a_words a_headWords v_law a_set a_rest v_broken v_value v_sum a_chances a_votes a_costs a_table a_prices v_surely a_mostBy a_leastBy v_between v_steadyWays v_quashed v_but a_figures a_all a_lies a_since v_last v_state) c0) n 0 0 := by
  unfold fX12_reckonAll_L228 at hf
  refine E.lc_ne dX12_reckonAll_228 dX12_reckonAll_229 (fun h => ?_) (fun h => ?_)
  · have hf := e_iff hf h
    refine E.iinc (q := 2) (v := (x3 + (-1 : Int32))) (lv' := [(3, .int (x3 + (-1 : Int32))), (0, .ref (b + o)), (2, .int x2), (4, .int x4), (6, .int x6)]) dX12_reckonAll_239 rfl rfl (by decide) rfl ?_
    refine E.goto dX12_reckonAll_242 ?_
    refine E.locals [1, 2, 0, 3] rfl ?_
    exact hk10 hf
  · have hf := e_ift hf h
    refine E.iload 4 dX12_reckonAll_232 rfl ?_
    refine E.istore (lv' := [(4, .int x6), (0, .ref (b + o)), (2, .int x2), (3, .int x3), (6, .int x6)]) dX12_reckonAll_234 (by decide) rfl ?_
    refine E.goto dX12_reckonAll_236 ?_
    refine E.goto dX12_reckonAll_242 ?_
    refine E.locals [1, 2, 3, 0] rfl ?_
    exact hk10 hf
def fX12_reckonAll_L174 (Fu : Nat) (k10 : (Nat → Int32) → Int32 → (Nat → Int64) → (Nat → Int64) → Int32 → Int64 → Int32 → Int32 → Int32 → Option ((Nat → Int64) × Int32 × Int64)) (a_row : Nat → Int32) (v_law : Int32) (a_set : Nat → Int64) (a_rest : Nat → Int64) (v_broken : Int32) (v_value : Int64) (x2 : Int32) (x3 : Int32) (x4 : Int32) (s0 : Int32) : Option ((Nat → Int64) × Int32 × Int64) := gb s0 (k10 a_row v_law a_set a_rest s0 v_value x2 x3 x4)
set_option maxHeartbeats 4000000 in
set_option maxRecDepth 100000 in
theorem tX12_reckonAll_L174 {G : GT} {b : Nat} {o : Nat} {c0 : Hp} {n : Nat} (hw : e_wf (kM o) n) {v_thrown : Int32} {v_status : Int32} {a_refusals : Nat → Int32} {a_images : Nat → Int32} {a_isKept : Nat → Int32} {a_tape : Nat → Int32} {v_taped : Int32} {v_from : Int32} {v_to : Int32} {v_sort : Int32} {v_worth : Int64} {v_fault : Int32} {v_bad : Int32} {v_nClauses : Int32} {a_nClause : Nat → Int32} {v_nCode : Int32} {a_nOp : Nat → Int32} {a_nArg : Nat → Int32} {v_nLeaves : Int32} {a_pile : Nat → Int32} {a_pileAt : Nat → Int32} {v_piled : Int32} {v_opened : Int32} {a_words : Nat → Int64} {a_headWords : Nat → Int64} {v_sum : Int64} {a_chances : Nat → Int32} {a_votes : Nat → Int64} {a_costs : Nat → Int32} {a_table : Nat → Int64} {a_prices : Nat → Int32} {v_surely : Int64} {a_mostBy : Nat → Int64} {a_leastBy : Nat → Int64} {v_between : Int64} {v_steadyWays : Int32} {v_quashed : Int32} {v_but : Int32} {a_figures : Nat → Int32} {a_all : Nat → Int32} {a_lies : Nat → Int32} {a_since : Nat → Int32} {v_last : Int32} {v_state : Int64} {Fu : Nat} {k10 : (Nat → Int32) → Int32 → (Nat → Int64) → (Nat → Int64) → Int32 → Int64 → Int32 → Int32 → Int32 → Option ((Nat → Int64) × Int32 × Int64)} (hk10 : ∀ {a_row : Nat → Int32} {v_law : Int32} {a_set : Nat → Int64} {a_rest : Nat → Int64} {v_broken : Int32} {v_value : Int64} {x2 : Int32} {x3 : Int32} {x4 : Int32} {R : (Nat → Int64) × Int32 × Int64}, k10 a_row v_law a_set a_rest v_broken v_value x2 x3 x4 = some R → E G b yX12_reckonAll cX12_reckonAll 7 none (e_rm 1 0 0) e_X0 (e_Z G b (pD none (e_ov (kM o) (wM G b o v_thrown v_status a_refusals a_row a_images a_isKept a_tape v_taped v_from v_to v_sort v_worth v_fault v_bad v_nClauses a_nClause v_nCode a_nOp a_nArg v_nLeaves a_pile a_pileAt v_piled v_opened a_words a_headWords v_law a_set R.1 R.2.1 R.2.2 v_sum a_chances a_votes a_costs a_table a_prices v_surely a_mostBy a_leastBy v_between v_steadyWays v_quashed v_but a_figures a_all a_lies a_since v_last v_state) c0) n) 0 0) 10 [(0, .ref (b + o)), (2, .int x2), (3, .int x3), (4, .int x4)] [] (e_ov (kM o) (wM G b o v_thrown v_status a_refusals a_row a_images a_isKept a_tape v_taped v_from v_to v_sort v_worth v_fault v_bad v_nClauses a_nClause v_nCode a_nOp a_nArg v_nLeaves a_pile a_pileAt v_piled v_opened a_words a_headWords v_law a_set a_rest v_broken v_value v_sum a_chances a_votes a_costs a_table a_prices v_surely a_mostBy a_leastBy v_between v_steadyWays v_quashed v_but a_figures a_all a_lies a_since v_last v_state) c0) n 0 0) {a_row : Nat → Int32} {v_law : Int32} {a_set : Nat → Int64} {a_rest : Nat → Int64} {v_broken : Int32} {v_value : Int64} {x2 : Int32} {x3 : Int32} {x4 : Int32} {s0 : Int32} {R : (Nat → Int64) × Int32 × Int64} (hf : fX12_reckonAll_L174 Fu k10 a_row v_law a_set a_rest v_broken v_value x2 x3 x4 s0 = some R) : E G b yX12_reckonAll cX12_reckonAll 7 none (e_rm 1 0 0) e_X0 (e_Z G b (pD none (e_ov (kM o) (wM G b o v_thrown v_status a_refusals a_row a_images a_isKept a_tape v_taped v_from v_to v_sort v_worth v_fault v_bad v_nClauses a_nClause v_nCode a_nOp a_nArg v_nLeaves a_pile a_pileAt v_piled v_opened a_words a_headWords v_law a_set R.1 R.2.1 R.2.2 v_sum a_chances a_votes a_costs a_table a_prices v_surely a_mostBy a_leastBy v_between v_steadyWays v_quashed v_but a_figures a_all a_lies a_since v_last v_state) c0) n) 0 0) 174 [(0, .ref (b + o)), (2, .int x2), (3, .int x3), (4, .int x4)] [.int s0, .ref (b + o)] (e_ov (kM o) (wM G b o v_thrown v_status a_refusals a_row a_images a_isKept a_tape v_taped v_from v_to v_sort v_worth v_fault v_bad v_nClauses a_nClause v_nCode a_nOp a_nArg v_nLeaves a_pile a_pileAt v_piled v_opened a_words a_headWords v_law a_set a_rest v_broken v_value v_sum a_chances a_votes a_costs a_table a_prices v_surely a_mostBy a_leastBy v_between v_steadyWays v_quashed v_but a_figures a_all a_lies a_since v_last v_state) c0) n 0 0 := by
  unfold fX12_reckonAll_L174 at hf
  obtain ⟨g14, hf⟩ := gb_some hf
  refine E.put (es' := (wM G b o v_thrown v_status a_refusals a_row a_images a_isKept a_tape v_taped v_from v_to v_sort v_worth v_fault v_bad v_nClauses a_nClause v_nCode a_nOp a_nArg v_nLeaves a_pile a_pileAt v_piled v_opened a_words a_headWords v_law a_set a_rest s0 v_value v_sum a_chances a_votes a_costs a_table a_prices v_surely a_mostBy a_leastBy v_between v_steadyWays v_quashed v_but a_figures a_all a_lies a_since v_last v_state)) hw 0 o dX12_reckonAll_174 flX12_324 ftX12 rfl rfl rfl rfl (nb01 g14) (fb01 g14) (Nat.le_of_ble_eq_true rfl) rfl ?_
  refine E.goto dX12_reckonAll_177 ?_
  refine E.goto dX12_reckonAll_242 ?_
  exact hk10 hf
def fX12_reckonAll_L96 (Fu : Nat) (k10 : (Nat → Int32) → Int32 → (Nat → Int64) → (Nat → Int64) → Int32 → Int64 → Int32 → Int32 → Int32 → Option ((Nat → Int64) × Int32 × Int64)) (a_row : Nat → Int32) (v_law : Int32) (a_set : Nat → Int64) (a_rest : Nat → Int64) (v_broken : Int32) (v_value : Int64) (x2 : Int32) (x3 : Int32) (x4 : Int32) (s0 : Int64) (s1 : Int32) : Option ((Nat → Int64) × Int32 × Int64) := gd s1 400 (k10 a_row v_law a_set (va_up a_rest (s1 : Int32).toNatClampNeg s0) v_broken v_value x2 (x3 + 1) x4)
set_option maxHeartbeats 4000000 in
set_option maxRecDepth 100000 in
theorem tX12_reckonAll_L96 {G : GT} {b : Nat} {o : Nat} {c0 : Hp} {n : Nat} (hw : e_wf (kM o) n) {v_thrown : Int32} {v_status : Int32} {a_refusals : Nat → Int32} {a_images : Nat → Int32} {a_isKept : Nat → Int32} {a_tape : Nat → Int32} {v_taped : Int32} {v_from : Int32} {v_to : Int32} {v_sort : Int32} {v_worth : Int64} {v_fault : Int32} {v_bad : Int32} {v_nClauses : Int32} {a_nClause : Nat → Int32} {v_nCode : Int32} {a_nOp : Nat → Int32} {a_nArg : Nat → Int32} {v_nLeaves : Int32} {a_pile : Nat → Int32} {a_pileAt : Nat → Int32} {v_piled : Int32} {v_opened : Int32} {a_words : Nat → Int64} {a_headWords : Nat → Int64} {v_sum : Int64} {a_chances : Nat → Int32} {a_votes : Nat → Int64} {a_costs : Nat → Int32} {a_table : Nat → Int64} {a_prices : Nat → Int32} {v_surely : Int64} {a_mostBy : Nat → Int64} {a_leastBy : Nat → Int64} {v_between : Int64} {v_steadyWays : Int32} {v_quashed : Int32} {v_but : Int32} {a_figures : Nat → Int32} {a_all : Nat → Int32} {a_lies : Nat → Int32} {a_since : Nat → Int32} {v_last : Int32} {v_state : Int64} {Fu : Nat} {k10 : (Nat → Int32) → Int32 → (Nat → Int64) → (Nat → Int64) → Int32 → Int64 → Int32 → Int32 → Int32 → Option ((Nat → Int64) × Int32 × Int64)} (hk10 : ∀ {a_row : Nat → Int32} {v_law : Int32} {a_set : Nat → Int64} {a_rest : Nat → Int64} {v_broken : Int32} {v_value : Int64} {x2 : Int32} {x3 : Int32} {x4 : Int32} {R : (Nat → Int64) × Int32 × Int64}, k10 a_row v_law a_set a_rest v_broken v_value x2 x3 x4 = some R → E G b yX12_reckonAll cX12_reckonAll 7 none (e_rm 1 0 0) e_X0 (e_Z G b (pD none (e_ov (kM o) (wM G b o v_thrown v_status a_refusals a_row a_images a_isKept a_tape v_taped v_from v_to v_sort v_worth v_fault v_bad v_nClauses a_nClause v_nCode a_nOp a_nArg v_nLeaves a_pile a_pileAt v_piled v_opened a_words a_headWords v_law a_set R.1 R.2.1 R.2.2 v_sum a_chances a_votes a_costs a_table a_prices v_surely a_mostBy a_leastBy v_between v_steadyWays v_quashed v_but a_figures a_all a_lies a_since v_last v_state) c0) n) 0 0) 10 [(0, .ref (b + o)), (2, .int x2), (3, .int x3), (4, .int x4)] [] (e_ov (kM o) (wM G b o v_thrown v_status a_refusals a_row a_images a_isKept a_tape v_taped v_from v_to v_sort v_worth v_fault v_bad v_nClauses a_nClause v_nCode a_nOp a_nArg v_nLeaves a_pile a_pileAt v_piled v_opened a_words a_headWords v_law a_set a_rest v_broken v_value v_sum a_chances a_votes a_costs a_table a_prices v_surely a_mostBy a_leastBy v_between v_steadyWays v_quashed v_but a_figures a_all a_lies a_since v_last v_state) c0) n 0 0) {a_row : Nat → Int32} {v_law : Int32} {a_set : Nat → Int64} {a_rest : Nat → Int64} {v_broken : Int32} {v_value : Int64} {x2 : Int32} {x3 : Int32} {x4 : Int32} {s0 : Int64} {s1 : Int32} {R : (Nat → Int64) × Int32 × Int64} (hf : fX12_reckonAll_L96 Fu k10 a_row v_law a_set a_rest v_broken v_value x2 x3 x4 s0 s1 = some R) : E G b yX12_reckonAll cX12_reckonAll 7 none (e_rm 1 0 0) e_X0 (e_Z G b (pD none (e_ov (kM o) (wM G b o v_thrown v_status a_refusals a_row a_images a_isKept a_tape v_taped v_from v_to v_sort v_worth v_fault v_bad v_nClauses a_nClause v_nCode a_nOp a_nArg v_nLeaves a_pile a_pileAt v_piled v_opened a_words a_headWords v_law a_set R.1 R.2.1 R.2.2 v_sum a_chances a_votes a_costs a_table a_prices v_surely a_mostBy a_leastBy v_between v_steadyWays v_quashed v_but a_figures a_all a_lies a_since v_last v_state) c0) n) 0 0) 96 [(0, .ref (b + o)), (2, .int x2), (3, .int x3), (4, .int x4)] [.long s0, .int s1, .ref (b + (o + 14))] (e_ov (kM o) (wM G b o v_thrown v_status a_refusals a_row a_images a_isKept a_tape v_taped v_from v_to v_sort v_worth v_fault v_bad v_nClauses a_nClause v_nCode a_nOp a_nArg v_nLeaves a_pile a_pileAt v_piled v_opened a_words a_headWords v_law a_set a_rest v_broken v_value v_sum a_chances a_votes a_costs a_table a_prices v_surely a_mostBy a_leastBy v_between v_steadyWays v_quashed v_but a_figures a_all a_lies a_since v_last v_state) c0) n 0 0 := by
  unfold fX12_reckonAll_L96 at hf
  obtain ⟨g15, hf⟩ := gd_some hf
  refine E.last (es' := (wM G b o v_thrown v_status a_refusals a_row a_images a_isKept a_tape v_taped v_from v_to v_sort v_worth v_fault v_bad v_nClauses a_nClause v_nCode a_nOp a_nArg v_nLeaves a_pile a_pileAt v_piled v_opened a_words a_headWords v_law a_set (va_up a_rest (s1 : Int32).toNatClampNeg s0) v_broken v_value v_sum a_chances a_votes a_costs a_table a_prices v_surely a_mostBy a_leastBy v_between v_steadyWays v_quashed v_but a_figures a_all a_lies a_since v_last v_state)) hw 14 (o + 14) dX12_reckonAll_96 rfl rfl g15 rfl ?_
  refine E.iinc (q := 2) (v := (x3 + 1)) (lv' := [(3, .int (x3 + 1)), (0, .ref (b + o)), (2, .int x2), (4, .int x4)]) dX12_reckonAll_97 rfl rfl (by decide) rfl ?_
  refine E.goto dX12_reckonAll_100 ?_
  refine E.goto dX12_reckonAll_242 ?_
  refine E.locals [1, 2, 0, 3] rfl ?_
  exact hk10 hf
def fX12_reckonAll_L10 (Fu : Nat) : Nat → (Nat → Int32) → Int32 → (Nat → Int64) → (Nat → Int64) → Int32 → Int64 → Int32 → Int32 → Int32 → Option ((Nat → Int64) × Int32 × Int64)
  | 0, _, _, _, _, _, _, _, _, _ => none
  | k + 1, a_row, v_law, a_set, a_rest, v_broken, v_value, x2, x3, x4 => if (x2 : Int32) ≤ (x4 : Int32) then (fX12_reckonAll_L245 Fu a_row v_law a_set a_rest v_broken v_value x3) else (if (v_broken : Int32) = 0 then (gd ((v_law + 98) + (2 * x4)) 5570 (gd (((v_law + 98) + (2 * x4)) + 1) 5570 (if (20 : Int32) ≤ ((a_row (((v_law + 98) + (2 * x4)) : Int32).toNatClampNeg) : Int32) then (if (27 : Int32) ≤ ((a_row (((v_law + 98) + (2 * x4)) : Int32).toNatClampNeg) : Int32) then (if ((a_row (((v_law + 98) + (2 * x4)) : Int32).toNatClampNeg) : Int32) = (27 : Int32) then (gd (x3 - 1) 400 (gd (x3 - 1) 400 ((fX12_reckonAll_L10 Fu k) a_row v_law a_set (va_up a_rest ((x3 - 1) : Int32).toNatClampNeg (1 - (a_rest ((x3 - 1) : Int32).toNatClampNeg))) v_broken v_value x2 x3 (x4 + 1)))) else (gd (x3 - 1) 400 (if ((a_row (((v_law + 98) + (2 * x4)) : Int32).toNatClampNeg) : Int32) = (28 : Int32) then (fX12_reckonAll_L228 Fu (fX12_reckonAll_L10 Fu k) a_row v_law a_set a_rest v_broken v_value x2 x3 (x4 + 1) (a_row ((((v_law + 98) + (2 * x4)) + 1) : Int32).toNatClampNeg) 0 (a_rest ((x3 - 1) : Int32).toNatClampNeg)) else (fX12_reckonAll_L228 Fu (fX12_reckonAll_L10 Fu k) a_row v_law a_set a_rest v_broken v_value x2 x3 (x4 + 1) (a_row ((((v_law + 98) + (2 * x4)) + 1) : Int32).toNatClampNeg) 1 (a_rest ((x3 - 1) : Int32).toNatClampNeg))))) else (gd ((x3 + (-1 : Int32)) - 1) 400 (gd (x3 + (-1 : Int32)) 400 ((fX12_reckon v_broken (a_row (((v_law + 98) + (2 * x4)) : Int32).toNatClampNeg) (a_rest (((x3 + (-1 : Int32)) - 1) : Int32).toNatClampNeg) (a_rest ((x3 + (-1 : Int32)) : Int32).toNatClampNeg)).bind fun r8 => (gd ((x3 + (-1 : Int32)) - 1) 400 (if (r8.2 : Int32) = 0 then (gd ((x3 + (-1 : Int32)) - 1) 400 ((fX12_in ((va_up a_rest (((x3 + (-1 : Int32)) - 1) : Int32).toNatClampNeg r8.1) (((x3 + (-1 : Int32)) - 1) : Int32).toNatClampNeg) (-1000000000 : Int64) 1000000000).bind fun r11 => (if (r11 : Int32) = 0 then (fX12_reckonAll_L174 Fu (fX12_reckonAll_L10 Fu k) a_row v_law a_set (va_up a_rest (((x3 + (-1 : Int32)) - 1) : Int32).toNatClampNeg r8.1) r8.2 v_value x2 (x3 + (-1 : Int32)) (x4 + 1) 1) else (fX12_reckonAll_L174 Fu (fX12_reckonAll_L10 Fu k) a_row v_law a_set (va_up a_rest (((x3 + (-1 : Int32)) - 1) : Int32).toNatClampNeg r8.1) r8.2 v_value x2 (x3 + (-1 : Int32)) (x4 + 1) 0)))) else (fX12_reckonAll_L174 Fu (fX12_reckonAll_L10 Fu k) a_row v_law a_set (va_up a_rest (((x3 + (-1 : Int32)) - 1) : Int32).toNatClampNeg r8.1) r8.2 v_value x2 (x3 + (-1 : Int32)) (x4 + 1) 1))))))) else (if ((a_row (((v_law + 98) + (2 * x4)) : Int32).toNatClampNeg) : Int32) = 0 then (fX12_reckonAll_L96 Fu (fX12_reckonAll_L10 Fu k) a_row v_law a_set a_rest v_broken v_value x2 x3 (x4 + 1) (((a_row ((((v_law + 98) + (2 * x4)) + 1) : Int32).toNatClampNeg) : Int32).toInt64) x3) else (gd (a_row (((v_law + 98) + (2 * x4)) : Int32).toNatClampNeg) 13 (fX12_reckonAll_L96 Fu (fX12_reckonAll_L10 Fu k) a_row v_law a_set a_rest v_broken v_value x2 x3 (x4 + 1) (a_set ((a_row (((v_law + 98) + (2 * x4)) : Int32).toNatClampNeg) : Int32).toNatClampNeg) x3)))))) else (fX12_reckonAll_L245 Fu a_row v_law a_set a_rest v_broken v_value x3))
set_option maxHeartbeats 4000000 in
set_option maxRecDepth 100000 in
theorem tX12_reckonAll_L10 {G : GT} {b : Nat} {o : Nat} {c0 : Hp} {n : Nat} (hw : e_wf (kM o) n) {v_thrown : Int32} {v_status : Int32} {a_refusals : Nat → Int32} {a_images : Nat → Int32} {a_isKept : Nat → Int32} {a_tape : Nat → Int32} {v_taped : Int32} {v_from : Int32} {v_to : Int32} {v_sort : Int32} {v_worth : Int64} {v_fault : Int32} {v_bad : Int32} {v_nClauses : Int32} {a_nClause : Nat → Int32} {v_nCode : Int32} {a_nOp : Nat → Int32} {a_nArg : Nat → Int32} {v_nLeaves : Int32} {a_pile : Nat → Int32} {a_pileAt : Nat → Int32} {v_piled : Int32} {v_opened : Int32} {a_words : Nat → Int64} {a_headWords : Nat → Int64} {v_sum : Int64} {a_chances : Nat → Int32} {a_votes : Nat → Int64} {a_costs : Nat → Int32} {a_table : Nat → Int64} {a_prices : Nat → Int32} {v_surely : Int64} {a_mostBy : Nat → Int64} {a_leastBy : Nat → Int64} {v_between : Int64} {v_steadyWays : Int32} {v_quashed : Int32} {v_but : Int32} {a_figures : Nat → Int32} {a_all : Nat → Int32} {a_lies : Nat → Int32} {a_since : Nat → Int32} {v_last : Int32} {v_state : Int64} {Fu : Nat} : ∀ (k : Nat) {a_row : Nat → Int32} {v_law : Int32} {a_set : Nat → Int64} {a_rest : Nat → Int64} {v_broken : Int32} {v_value : Int64} {x2 : Int32} {x3 : Int32} {x4 : Int32} {R : (Nat → Int64) × Int32 × Int64}, fX12_reckonAll_L10 Fu k a_row v_law a_set a_rest v_broken v_value x2 x3 x4 = some R → E G b yX12_reckonAll cX12_reckonAll 7 none (e_rm 1 0 0) e_X0 (e_Z G b (pD none (e_ov (kM o) (wM G b o v_thrown v_status a_refusals a_row a_images a_isKept a_tape v_taped v_from v_to v_sort v_worth v_fault v_bad v_nClauses a_nClause v_nCode a_nOp a_nArg v_nLeaves a_pile a_pileAt v_piled v_opened a_words a_headWords v_law a_set R.1 R.2.1 R.2.2 v_sum a_chances a_votes a_costs a_table a_prices v_surely a_mostBy a_leastBy v_between v_steadyWays v_quashed v_but a_figures a_all a_lies a_since v_last v_state) c0) n) 0 0) 10 [(0, .ref (b + o)), (2, .int x2), (3, .int x3), (4, .int x4)] [] (e_ov (kM o) (wM G b o v_thrown v_status a_refusals a_row a_images a_isKept a_tape v_taped v_from v_to v_sort v_worth v_fault v_bad v_nClauses a_nClause v_nCode a_nOp a_nArg v_nLeaves a_pile a_pileAt v_piled v_opened a_words a_headWords v_law a_set a_rest v_broken v_value v_sum a_chances a_votes a_costs a_table a_prices v_surely a_mostBy a_leastBy v_between v_steadyWays v_quashed v_but a_figures a_all a_lies a_since v_last v_state) c0) n 0 0 := by
  intro k
  induction k with
  | zero =>
    intro _ _ _ _ _ _ _ _ _ _ hf
    have hf : (none : Option ((Nat → Int64) × Int32 × Int64)) = some _ := hf
    cases hf
  | succ k ih =>
    intro a_row v_law a_set a_rest v_broken v_value x2 x3 x4 R hf
    rw [fX12_reckonAll_L10] at hf
    refine E.iload 3 dX12_reckonAll_10 rfl ?_
    refine E.iload_n 1 dX12_reckonAll_12 rfl ?_
    refine E.icmp_ge dX12_reckonAll_13 (fun h => ?_) (fun h => ?_)
    · have hf := e_ift hf h
      refine E.locals [0, 2] rfl ?_
      exact tX12_reckonAll_L245 hw hf
    · have hf := e_iff hf h
      refine E.aload_n 0 dX12_reckonAll_16 rfl ?_
      refine E.get hw 0 o dX12_reckonAll_17 flX12_324 rfl rfl rfl rfl ?_
      refine E.if_ne dX12_reckonAll_20 (fun h => ?_) (fun h => ?_)
      · have hf := e_iff hf h
        refine E.locals [0, 2] rfl ?_
        exact tX12_reckonAll_L245 hw hf
      · have hf := e_ift hf h
        refine E.aload_n 0 dX12_reckonAll_23 rfl ?_
        refine E.get hw 0 o dX12_reckonAll_24 flX12_13 rfl rfl rfl rfl ?_
        refine E.aload_n 0 dX12_reckonAll_27 rfl ?_
        refine E.get hw 0 o dX12_reckonAll_28 flX12_327 rfl rfl rfl rfl ?_
        refine E.bipush (v := 98) dX12_reckonAll_31 (by decide) ?_
        refine E.iadd dX12_reckonAll_33 ?_
        refine E.iconst (v := 2) dX12_reckonAll_34 (by decide) ?_
        refine E.iload 3 dX12_reckonAll_35 rfl ?_
        refine E.imul dX12_reckonAll_37 ?_
        refine E.iadd dX12_reckonAll_38 ?_
        obtain ⟨g1, hf⟩ := gd_some hf
        refine E.iald hw 2 (o + 2) dX12_reckonAll_39 rfl rfl g1 ?_
        refine E.istore (lv' := [(5, .int (a_row (((v_law + 98) + (2 * x4)) : Int32).toNatClampNeg)), (0, .ref (b + o)), (2, .int x2), (3, .int x3), (4, .int x4)]) dX12_reckonAll_40 (by decide) rfl ?_
        refine E.aload_n 1 dX12_reckonAll_42 rfl ?_
        refine E.get hw 0 o dX12_reckonAll_43 flX12_13 rfl rfl rfl rfl ?_
        refine E.aload_n 1 dX12_reckonAll_46 rfl ?_
        refine E.get hw 0 o dX12_reckonAll_47 flX12_327 rfl rfl rfl rfl ?_
        refine E.bipush (v := 98) dX12_reckonAll_50 (by decide) ?_
        refine E.iadd dX12_reckonAll_52 ?_
        refine E.iconst (v := 2) dX12_reckonAll_53 (by decide) ?_
        refine E.iload 4 dX12_reckonAll_54 rfl ?_
        refine E.imul dX12_reckonAll_56 ?_
        refine E.iadd dX12_reckonAll_57 ?_
        refine E.iconst (v := 1) dX12_reckonAll_58 (by decide) ?_
        refine E.iadd dX12_reckonAll_59 ?_
        obtain ⟨g2, hf⟩ := gd_some hf
        refine E.iald hw 2 (o + 2) dX12_reckonAll_60 rfl rfl g2 ?_
        refine E.istore (lv' := [(6, .int (a_row ((((v_law + 98) + (2 * x4)) + 1) : Int32).toNatClampNeg)), (5, .int (a_row (((v_law + 98) + (2 * x4)) : Int32).toNatClampNeg)), (0, .ref (b + o)), (2, .int x2), (3, .int x3), (4, .int x4)]) dX12_reckonAll_61 (by decide) rfl ?_
        refine E.iinc (q := 5) (v := (x4 + 1)) (lv' := [(4, .int (x4 + 1)), (6, .int (a_row ((((v_law + 98) + (2 * x4)) + 1) : Int32).toNatClampNeg)), (5, .int (a_row (((v_law + 98) + (2 * x4)) : Int32).toNatClampNeg)), (0, .ref (b + o)), (2, .int x2), (3, .int x3)]) dX12_reckonAll_63 rfl rfl (by decide) rfl ?_
        refine E.iload 2 dX12_reckonAll_66 rfl ?_
        refine E.bipush (v := 20) dX12_reckonAll_68 (by decide) ?_
        refine E.icmp_ge dX12_reckonAll_70 (fun h => ?_) (fun h => ?_)
        · have hf := e_ift hf h
          refine E.iload 2 dX12_reckonAll_103 rfl ?_
          refine E.bipush (v := 27) dX12_reckonAll_105 (by decide) ?_
          refine E.icmp_ge dX12_reckonAll_107 (fun h => ?_) (fun h => ?_)
          · have hf := e_ift hf h
            refine E.iload 2 dX12_reckonAll_180 rfl ?_
            refine E.bipush (v := 27) dX12_reckonAll_182 (by decide) ?_
            refine E.icmp_ne dX12_reckonAll_184 (fun h => ?_) (fun h => ?_)
            · have hf := e_iff hf h
              refine E.aload_n 3 dX12_reckonAll_208 rfl ?_
              refine E.get hw 0 o dX12_reckonAll_209 flX12_81 rfl rfl rfl rfl ?_
              refine E.iload_n 5 dX12_reckonAll_212 rfl ?_
              refine E.iconst (v := 1) dX12_reckonAll_213 (by decide) ?_
              refine E.isub dX12_reckonAll_214 ?_
              obtain ⟨g3, hf⟩ := gd_some hf
              refine E.lald hw 14 (o + 14) dX12_reckonAll_215 rfl rfl g3 ?_
              refine E.iload 2 dX12_reckonAll_216 rfl ?_
              refine E.bipush (v := 28) dX12_reckonAll_218 (by decide) ?_
              refine E.icmp_ne dX12_reckonAll_220 (fun h => ?_) (fun h => ?_)
              · have hf := e_iff hf h
                refine E.lconst (v := 1) dX12_reckonAll_227 (by decide) ?_
                refine E.locals [3, 4, 5, 0, 1] rfl ?_
                exact tX12_reckonAll_L228 hw ih hf
              · have hf := e_ift hf h
                refine E.lconst (v := 0) dX12_reckonAll_223 (by decide) ?_
                refine E.goto dX12_reckonAll_224 ?_
                refine E.locals [3, 4, 5, 0, 1] rfl ?_
                exact tX12_reckonAll_L228 hw ih hf
            · have hf := e_ift hf h
              refine E.aload_n 3 dX12_reckonAll_187 rfl ?_
              refine E.get hw 0 o dX12_reckonAll_188 flX12_81 rfl rfl rfl rfl ?_
              refine E.iload_n 5 dX12_reckonAll_191 rfl ?_
              refine E.iconst (v := 1) dX12_reckonAll_192 (by decide) ?_
              refine E.isub dX12_reckonAll_193 ?_
              refine E.lconst (v := 1) dX12_reckonAll_194 (by decide) ?_
              refine E.aload_n 3 dX12_reckonAll_195 rfl ?_
              refine E.get hw 0 o dX12_reckonAll_196 flX12_81 rfl rfl rfl rfl ?_
              refine E.iload_n 5 dX12_reckonAll_199 rfl ?_
              refine E.iconst (v := 1) dX12_reckonAll_200 (by decide) ?_
              refine E.isub dX12_reckonAll_201 ?_
              obtain ⟨g4, hf⟩ := gd_some hf
              refine E.lald hw 14 (o + 14) dX12_reckonAll_202 rfl rfl g4 ?_
              refine E.lsub dX12_reckonAll_203 ?_
              obtain ⟨g5, hf⟩ := gd_some hf
              refine E.last (es' := (wM G b o v_thrown v_status a_refusals a_row a_images a_isKept a_tape v_taped v_from v_to v_sort v_worth v_fault v_bad v_nClauses a_nClause v_nCode a_nOp a_nArg v_nLeaves a_pile a_pileAt v_piled v_opened a_words a_headWords v_law a_set (va_up a_rest ((x3 - 1) : Int32).toNatClampNeg (1 - (a_rest ((x3 - 1) : Int32).toNatClampNeg))) v_broken v_value v_sum a_chances a_votes a_costs a_table a_prices v_surely a_mostBy a_leastBy v_between v_steadyWays v_quashed v_but a_figures a_all a_lies a_since v_last v_state)) hw 14 (o + 14) dX12_reckonAll_204 rfl rfl g5 rfl ?_
              refine E.goto dX12_reckonAll_205 ?_
              refine E.goto dX12_reckonAll_242 ?_
              refine E.locals [3, 4, 5, 0] rfl ?_
              exact ih hf
          · have hf := e_iff hf h
            refine E.iinc (q := 5) (v := (x3 + (-1 : Int32))) (lv' := [(3, .int (x3 + (-1 : Int32))), (4, .int (x4 + 1)), (6, .int (a_row ((((v_law + 98) + (2 * x4)) + 1) : Int32).toNatClampNeg)), (5, .int (a_row (((v_law + 98) + (2 * x4)) : Int32).toNatClampNeg)), (0, .ref (b + o)), (2, .int x2)]) dX12_reckonAll_110 rfl rfl (by decide) rfl ?_
            refine E.aload_n 4 dX12_reckonAll_113 rfl ?_
            refine E.get hw 0 o dX12_reckonAll_114 flX12_81 rfl rfl rfl rfl ?_
            refine E.iload_n 0 dX12_reckonAll_117 rfl ?_
            refine E.iconst (v := 1) dX12_reckonAll_118 (by decide) ?_
            refine E.isub dX12_reckonAll_119 ?_
            refine E.aload_n 4 dX12_reckonAll_120 rfl ?_
            refine E.iload 3 dX12_reckonAll_121 rfl ?_
            refine E.aload_n 4 dX12_reckonAll_123 rfl ?_
            refine E.get hw 0 o dX12_reckonAll_124 flX12_81 rfl rfl rfl rfl ?_
            refine E.iload_n 0 dX12_reckonAll_127 rfl ?_
            refine E.iconst (v := 1) dX12_reckonAll_128 (by decide) ?_
            refine E.isub dX12_reckonAll_129 ?_
            obtain ⟨g6, hf⟩ := gd_some hf
            refine E.lald hw 14 (o + 14) dX12_reckonAll_130 rfl rfl g6 ?_
            refine E.aload_n 4 dX12_reckonAll_131 rfl ?_
            refine E.get hw 0 o dX12_reckonAll_132 flX12_81 rfl rfl rfl rfl ?_
            refine E.iload_n 0 dX12_reckonAll_135 rfl ?_
            obtain ⟨g7, hf⟩ := gd_some hf
            refine E.lald hw 14 (o + 14) dX12_reckonAll_136 rfl rfl g7 ?_
            obtain ⟨r8, hc8, hf⟩ := e_bind hf
            refine E.callVD [.int ((x3 + (-1 : Int32)) - 1), .ref (b + (o + 14))] dX12_reckonAll_137 mlX12_330 ⟨hw.sub (p := 0) rfl, e_ov_get hw.1 (p := 0) rfl rfl⟩ rfl rfl (mX12_reckon hw hc8) ⟨Nat.le_of_ble_eq_true rfl, Nat.le_of_ble_eq_true rfl⟩ rfl rfl (Nat.le_of_ble_eq_true rfl) ⟨Nat.le_refl _, Nat.le_refl _⟩ rfl ?_
            obtain ⟨g9, hf⟩ := gd_some hf
            refine E.last (es' := (wM G b o v_thrown v_status a_refusals a_row a_images a_isKept a_tape v_taped v_from v_to v_sort v_worth v_fault v_bad v_nClauses a_nClause v_nCode a_nOp a_nArg v_nLeaves a_pile a_pileAt v_piled v_opened a_words a_headWords v_law a_set (va_up a_rest (((x3 + (-1 : Int32)) - 1) : Int32).toNatClampNeg r8.1) r8.2 v_value v_sum a_chances a_votes a_costs a_table a_prices v_surely a_mostBy a_leastBy v_between v_steadyWays v_quashed v_but a_figures a_all a_lies a_since v_last v_state)) hw 14 (o + 14) dX12_reckonAll_140 rfl rfl g9 rfl ?_
            refine E.aload_n 4 dX12_reckonAll_141 rfl ?_
            refine E.aload_n 4 dX12_reckonAll_142 rfl ?_
            refine E.get hw 0 o dX12_reckonAll_143 flX12_324 rfl rfl rfl rfl ?_
            refine E.if_ne dX12_reckonAll_146 (fun h => ?_) (fun h => ?_)
            · have hf := e_iff hf h
              refine E.iconst (v := 1) dX12_reckonAll_169 (by decide) ?_
              refine E.goto dX12_reckonAll_170 ?_
              refine E.locals [4, 5, 0, 1] rfl ?_
              exact tX12_reckonAll_L174 hw ih hf
            · have hf := e_ift hf h
              refine E.aload_n 4 dX12_reckonAll_149 rfl ?_
              refine E.get hw 0 o dX12_reckonAll_150 flX12_81 rfl rfl rfl rfl ?_
              refine E.iload_n 0 dX12_reckonAll_153 rfl ?_
              refine E.iconst (v := 1) dX12_reckonAll_154 (by decide) ?_
              refine E.isub dX12_reckonAll_155 ?_
              obtain ⟨g10, hf⟩ := gd_some hf
              refine E.lald hw 14 (o + 14) dX12_reckonAll_156 rfl rfl g10 ?_
              refine E.ldc2 dX12_reckonAll_157 kX12_334 ?_
              refine E.ldc2 dX12_reckonAll_160 kX12_336 ?_
              obtain ⟨r11, hc11, hf⟩ := e_bind hf
              refine E.callSD [.ref (b + o)] dX12_reckonAll_163 mlX12_134 (mX12_in hc11) ⟨Nat.le_of_ble_eq_true rfl, Nat.le_of_ble_eq_true rfl⟩ rfl rfl (Nat.le_of_ble_eq_true rfl) ⟨Nat.le_refl _, Nat.le_refl _⟩ rfl ?_
              refine E.if_ne dX12_reckonAll_166 (fun h => ?_) (fun h => ?_)
              · have hf := e_iff hf h
                refine E.iconst (v := 0) dX12_reckonAll_173 (by decide) ?_
                refine E.locals [4, 5, 0, 1] rfl ?_
                exact tX12_reckonAll_L174 hw ih hf
              · have hf := e_ift hf h
                refine E.iconst (v := 1) dX12_reckonAll_169 (by decide) ?_
                refine E.goto dX12_reckonAll_170 ?_
                refine E.locals [4, 5, 0, 1] rfl ?_
                exact tX12_reckonAll_L174 hw ih hf
        · have hf := e_iff hf h
          refine E.aload_n 3 dX12_reckonAll_73 rfl ?_
          refine E.get hw 0 o dX12_reckonAll_74 flX12_81 rfl rfl rfl rfl ?_
          refine E.iload_n 5 dX12_reckonAll_77 rfl ?_
          refine E.iload 2 dX12_reckonAll_78 rfl ?_
          refine E.if_ne dX12_reckonAll_80 (fun h => ?_) (fun h => ?_)
          · have hf := e_iff hf h
            refine E.aload_n 3 dX12_reckonAll_89 rfl ?_
            refine E.get hw 0 o dX12_reckonAll_90 flX12_78 rfl rfl rfl rfl ?_
            refine E.iload 2 dX12_reckonAll_93 rfl ?_
            obtain ⟨g12, hf⟩ := gd_some hf
            refine E.lald hw 13 (o + 13) dX12_reckonAll_95 rfl rfl g12 ?_
            refine E.locals [3, 4, 5, 0] rfl ?_
            exact tX12_reckonAll_L96 hw ih hf
          · have hf := e_ift hf h
            refine E.iload 1 dX12_reckonAll_83 rfl ?_
            refine E.i2l dX12_reckonAll_85 ?_
            refine E.goto dX12_reckonAll_86 ?_
            refine E.locals [3, 4, 5, 0] rfl ?_
            exact tX12_reckonAll_L96 hw ih hf
def fX12_reckonAll (Fu : Nat) (a_row : Nat → Int32) (v_law : Int32) (a_set : Nat → Int64) (a_rest : Nat → Int64) (v_broken : Int32) (v_value : Int64) (x1 : Int32) (x2 : Int32) : Option ((Nat → Int64) × Int32 × Int64) := fX12_reckonAll_L10 Fu Fu a_row v_law a_set a_rest 0 v_value x2 0 x1
set_option maxHeartbeats 4000000 in
set_option maxRecDepth 100000 in
theorem tX12_reckonAll {G : GT} {b : Nat} {o : Nat} {c0 : Hp} {n : Nat} (hw : e_wf (kM o) n) {v_thrown : Int32} {v_status : Int32} {a_refusals : Nat → Int32} {a_images : Nat → Int32} {a_isKept : Nat → Int32} {a_tape : Nat → Int32} {v_taped : Int32} {v_from : Int32} {v_to : Int32} {v_sort : Int32} {v_worth : Int64} {v_fault : Int32} {v_bad : Int32} {v_nClauses : Int32} {a_nClause : Nat → Int32} {v_nCode : Int32} {a_nOp : Nat → Int32} {a_nArg : Nat → Int32} {v_nLeaves : Int32} {a_pile : Nat → Int32} {a_pileAt : Nat → Int32} {v_piled : Int32} {v_opened : Int32} {a_words : Nat → Int64} {a_headWords : Nat → Int64} {v_sum : Int64} {a_chances : Nat → Int32} {a_votes : Nat → Int64} {a_costs : Nat → Int32} {a_table : Nat → Int64} {a_prices : Nat → Int32} {v_surely : Int64} {a_mostBy : Nat → Int64} {a_leastBy : Nat → Int64} {v_between : Int64} {v_steadyWays : Int32} {v_quashed : Int32} {v_but : Int32} {a_figures : Nat → Int32} {a_all : Nat → Int32} {a_lies : Nat → Int32} {a_since : Nat → Int32} {v_last : Int32} {v_state : Int64} {Fu : Nat} {a_row : Nat → Int32} {v_law : Int32} {a_set : Nat → Int64} {a_rest : Nat → Int64} {v_broken : Int32} {v_value : Int64} {x1 : Int32} {x2 : Int32} {R : (Nat → Int64) × Int32 × Int64} (hf : fX12_reckonAll Fu a_row v_law a_set a_rest v_broken v_value x1 x2 = some R) : E G b yX12_reckonAll cX12_reckonAll 7 none (e_rm 1 0 0) e_X0 (e_Z G b (pD none (e_ov (kM o) (wM G b o v_thrown v_status a_refusals a_row a_images a_isKept a_tape v_taped v_from v_to v_sort v_worth v_fault v_bad v_nClauses a_nClause v_nCode a_nOp a_nArg v_nLeaves a_pile a_pileAt v_piled v_opened a_words a_headWords v_law a_set R.1 R.2.1 R.2.2 v_sum a_chances a_votes a_costs a_table a_prices v_surely a_mostBy a_leastBy v_between v_steadyWays v_quashed v_but a_figures a_all a_lies a_since v_last v_state) c0) n) 0 0) 0 [(0, .ref (b + o)), (1, .int x1), (2, .int x2)] [] (e_ov (kM o) (wM G b o v_thrown v_status a_refusals a_row a_images a_isKept a_tape v_taped v_from v_to v_sort v_worth v_fault v_bad v_nClauses a_nClause v_nCode a_nOp a_nArg v_nLeaves a_pile a_pileAt v_piled v_opened a_words a_headWords v_law a_set a_rest v_broken v_value v_sum a_chances a_votes a_costs a_table a_prices v_surely a_mostBy a_leastBy v_between v_steadyWays v_quashed v_but a_figures a_all a_lies a_since v_last v_state) c0) n 0 0 := by
  unfold fX12_reckonAll at hf
  refine E.aload_n 0 dX12_reckonAll_0 rfl ?_
  refine E.iconst (v := 0) dX12_reckonAll_1 (by decide) ?_
  refine E.put (es' := (wM G b o v_thrown v_status a_refusals a_row a_images a_isKept a_tape v_taped v_from v_to v_sort v_worth v_fault v_bad v_nClauses a_nClause v_nCode a_nOp a_nArg v_nLeaves a_pile a_pileAt v_piled v_opened a_words a_headWords v_law a_set a_rest 0 v_value v_sum a_chances a_votes a_costs a_table a_prices v_surely a_mostBy a_leastBy v_between v_steadyWays v_quashed v_but a_figures a_all a_lies a_since v_last v_state)) hw 0 o dX12_reckonAll_2 flX12_324 ftX12 rfl rfl rfl rfl rfl rfl (Nat.le_of_ble_eq_true rfl) rfl ?_
  refine E.iconst (v := 0) dX12_reckonAll_5 (by decide) ?_
  refine E.istore_n (lv' := [(3, .int 0), (0, .ref (b + o)), (1, .int x1), (2, .int x2)]) dX12_reckonAll_6 (by decide) rfl ?_
  refine E.iload_n 2 dX12_reckonAll_7 rfl ?_
  refine E.istore (lv' := [(4, .int x1), (3, .int 0), (0, .ref (b + o)), (1, .int x1), (2, .int x2)]) dX12_reckonAll_8 (by decide) rfl ?_
  refine E.locals [2, 4, 1, 0] rfl ?_
  exact tX12_reckonAll_L10 hw _ hf
set_option maxRecDepth 100000 in
theorem mX12_reckonAll {G : GT} {b : Nat} {o : Nat} {c0 : Hp} {n : Nat} (hw : e_wf (kM o) n) {v_thrown : Int32} {v_status : Int32} {a_refusals : Nat → Int32} {a_images : Nat → Int32} {a_isKept : Nat → Int32} {a_tape : Nat → Int32} {v_taped : Int32} {v_from : Int32} {v_to : Int32} {v_sort : Int32} {v_worth : Int64} {v_fault : Int32} {v_bad : Int32} {v_nClauses : Int32} {a_nClause : Nat → Int32} {v_nCode : Int32} {a_nOp : Nat → Int32} {a_nArg : Nat → Int32} {v_nLeaves : Int32} {a_pile : Nat → Int32} {a_pileAt : Nat → Int32} {v_piled : Int32} {v_opened : Int32} {a_words : Nat → Int64} {a_headWords : Nat → Int64} {v_sum : Int64} {a_chances : Nat → Int32} {a_votes : Nat → Int64} {a_costs : Nat → Int32} {a_table : Nat → Int64} {a_prices : Nat → Int32} {v_surely : Int64} {a_mostBy : Nat → Int64} {a_leastBy : Nat → Int64} {v_between : Int64} {v_steadyWays : Int32} {v_quashed : Int32} {v_but : Int32} {a_figures : Nat → Int32} {a_all : Nat → Int32} {a_lies : Nat → Int32} {a_since : Nat → Int32} {v_last : Int32} {v_state : Int64} {Fu : Nat} {a_row : Nat → Int32} {v_law : Int32} {a_set : Nat → Int64} {a_rest : Nat → Int64} {v_broken : Int32} {v_value : Int64} {x1 : Int32} {x2 : Int32} {R : (Nat → Int64) × Int32 × Int64} (hf : fX12_reckonAll Fu a_row v_law a_set a_rest v_broken v_value x1 x2 = some R) : e_C G b yX12_reckonAll cX12_reckonAll 7 none 1 0 0 [.ref (b + o), .int x1, .int x2] (e_ov (kM o) (wM G b o v_thrown v_status a_refusals a_row a_images a_isKept a_tape v_taped v_from v_to v_sort v_worth v_fault v_bad v_nClauses a_nClause v_nCode a_nOp a_nArg v_nLeaves a_pile a_pileAt v_piled v_opened a_words a_headWords v_law a_set a_rest v_broken v_value v_sum a_chances a_votes a_costs a_table a_prices v_surely a_mostBy a_leastBy v_between v_steadyWays v_quashed v_but a_figures a_all a_lies a_since v_last v_state) c0) n (pD none (e_ov (kM o) (wM G b o v_thrown v_status a_refusals a_row a_images a_isKept a_tape v_taped v_from v_to v_sort v_worth v_fault v_bad v_nClauses a_nClause v_nCode a_nOp a_nArg v_nLeaves a_pile a_pileAt v_piled v_opened a_words a_headWords v_law a_set R.1 R.2.1 R.2.2 v_sum a_chances a_votes a_costs a_table a_prices v_surely a_mostBy a_leastBy v_between v_steadyWays v_quashed v_but a_figures a_all a_lies a_since v_last v_state) c0) n) := e_C.of (by decide) (Nat.le_of_ble_eq_true rfl) (tX12_reckonAll hw hf)
def fX12_isSo_L59 (Fu : Nat) (a_row : Nat → Int32) (v_law : Int32) (a_set : Nat → Int64) (a_rest : Nat → Int64) (v_broken : Int32) (v_value : Int64) (v_sum : Int64) (x1 : Int32) : Option (Int32 × (Nat → Int64) × Int32 × Int64 × Int64) := gd (x1 + 3) 5570 (gd (x1 + 4) 5570 ((fX12_reckonAll Fu a_row v_law a_set a_rest v_broken v_value (a_row ((x1 + 3) : Int32).toNatClampNeg) (a_row ((x1 + 4) : Int32).toNatClampNeg)).bind fun r8 => (if (r8.2.1 : Int32) = 0 then (some (1, r8.1, r8.2.1, r8.2.2, r8.2.2)) else (some (0, r8.1, r8.2.1, r8.2.2, r8.2.2)))))
set_option maxHeartbeats 4000000 in
set_option maxRecDepth 100000 in
theorem tX12_isSo_L59 {G : GT} {b : Nat} {o : Nat} {c0 : Hp} {n : Nat} (hw : e_wf (kM o) n) {v_thrown : Int32} {v_status : Int32} {a_refusals : Nat → Int32} {a_images : Nat → Int32} {a_isKept : Nat → Int32} {a_tape : Nat → Int32} {v_taped : Int32} {v_from : Int32} {v_to : Int32} {v_sort : Int32} {v_worth : Int64} {v_fault : Int32} {v_bad : Int32} {v_nClauses : Int32} {a_nClause : Nat → Int32} {v_nCode : Int32} {a_nOp : Nat → Int32} {a_nArg : Nat → Int32} {v_nLeaves : Int32} {a_pile : Nat → Int32} {a_pileAt : Nat → Int32} {v_piled : Int32} {v_opened : Int32} {a_words : Nat → Int64} {a_headWords : Nat → Int64} {a_chances : Nat → Int32} {a_votes : Nat → Int64} {a_costs : Nat → Int32} {a_table : Nat → Int64} {a_prices : Nat → Int32} {v_surely : Int64} {a_mostBy : Nat → Int64} {a_leastBy : Nat → Int64} {v_between : Int64} {v_steadyWays : Int32} {v_quashed : Int32} {v_but : Int32} {a_figures : Nat → Int32} {a_all : Nat → Int32} {a_lies : Nat → Int32} {a_since : Nat → Int32} {v_last : Int32} {v_state : Int64} {Fu : Nat} {a_row : Nat → Int32} {v_law : Int32} {a_set : Nat → Int64} {a_rest : Nat → Int64} {v_broken : Int32} {v_value : Int64} {v_sum : Int64} {x1 : Int32} {R : Int32 × (Nat → Int64) × Int32 × Int64 × Int64} (hf : fX12_isSo_L59 Fu a_row v_law a_set a_rest v_broken v_value v_sum x1 = some R) : E G b yX12_isSo cX12_isSo 2 (some .boolean) (e_rm 2 0 0) e_X0 (e_Z G b (pD (some (.int R.1)) (e_ov (kM o) (wM G b o v_thrown v_status a_refusals a_row a_images a_isKept a_tape v_taped v_from v_to v_sort v_worth v_fault v_bad v_nClauses a_nClause v_nCode a_nOp a_nArg v_nLeaves a_pile a_pileAt v_piled v_opened a_words a_headWords v_law a_set R.2.1 R.2.2.1 R.2.2.2.1 R.2.2.2.2 a_chances a_votes a_costs a_table a_prices v_surely a_mostBy a_leastBy v_between v_steadyWays v_quashed v_but a_figures a_all a_lies a_since v_last v_state) c0) n) 0 0) 59 [(0, .ref (b + o)), (1, .int x1)] [] (e_ov (kM o) (wM G b o v_thrown v_status a_refusals a_row a_images a_isKept a_tape v_taped v_from v_to v_sort v_worth v_fault v_bad v_nClauses a_nClause v_nCode a_nOp a_nArg v_nLeaves a_pile a_pileAt v_piled v_opened a_words a_headWords v_law a_set a_rest v_broken v_value v_sum a_chances a_votes a_costs a_table a_prices v_surely a_mostBy a_leastBy v_between v_steadyWays v_quashed v_but a_figures a_all a_lies a_since v_last v_state) c0) n 0 0 := by
  unfold fX12_isSo_L59 at hf
  refine E.aload_n 0 dX12_isSo_59 rfl ?_
  refine E.aload_n 0 dX12_isSo_60 rfl ?_
  refine E.get hw 0 o dX12_isSo_61 flX12_13 rfl rfl rfl rfl ?_
  refine E.iload_n 1 dX12_isSo_64 rfl ?_
  refine E.iconst (v := 3) dX12_isSo_65 (by decide) ?_
  refine E.iadd dX12_isSo_66 ?_
  obtain ⟨g6, hf⟩ := gd_some hf
  refine E.iald hw 2 (o + 2) dX12_isSo_67 rfl rfl g6 ?_
  refine E.aload_n 0 dX12_isSo_68 rfl ?_
  refine E.get hw 0 o dX12_isSo_69 flX12_13 rfl rfl rfl rfl ?_
  refine E.iload_n 1 dX12_isSo_72 rfl ?_
  refine E.iconst (v := 4) dX12_isSo_73 (by decide) ?_
  refine E.iadd dX12_isSo_74 ?_
  obtain ⟨g7, hf⟩ := gd_some hf
  refine E.iald hw 2 (o + 2) dX12_isSo_75 rfl rfl g7 ?_
  obtain ⟨r8, hc8, hf⟩ := e_bind hf
  refine E.callVD [] dX12_isSo_76 mlX12_341 ⟨hw.sub (p := 0) rfl, e_ov_get hw.1 (p := 0) rfl rfl⟩ rfl rfl (mX12_reckonAll hw hc8) ⟨Nat.le_of_ble_eq_true rfl, Nat.le_of_ble_eq_true rfl⟩ rfl rfl (Nat.le_of_ble_eq_true rfl) ⟨Nat.le_refl _, Nat.le_refl _⟩ rfl ?_
  refine E.aload_n 0 dX12_isSo_79 rfl ?_
  refine E.aload_n 0 dX12_isSo_80 rfl ?_
  refine E.get hw 0 o dX12_isSo_81 flX12_338 rfl rfl rfl rfl ?_
  refine E.put (es' := (wM G b o v_thrown v_status a_refusals a_row a_images a_isKept a_tape v_taped v_from v_to v_sort v_worth v_fault v_bad v_nClauses a_nClause v_nCode a_nOp a_nArg v_nLeaves a_pile a_pileAt v_piled v_opened a_words a_headWords v_law a_set r8.1 r8.2.1 r8.2.2 r8.2.2 a_chances a_votes a_costs a_table a_prices v_surely a_mostBy a_leastBy v_between v_steadyWays v_quashed v_but a_figures a_all a_lies a_since v_last v_state)) hw 0 o dX12_isSo_84 flX12_344 ftX12 rfl rfl rfl rfl rfl rfl (Nat.le_of_ble_eq_true rfl) rfl ?_
  refine E.aload_n 0 dX12_isSo_87 rfl ?_
  refine E.get hw 0 o dX12_isSo_88 flX12_324 rfl rfl rfl rfl ?_
  refine E.if_ne dX12_isSo_91 (fun h => ?_) (fun h => ?_)
  · have hf := e_iff hf h
    refine E.iconst (v := 0) dX12_isSo_98 (by decide) ?_
    cases hf
    exact E.zret dX12_isSo_99 rfl (Nat.le_refl _) (Nat.le_refl _) (pD_rf _ _ _)
  · have hf := e_ift hf h
    refine E.iconst (v := 1) dX12_isSo_94 (by decide) ?_
    refine E.goto dX12_isSo_95 ?_
    cases hf
    exact E.zret dX12_isSo_99 rfl (Nat.le_refl _) (Nat.le_refl _) (pD_rf _ _ _)
def fX12_isSo (Fu : Nat) (a_row : Nat → Int32) (v_law : Int32) (a_set : Nat → Int64) (a_rest : Nat → Int64) (v_broken : Int32) (v_value : Int64) (v_sum : Int64) (x1 : Int32) : Option (Int32 × (Nat → Int64) × Int32 × Int64 × Int64) := gd (x1 + 5) 5570 (gd (x1 + 6) 5570 (if ((a_row ((x1 + 6) : Int32).toNatClampNeg) : Int32) ≤ ((a_row ((x1 + 5) : Int32).toNatClampNeg) : Int32) then (fX12_isSo_L59 Fu a_row v_law a_set a_rest v_broken v_value v_sum x1) else (gd (x1 + 5) 5570 (gd (x1 + 6) 5570 ((fX12_reckonAll Fu a_row v_law a_set a_rest v_broken v_value (a_row ((x1 + 5) : Int32).toNatClampNeg) (a_row ((x1 + 6) : Int32).toNatClampNeg)).bind fun r5 => (if (r5.2.1 : Int32) = 0 then (if r5.2.2 = 0 then (some (0, r5.1, r5.2.1, r5.2.2, v_sum)) else (fX12_isSo_L59 Fu a_row v_law a_set r5.1 r5.2.1 r5.2.2 v_sum x1)) else (some (0, r5.1, r5.2.1, r5.2.2, v_sum))))))))
set_option maxHeartbeats 4000000 in
set_option maxRecDepth 100000 in
theorem tX12_isSo {G : GT} {b : Nat} {o : Nat} {c0 : Hp} {n : Nat} (hw : e_wf (kM o) n) {v_thrown : Int32} {v_status : Int32} {a_refusals : Nat → Int32} {a_images : Nat → Int32} {a_isKept : Nat → Int32} {a_tape : Nat → Int32} {v_taped : Int32} {v_from : Int32} {v_to : Int32} {v_sort : Int32} {v_worth : Int64} {v_fault : Int32} {v_bad : Int32} {v_nClauses : Int32} {a_nClause : Nat → Int32} {v_nCode : Int32} {a_nOp : Nat → Int32} {a_nArg : Nat → Int32} {v_nLeaves : Int32} {a_pile : Nat → Int32} {a_pileAt : Nat → Int32} {v_piled : Int32} {v_opened : Int32} {a_words : Nat → Int64} {a_headWords : Nat → Int64} {a_chances : Nat → Int32} {a_votes : Nat → Int64} {a_costs : Nat → Int32} {a_table : Nat → Int64} {a_prices : Nat → Int32} {v_surely : Int64} {a_mostBy : Nat → Int64} {a_leastBy : Nat → Int64} {v_between : Int64} {v_steadyWays : Int32} {v_quashed : Int32} {v_but : Int32} {a_figures : Nat → Int32} {a_all : Nat → Int32} {a_lies : Nat → Int32} {a_since : Nat → Int32} {v_last : Int32} {v_state : Int64} {Fu : Nat} {a_row : Nat → Int32} {v_law : Int32} {a_set : Nat → Int64} {a_rest : Nat → Int64} {v_broken : Int32} {v_value : Int64} {v_sum : Int64} {x1 : Int32} {R : Int32 × (Nat → Int64) × Int32 × Int64 × Int64} (hf : fX12_isSo Fu a_row v_law a_set a_rest v_broken v_value v_sum x1 = some R) : E G b yX12_isSo cX12_isSo 2 (some .boolean) (e_rm 2 0 0) e_X0 (e_Z G b (pD (some (.int R.1)) (e_ov (kM o) (wM G b o v_thrown v_status a_refusals a_row a_images a_isKept a_tape v_taped v_from v_to v_sort v_worth v_fault v_bad v_nClauses a_nClause v_nCode a_nOp a_nArg v_nLeaves a_pile a_pileAt v_piled v_opened a_words a_headWords v_law a_set R.2.1 R.2.2.1 R.2.2.2.1 R.2.2.2.2 a_chances a_votes a_costs a_table a_prices v_surely a_mostBy a_leastBy v_between v_steadyWays v_quashed v_but a_figures a_all a_lies a_since v_last v_state) c0) n) 0 0) 0 [(0, .ref (b + o)), (1, .int x1)] [] (e_ov (kM o) (wM G b o v_thrown v_status a_refusals a_row a_images a_isKept a_tape v_taped v_from v_to v_sort v_worth v_fault v_bad v_nClauses a_nClause v_nCode a_nOp a_nArg v_nLeaves a_pile a_pileAt v_piled v_opened a_words a_headWords v_law a_set a_rest v_broken v_value v_sum a_chances a_votes a_costs a_table a_prices v_surely a_mostBy a_leastBy v_between v_steadyWays v_quashed v_but a_figures a_all a_lies a_since v_last v_state) c0) n 0 0 := by
  unfold fX12_isSo at hf
  refine E.aload_n 0 dX12_isSo_0 rfl ?_
  refine E.get hw 0 o dX12_isSo_1 flX12_13 rfl rfl rfl rfl ?_
  refine E.iload_n 1 dX12_isSo_4 rfl ?_
  refine E.iconst (v := 5) dX12_isSo_5 (by decide) ?_
  refine E.iadd dX12_isSo_6 ?_
  obtain ⟨g1, hf⟩ := gd_some hf
  refine E.iald hw 2 (o + 2) dX12_isSo_7 rfl rfl g1 ?_
  refine E.aload_n 0 dX12_isSo_8 rfl ?_
  refine E.get hw 0 o dX12_isSo_9 flX12_13 rfl rfl rfl rfl ?_
  refine E.iload_n 1 dX12_isSo_12 rfl ?_
  refine E.bipush (v := 6) dX12_isSo_13 (by decide) ?_
  refine E.iadd dX12_isSo_15 ?_
  obtain ⟨g2, hf⟩ := gd_some hf
  refine E.iald hw 2 (o + 2) dX12_isSo_16 rfl rfl g2 ?_
  refine E.icmp_ge dX12_isSo_17 (fun h => ?_) (fun h => ?_)
  · have hf := e_ift hf h
    exact tX12_isSo_L59 hw hf
  · have hf := e_iff hf h
    refine E.aload_n 0 dX12_isSo_20 rfl ?_
    refine E.aload_n 0 dX12_isSo_21 rfl ?_
    refine E.get hw 0 o dX12_isSo_22 flX12_13 rfl rfl rfl rfl ?_
    refine E.iload_n 1 dX12_isSo_25 rfl ?_
    refine E.iconst (v := 5) dX12_isSo_26 (by decide) ?_
    refine E.iadd dX12_isSo_27 ?_
    obtain ⟨g3, hf⟩ := gd_some hf
    refine E.iald hw 2 (o + 2) dX12_isSo_28 rfl rfl g3 ?_
    refine E.aload_n 0 dX12_isSo_29 rfl ?_
    refine E.get hw 0 o dX12_isSo_30 flX12_13 rfl rfl rfl rfl ?_
    refine E.iload_n 1 dX12_isSo_33 rfl ?_
    refine E.bipush (v := 6) dX12_isSo_34 (by decide) ?_
    refine E.iadd dX12_isSo_36 ?_
    obtain ⟨g4, hf⟩ := gd_some hf
    refine E.iald hw 2 (o + 2) dX12_isSo_37 rfl rfl g4 ?_
    obtain ⟨r5, hc5, hf⟩ := e_bind hf
    refine E.callVD [] dX12_isSo_38 mlX12_341 ⟨hw.sub (p := 0) rfl, e_ov_get hw.1 (p := 0) rfl rfl⟩ rfl rfl (mX12_reckonAll hw hc5) ⟨Nat.le_of_ble_eq_true rfl, Nat.le_of_ble_eq_true rfl⟩ rfl rfl (Nat.le_of_ble_eq_true rfl) ⟨Nat.le_refl _, Nat.le_refl _⟩ rfl ?_
    refine E.aload_n 0 dX12_isSo_41 rfl ?_
    refine E.get hw 0 o dX12_isSo_42 flX12_324 rfl rfl rfl rfl ?_
    refine E.if_ne dX12_isSo_45 (fun h => ?_) (fun h => ?_)
    · have hf := e_iff hf h
      refine E.iconst (v := 0) dX12_isSo_57 (by decide) ?_
      cases hf
      exact E.zret dX12_isSo_58 rfl (Nat.le_refl _) (Nat.le_refl _) (pD_rf _ _ _)
    · have hf := e_ift hf h
      refine E.aload_n 0 dX12_isSo_48 rfl ?_
      refine E.get hw 0 o dX12_isSo_49 flX12_338 rfl rfl rfl rfl ?_
      refine E.lconst (v := 0) dX12_isSo_52 (by decide) ?_
      refine E.lc_ne dX12_isSo_53 dX12_isSo_54 (fun h => ?_) (fun h => ?_)
      · have hf := e_iff hf h
        exact tX12_isSo_L59 hw hf
      · have hf := e_ift hf h
        refine E.iconst (v := 0) dX12_isSo_57 (by decide) ?_
        cases hf
        exact E.zret dX12_isSo_58 rfl (Nat.le_refl _) (Nat.le_refl _) (pD_rf _ _ _)
set_option maxRecDepth 100000 in
theorem mX12_isSo {G : GT} {b : Nat} {o : Nat} {c0 : Hp} {n : Nat} (hw : e_wf (kM o) n) {v_thrown : Int32} {v_status : Int32} {a_refusals : Nat → Int32} {a_images : Nat → Int32} {a_isKept : Nat → Int32} {a_tape : Nat → Int32} {v_taped : Int32} {v_from : Int32} {v_to : Int32} {v_sort : Int32} {v_worth : Int64} {v_fault : Int32} {v_bad : Int32} {v_nClauses : Int32} {a_nClause : Nat → Int32} {v_nCode : Int32} {a_nOp : Nat → Int32} {a_nArg : Nat → Int32} {v_nLeaves : Int32} {a_pile : Nat → Int32} {a_pileAt : Nat → Int32} {v_piled : Int32} {v_opened : Int32} {a_words : Nat → Int64} {a_headWords : Nat → Int64} {a_chances : Nat → Int32} {a_votes : Nat → Int64} {a_costs : Nat → Int32} {a_table : Nat → Int64} {a_prices : Nat → Int32} {v_surely : Int64} {a_mostBy : Nat → Int64} {a_leastBy : Nat → Int64} {v_between : Int64} {v_steadyWays : Int32} {v_quashed : Int32} {v_but : Int32} {a_figures : Nat → Int32} {a_all : Nat → Int32} {a_lies : Nat → Int32} {a_since : Nat → Int32} {v_last : Int32} {v_state : Int64} {Fu : Nat} {a_row : Nat → Int32} {v_law : Int32} {a_set : Nat → Int64} {a_rest : Nat → Int64} {v_broken : Int32} {v_value : Int64} {v_sum : Int64} {x1 : Int32} {R : Int32 × (Nat → Int64) × Int32 × Int64 × Int64} (hf : fX12_isSo Fu a_row v_law a_set a_rest v_broken v_value v_sum x1 = some R) : e_C G b yX12_isSo cX12_isSo 2 (some .boolean) 2 0 0 [.ref (b + o), .int x1] (e_ov (kM o) (wM G b o v_thrown v_status a_refusals a_row a_images a_isKept a_tape v_taped v_from v_to v_sort v_worth v_fault v_bad v_nClauses a_nClause v_nCode a_nOp a_nArg v_nLeaves a_pile a_pileAt v_piled v_opened a_words a_headWords v_law a_set a_rest v_broken v_value v_sum a_chances a_votes a_costs a_table a_prices v_surely a_mostBy a_leastBy v_between v_steadyWays v_quashed v_but a_figures a_all a_lies a_since v_last v_state) c0) n (pD (some (.int R.1)) (e_ov (kM o) (wM G b o v_thrown v_status a_refusals a_row a_images a_isKept a_tape v_taped v_from v_to v_sort v_worth v_fault v_bad v_nClauses a_nClause v_nCode a_nOp a_nArg v_nLeaves a_pile a_pileAt v_piled v_opened a_words a_headWords v_law a_set R.2.1 R.2.2.1 R.2.2.2.1 R.2.2.2.2 a_chances a_votes a_costs a_table a_prices v_surely a_mostBy a_leastBy v_between v_steadyWays v_quashed v_but a_figures a_all a_lies a_since v_last v_state) c0) n) := e_C.of (by decide) (Nat.le_of_ble_eq_true rfl) (tX12_isSo hw hf)
def fX12_tells_L153 (Fu : Nat) : Nat → (Nat → Int32) → Int32 → (Nat → Int64) → (Nat → Int64) → Int32 → Int64 → Int64 → Int32 → Int32 → Int64 → Int32 → Option (Int32 × Int32 × (Nat → Int64) × (Nat → Int64) × Int32 × Int64 × Int64)
  | 0, _, _, _, _, _, _, _, _, _, _, _ => none
  | k + 1, a_row, v_law, a_set, a_rest, v_broken, v_value, v_sum, x1, x8, x9, x11 => gd (v_law + 1) 5570 (if ((a_row ((v_law + 1) : Int32).toNatClampNeg) : Int32) ≤ (x11 : Int32) then (if 0 ≤ x9 then (if x9 ≤ ((x8 : Int32).toInt64) then (some (((x9 : Int64).toInt32), v_law, a_set, a_rest, v_broken, v_value, v_sum)) else (some (x8, v_law, a_set, a_rest, v_broken, v_value, v_sum))) else (some (0, v_law, a_set, a_rest, v_broken, v_value, v_sum))) else (gd ((v_law + 2) + (8 * x11)) 5570 (if ((a_row (((v_law + 2) + (8 * x11)) : Int32).toNatClampNeg) : Int32) = (x1 : Int32) then ((fX12_isSo Fu a_row v_law a_set a_rest v_broken v_value v_sum ((v_law + 2) + (8 * x11))).bind fun r20 => (if (r20.1 : Int32) = 0 then ((fX12_tells_L153 Fu k) a_row v_law a_set r20.2.1 r20.2.2.1 r20.2.2.2.1 r20.2.2.2.2 x1 x8 x9 (x11 + 1)) else ((fX12_tells_L153 Fu k) a_row v_law a_set r20.2.1 r20.2.2.1 r20.2.2.2.1 r20.2.2.2.2 x1 x8 r20.2.2.2.2 (x11 + 1)))) else ((fX12_tells_L153 Fu k) a_row v_law a_set a_rest v_broken v_value v_sum x1 x8 x9 (x11 + 1)))))
set_option maxHeartbeats 4000000 in
set_option maxRecDepth 100000 in
theorem tX12_tells_L153 {G : GT} {b : Nat} {o : Nat} {c0 : Hp} {n : Nat} (hw : e_wf (kM o) n) {v_thrown : Int32} {v_status : Int32} {a_refusals : Nat → Int32} {a_images : Nat → Int32} {a_isKept : Nat → Int32} {a_tape : Nat → Int32} {v_taped : Int32} {v_from : Int32} {v_to : Int32} {v_sort : Int32} {v_worth : Int64} {v_fault : Int32} {v_bad : Int32} {v_nClauses : Int32} {a_nClause : Nat → Int32} {v_nCode : Int32} {a_nOp : Nat → Int32} {a_nArg : Nat → Int32} {v_nLeaves : Int32} {a_pile : Nat → Int32} {a_pileAt : Nat → Int32} {v_piled : Int32} {v_opened : Int32} {a_words : Nat → Int64} {a_headWords : Nat → Int64} {a_chances : Nat → Int32} {a_votes : Nat → Int64} {a_costs : Nat → Int32} {a_table : Nat → Int64} {a_prices : Nat → Int32} {v_surely : Int64} {a_mostBy : Nat → Int64} {a_leastBy : Nat → Int64} {v_between : Int64} {v_steadyWays : Int32} {v_quashed : Int32} {v_but : Int32} {a_figures : Nat → Int32} {a_all : Nat → Int32} {a_lies : Nat → Int32} {a_since : Nat → Int32} {v_last : Int32} {v_state : Int64} {Fu : Nat} : ∀ (k : Nat) {a_row : Nat → Int32} {v_law : Int32} {a_set : Nat → Int64} {a_rest : Nat → Int64} {v_broken : Int32} {v_value : Int64} {v_sum : Int64} {x1 : Int32} {x8 : Int32} {x9 : Int64} {x11 : Int32} {R : Int32 × Int32 × (Nat → Int64) × (Nat → Int64) × Int32 × Int64 × Int64}, fX12_tells_L153 Fu k a_row v_law a_set a_rest v_broken v_value v_sum x1 x8 x9 x11 = some R → E G b yX12_tells cX12_tells 13 (some .int) (e_rm 3 0 0) e_X0 (e_Z G b (pD (some (.int R.1)) (e_ov (kM o) (wM G b o v_thrown v_status a_refusals a_row a_images a_isKept a_tape v_taped v_from v_to v_sort v_worth v_fault v_bad v_nClauses a_nClause v_nCode a_nOp a_nArg v_nLeaves a_pile a_pileAt v_piled v_opened a_words a_headWords R.2.1 R.2.2.1 R.2.2.2.1 R.2.2.2.2.1 R.2.2.2.2.2.1 R.2.2.2.2.2.2 a_chances a_votes a_costs a_table a_prices v_surely a_mostBy a_leastBy v_between v_steadyWays v_quashed v_but a_figures a_all a_lies a_since v_last v_state) c0) n) 0 0) 153 [(0, .ref (b + o)), (1, .int x1), (8, .int x8), (9, .long x9), (11, .int x11)] [] (e_ov (kM o) (wM G b o v_thrown v_status a_refusals a_row a_images a_isKept a_tape v_taped v_from v_to v_sort v_worth v_fault v_bad v_nClauses a_nClause v_nCode a_nOp a_nArg v_nLeaves a_pile a_pileAt v_piled v_opened a_words a_headWords v_law a_set a_rest v_broken v_value v_sum a_chances a_votes a_costs a_table a_prices v_surely a_mostBy a_leastBy v_between v_steadyWays v_quashed v_but a_figures a_all a_lies a_since v_last v_state) c0) n 0 0 := by
  intro k
  induction k with
  | zero =>
    intro _ _ _ _ _ _ _ _ _ _ _ _ hf
    have hf : (none : Option (Int32 × Int32 × (Nat → Int64) × (Nat → Int64) × Int32 × Int64 × Int64)) = some _ := hf
    cases hf
  | succ k ih =>
    intro a_row v_law a_set a_rest v_broken v_value v_sum x1 x8 x9 x11 R hf
    rw [fX12_tells_L153] at hf
    refine E.iload 4 dX12_tells_153 rfl ?_
    refine E.aload_n 0 dX12_tells_155 rfl ?_
    refine E.get hw 0 o dX12_tells_156 flX12_13 rfl rfl rfl rfl ?_
    refine E.aload_n 0 dX12_tells_159 rfl ?_
    refine E.get hw 0 o dX12_tells_160 flX12_327 rfl rfl rfl rfl ?_
    refine E.iconst (v := 1) dX12_tells_163 (by decide) ?_
    refine E.iadd dX12_tells_164 ?_
    obtain ⟨g18, hf⟩ := gd_some hf
    refine E.iald hw 2 (o + 2) dX12_tells_165 rfl rfl g18 ?_
    refine E.icmp_ge dX12_tells_166 (fun h => ?_) (fun h => ?_)
    · have hf := e_ift hf h
      refine E.lload 3 dX12_tells_215 rfl ?_
      refine E.lconst (v := 0) dX12_tells_217 (by decide) ?_
      refine E.lc_ge dX12_tells_218 dX12_tells_219 (fun h => ?_) (fun h => ?_)
      · have hf := e_ift hf h
        refine E.lload 3 dX12_tells_226 rfl ?_
        refine E.iload 2 dX12_tells_228 rfl ?_
        refine E.i2l dX12_tells_230 ?_
        refine E.lc_le dX12_tells_231 dX12_tells_232 (fun h => ?_) (fun h => ?_)
        · have hf := e_ift hf h
          refine E.lload 3 dX12_tells_240 rfl ?_
          refine E.l2i dX12_tells_242 ?_
          cases hf
          exact E.iret dX12_tells_243 (Nat.le_refl _) (Nat.le_refl _) (pD_rf _ _ _)
        · have hf := e_iff hf h
          refine E.iload 2 dX12_tells_235 rfl ?_
          refine E.goto dX12_tells_237 ?_
          cases hf
          exact E.iret dX12_tells_243 (Nat.le_refl _) (Nat.le_refl _) (pD_rf _ _ _)
      · have hf := e_iff hf h
        refine E.iconst (v := 0) dX12_tells_222 (by decide) ?_
        refine E.goto dX12_tells_223 ?_
        cases hf
        exact E.iret dX12_tells_243 (Nat.le_refl _) (Nat.le_refl _) (pD_rf _ _ _)
    · have hf := e_iff hf h
      refine E.aload_n 0 dX12_tells_169 rfl ?_
      refine E.get hw 0 o dX12_tells_170 flX12_327 rfl rfl rfl rfl ?_
      refine E.iconst (v := 2) dX12_tells_173 (by decide) ?_
      refine E.iadd dX12_tells_174 ?_
      refine E.bipush (v := 8) dX12_tells_175 (by decide) ?_
      refine E.iload 4 dX12_tells_177 rfl ?_
      refine E.imul dX12_tells_179 ?_
      refine E.iadd dX12_tells_180 ?_
      refine E.istore (lv' := [(12, .int ((v_law + 2) + (8 * x11))), (0, .ref (b + o)), (1, .int x1), (8, .int x8), (9, .long x9), (11, .int x11)]) dX12_tells_181 (by decide) rfl ?_
      refine E.aload_n 1 dX12_tells_183 rfl ?_
      refine E.get hw 0 o dX12_tells_184 flX12_13 rfl rfl rfl rfl ?_
      refine E.iload 0 dX12_tells_187 rfl ?_
      obtain ⟨g19, hf⟩ := gd_some hf
      refine E.iald hw 2 (o + 2) dX12_tells_189 rfl rfl g19 ?_
      refine E.iload_n 2 dX12_tells_190 rfl ?_
      refine E.icmp_ne dX12_tells_191 (fun h => ?_) (fun h => ?_)
      · have hf := e_iff hf h
        refine E.iinc (q := 5) (v := (x11 + 1)) (lv' := [(11, .int (x11 + 1)), (12, .int ((v_law + 2) + (8 * x11))), (0, .ref (b + o)), (1, .int x1), (8, .int x8), (9, .long x9)]) dX12_tells_209 rfl rfl (by decide) rfl ?_
        refine E.goto dX12_tells_212 ?_
        refine E.locals [2, 3, 4, 5, 0] rfl ?_
        exact ih hf
      · have hf := e_ift hf h
        refine E.aload_n 1 dX12_tells_194 rfl ?_
        refine E.iload 0 dX12_tells_195 rfl ?_
        obtain ⟨r20, hc20, hf⟩ := e_bind hf
        refine E.callVD [] dX12_tells_197 mlX12_347 ⟨hw.sub (p := 0) rfl, e_ov_get hw.1 (p := 0) rfl rfl⟩ rfl rfl (mX12_isSo hw hc20) ⟨Nat.le_of_ble_eq_true rfl, Nat.le_of_ble_eq_true rfl⟩ rfl rfl (Nat.le_of_ble_eq_true rfl) ⟨Nat.le_refl _, Nat.le_refl _⟩ rfl ?_
        refine E.if_eq dX12_tells_200 (fun h => ?_) (fun h => ?_)
        · have hf := e_ift hf h
          refine E.iinc (q := 5) (v := (x11 + 1)) (lv' := [(11, .int (x11 + 1)), (12, .int ((v_law + 2) + (8 * x11))), (0, .ref (b + o)), (1, .int x1), (8, .int x8), (9, .long x9)]) dX12_tells_209 rfl rfl (by decide) rfl ?_
          refine E.goto dX12_tells_212 ?_
          refine E.locals [2, 3, 4, 5, 0] rfl ?_
          exact ih hf
        · have hf := e_iff hf h
          refine E.aload_n 1 dX12_tells_203 rfl ?_
          refine E.get hw 0 o dX12_tells_204 flX12_344 rfl rfl rfl rfl ?_
          refine E.lstore (lv' := [(9, .long r20.2.2.2.2), (12, .int ((v_law + 2) + (8 * x11))), (0, .ref (b + o)), (1, .int x1), (8, .int x8), (11, .int x11)]) dX12_tells_207 (by decide) rfl ?_
          refine E.iinc (q := 5) (v := (x11 + 1)) (lv' := [(11, .int (x11 + 1)), (9, .long r20.2.2.2.2), (12, .int ((v_law + 2) + (8 * x11))), (0, .ref (b + o)), (1, .int x1), (8, .int x8)]) dX12_tells_209 rfl rfl (by decide) rfl ?_
          refine E.goto dX12_tells_212 ?_
          refine E.locals [3, 4, 5, 1, 0] rfl ?_
          exact ih hf
def fX12_tells (Fu : Nat) (a_row : Nat → Int32) (v_law : Int32) (a_set : Nat → Int64) (a_rest : Nat → Int64) (v_broken : Int32) (v_value : Int64) (v_sum : Int64) (x1 : Int32) (x2 : Int32) (x3 : Int32) (x4 : Int32) (x5 : Int32) (x6 : Int32) (x7 : Int32) (x8 : Int32) : Option (Int32 × Int32 × (Nat → Int64) × (Nat → Int64) × Int32 × Int64 × Int64) := gd 3 5570 (if ((a_row (3 : Int32).toNatClampNeg) : Int32) = ((-1 : Int32) : Int32) then (some (x7, v_law, a_set, a_rest, v_broken, v_value, v_sum)) else (gd 3 5570 (gd 1 13 ((fX12_ofBeast a_row x2 0).bind fun r4 => (gd 2 13 ((fX12_hungerIn Fu a_row x2 x3).bind fun r6 => (gd 3 13 ((fX12_ofBeast a_row x2 3).bind fun r8 => (gd 4 13 ((fX12_ofBeast a_row x2 4).bind fun r10 => (gd 5 13 (gd 6 13 (gd 7 13 (gd 7 5570 (gd 8 13 (gd 9 13 (gd 10 13 (fX12_tells_L153 Fu Fu a_row (170 + (900 * (a_row (3 : Int32).toNatClampNeg))) (va_up (va_up (va_up (va_up (va_up (va_up (va_up (va_up (va_up (va_up a_set (1 : Int32).toNatClampNeg ((x2 : Int32).toInt64)) (2 : Int32).toNatClampNeg ((r4 : Int32).toInt64)) (3 : Int32).toNatClampNeg ((r6 : Int32).toInt64)) (4 : Int32).toNatClampNeg ((r8 : Int32).toInt64)) (5 : Int32).toNatClampNeg ((r10 : Int32).toInt64)) (6 : Int32).toNatClampNeg ((x4 : Int32).toInt64)) (7 : Int32).toNatClampNeg ((x3 : Int32).toInt64)) (8 : Int32).toNatClampNeg (((a_row (7 : Int32).toNatClampNeg) : Int32).toInt64)) (9 : Int32).toNatClampNeg ((x5 : Int32).toInt64)) (10 : Int32).toNatClampNeg ((x6 : Int32).toInt64)) a_rest v_broken v_value v_sum x1 x8 ((x7 : Int32).toInt64) 0))))))))))))))))))
set_option maxHeartbeats 4000000 in
set_option maxRecDepth 100000 in
theorem tX12_tells {G : GT} {b : Nat} {o : Nat} {c0 : Hp} {n : Nat} (hw : e_wf (kM o) n) {v_thrown : Int32} {v_status : Int32} {a_refusals : Nat → Int32} {a_images : Nat → Int32} {a_isKept : Nat → Int32} {a_tape : Nat → Int32} {v_taped : Int32} {v_from : Int32} {v_to : Int32} {v_sort : Int32} {v_worth : Int64} {v_fault : Int32} {v_bad : Int32} {v_nClauses : Int32} {a_nClause : Nat → Int32} {v_nCode : Int32} {a_nOp : Nat → Int32} {a_nArg : Nat → Int32} {v_nLeaves : Int32} {a_pile : Nat → Int32} {a_pileAt : Nat → Int32} {v_piled : Int32} {v_opened : Int32} {a_words : Nat → Int64} {a_headWords : Nat → Int64} {a_chances : Nat → Int32} {a_votes : Nat → Int64} {a_costs : Nat → Int32} {a_table : Nat → Int64} {a_prices : Nat → Int32} {v_surely : Int64} {a_mostBy : Nat → Int64} {a_leastBy : Nat → Int64} {v_between : Int64} {v_steadyWays : Int32} {v_quashed : Int32} {v_but : Int32} {a_figures : Nat → Int32} {a_all : Nat → Int32} {a_lies : Nat → Int32} {a_since : Nat → Int32} {v_last : Int32} {v_state : Int64} {Fu : Nat} {a_row : Nat → Int32} {v_law : Int32} {a_set : Nat → Int64} {a_rest : Nat → Int64} {v_broken : Int32} {v_value : Int64} {v_sum : Int64} {x1 : Int32} {x2 : Int32} {x3 : Int32} {x4 : Int32} {x5 : Int32} {x6 : Int32} {x7 : Int32} {x8 : Int32} {R : Int32 × Int32 × (Nat → Int64) × (Nat → Int64) × Int32 × Int64 × Int64} (hf : fX12_tells Fu a_row v_law a_set a_rest v_broken v_value v_sum x1 x2 x3 x4 x5 x6 x7 x8 = some R) : E G b yX12_tells cX12_tells 13 (some .int) (e_rm 3 0 0) e_X0 (e_Z G b (pD (some (.int R.1)) (e_ov (kM o) (wM G b o v_thrown v_status a_refusals a_row a_images a_isKept a_tape v_taped v_from v_to v_sort v_worth v_fault v_bad v_nClauses a_nClause v_nCode a_nOp a_nArg v_nLeaves a_pile a_pileAt v_piled v_opened a_words a_headWords R.2.1 R.2.2.1 R.2.2.2.1 R.2.2.2.2.1 R.2.2.2.2.2.1 R.2.2.2.2.2.2 a_chances a_votes a_costs a_table a_prices v_surely a_mostBy a_leastBy v_between v_steadyWays v_quashed v_but a_figures a_all a_lies a_since v_last v_state) c0) n) 0 0) 0 [(0, .ref (b + o)), (1, .int x1), (2, .int x2), (3, .int x3), (4, .int x4), (5, .int x5), (6, .int x6), (7, .int x7), (8, .int x8)] [] (e_ov (kM o) (wM G b o v_thrown v_status a_refusals a_row a_images a_isKept a_tape v_taped v_from v_to v_sort v_worth v_fault v_bad v_nClauses a_nClause v_nCode a_nOp a_nArg v_nLeaves a_pile a_pileAt v_piled v_opened a_words a_headWords v_law a_set a_rest v_broken v_value v_sum a_chances a_votes a_costs a_table a_prices v_surely a_mostBy a_leastBy v_between v_steadyWays v_quashed v_but a_figures a_all a_lies a_since v_last v_state) c0) n 0 0 := by
  unfold fX12_tells at hf
  refine E.aload_n 0 dX12_tells_0 rfl ?_
  refine E.get hw 0 o dX12_tells_1 flX12_13 rfl rfl rfl rfl ?_
  refine E.iconst (v := 3) dX12_tells_4 (by decide) ?_
  obtain ⟨g1, hf⟩ := gd_some hf
  refine E.iald hw 2 (o + 2) dX12_tells_5 rfl rfl g1 ?_
  refine E.iconst (v := -1) dX12_tells_6 (by decide) ?_
  refine E.icmp_ne dX12_tells_7 (fun h => ?_) (fun h => ?_)
  · have hf := e_iff hf h
    refine E.aload_n 0 dX12_tells_13 rfl ?_
    refine E.sipush (v := 170) dX12_tells_14 (by decide) ?_
    refine E.sipush (v := 900) dX12_tells_17 (by decide) ?_
    refine E.aload_n 0 dX12_tells_20 rfl ?_
    refine E.get hw 0 o dX12_tells_21 flX12_13 rfl rfl rfl rfl ?_
    refine E.iconst (v := 3) dX12_tells_24 (by decide) ?_
    obtain ⟨g2, hf⟩ := gd_some hf
    refine E.iald hw 2 (o + 2) dX12_tells_25 rfl rfl g2 ?_
    refine E.imul dX12_tells_26 ?_
    refine E.iadd dX12_tells_27 ?_
    refine E.put (es' := (wM G b o v_thrown v_status a_refusals a_row a_images a_isKept a_tape v_taped v_from v_to v_sort v_worth v_fault v_bad v_nClauses a_nClause v_nCode a_nOp a_nArg v_nLeaves a_pile a_pileAt v_piled v_opened a_words a_headWords (170 + (900 * (a_row (3 : Int32).toNatClampNeg))) a_set a_rest v_broken v_value v_sum a_chances a_votes a_costs a_table a_prices v_surely a_mostBy a_leastBy v_between v_steadyWays v_quashed v_but a_figures a_all a_lies a_since v_last v_state)) hw 0 o dX12_tells_28 flX12_327 ftX12 rfl rfl rfl rfl rfl rfl (Nat.le_of_ble_eq_true rfl) rfl ?_
    refine E.aload_n 0 dX12_tells_31 rfl ?_
    refine E.get hw 0 o dX12_tells_32 flX12_78 rfl rfl rfl rfl ?_
    refine E.iconst (v := 1) dX12_tells_35 (by decide) ?_
    refine E.iload_n 2 dX12_tells_36 rfl ?_
    refine E.i2l dX12_tells_37 ?_
    obtain ⟨g3, hf⟩ := gd_some hf
    refine E.last (es' := (wM G b o v_thrown v_status a_refusals a_row a_images a_isKept a_tape v_taped v_from v_to v_sort v_worth v_fault v_bad v_nClauses a_nClause v_nCode a_nOp a_nArg v_nLeaves a_pile a_pileAt v_piled v_opened a_words a_headWords (170 + (900 * (a_row (3 : Int32).toNatClampNeg))) (va_up a_set (1 : Int32).toNatClampNeg ((x2 : Int32).toInt64)) a_rest v_broken v_value v_sum a_chances a_votes a_costs a_table a_prices v_surely a_mostBy a_leastBy v_between v_steadyWays v_quashed v_but a_figures a_all a_lies a_since v_last v_state)) hw 13 (o + 13) dX12_tells_38 rfl rfl g3 rfl ?_
    refine E.aload_n 0 dX12_tells_39 rfl ?_
    refine E.get hw 0 o dX12_tells_40 flX12_78 rfl rfl rfl rfl ?_
    refine E.iconst (v := 2) dX12_tells_43 (by decide) ?_
    refine E.aload_n 0 dX12_tells_44 rfl ?_
    refine E.iload_n 2 dX12_tells_45 rfl ?_
    refine E.iconst (v := 0) dX12_tells_46 (by decide) ?_
    obtain ⟨r4, hc4, hf⟩ := e_bind hf
    refine E.callVD [.int 2, .ref (b + (o + 13))] dX12_tells_47 mlX12_163 ⟨hw.sub (p := 0) rfl, e_ov_get hw.1 (p := 0) rfl rfl⟩ rfl rfl (mX12_ofBeast hw hc4) ⟨Nat.le_of_ble_eq_true rfl, Nat.le_of_ble_eq_true rfl⟩ rfl rfl (Nat.le_of_ble_eq_true rfl) ⟨Nat.le_refl _, Nat.le_refl _⟩ rfl ?_
    refine E.i2l dX12_tells_50 ?_
    obtain ⟨g5, hf⟩ := gd_some hf
    refine E.last (es' := (wM G b o v_thrown v_status a_refusals a_row a_images a_isKept a_tape v_taped v_from v_to v_sort v_worth v_fault v_bad v_nClauses a_nClause v_nCode a_nOp a_nArg v_nLeaves a_pile a_pileAt v_piled v_opened a_words a_headWords (170 + (900 * (a_row (3 : Int32).toNatClampNeg))) (va_up (va_up a_set (1 : Int32).toNatClampNeg ((x2 : Int32).toInt64)) (2 : Int32).toNatClampNeg ((r4 : Int32).toInt64)) a_rest v_broken v_value v_sum a_chances a_votes a_costs a_table a_prices v_surely a_mostBy a_leastBy v_between v_steadyWays v_quashed v_but a_figures a_all a_lies a_since v_last v_state)) hw 13 (o + 13) dX12_tells_51 rfl rfl g5 rfl ?_
    refine E.aload_n 0 dX12_tells_52 rfl ?_
    refine E.get hw 0 o dX12_tells_53 flX12_78 rfl rfl rfl rfl ?_
    refine E.iconst (v := 3) dX12_tells_56 (by decide) ?_
    refine E.aload_n 0 dX12_tells_57 rfl ?_
    refine E.iload_n 2 dX12_tells_58 rfl ?_
    refine E.iload_n 3 dX12_tells_59 rfl ?_
    obtain ⟨r6, hc6, hf⟩ := e_bind hf
    refine E.callVD [.int 3, .ref (b + (o + 13))] dX12_tells_60 mlX12_169 ⟨hw.sub (p := 0) rfl, e_ov_get hw.1 (p := 0) rfl rfl⟩ rfl rfl (mX12_hungerIn hw hc6) ⟨Nat.le_of_ble_eq_true rfl, Nat.le_of_ble_eq_true rfl⟩ rfl rfl (Nat.le_of_ble_eq_true rfl) ⟨Nat.le_refl _, Nat.le_refl _⟩ rfl ?_
    refine E.i2l dX12_tells_63 ?_
    obtain ⟨g7, hf⟩ := gd_some hf
    refine E.last (es' := (wM G b o v_thrown v_status a_refusals a_row a_images a_isKept a_tape v_taped v_from v_to v_sort v_worth v_fault v_bad v_nClauses a_nClause v_nCode a_nOp a_nArg v_nLeaves a_pile a_pileAt v_piled v_opened a_words a_headWords (170 + (900 * (a_row (3 : Int32).toNatClampNeg))) (va_up (va_up (va_up a_set (1 : Int32).toNatClampNeg ((x2 : Int32).toInt64)) (2 : Int32).toNatClampNeg ((r4 : Int32).toInt64)) (3 : Int32).toNatClampNeg ((r6 : Int32).toInt64)) a_rest v_broken v_value v_sum a_chances a_votes a_costs a_table a_prices v_surely a_mostBy a_leastBy v_between v_steadyWays v_quashed v_but a_figures a_all a_lies a_since v_last v_state)) hw 13 (o + 13) dX12_tells_64 rfl rfl g7 rfl ?_
    refine E.aload_n 0 dX12_tells_65 rfl ?_
    refine E.get hw 0 o dX12_tells_66 flX12_78 rfl rfl rfl rfl ?_
    refine E.iconst (v := 4) dX12_tells_69 (by decide) ?_
    refine E.aload_n 0 dX12_tells_70 rfl ?_
    refine E.iload_n 2 dX12_tells_71 rfl ?_
    refine E.iconst (v := 3) dX12_tells_72 (by decide) ?_
    obtain ⟨r8, hc8, hf⟩ := e_bind hf
    refine E.callVD [.int 4, .ref (b + (o + 13))] dX12_tells_73 mlX12_163 ⟨hw.sub (p := 0) rfl, e_ov_get hw.1 (p := 0) rfl rfl⟩ rfl rfl (mX12_ofBeast hw hc8) ⟨Nat.le_of_ble_eq_true rfl, Nat.le_of_ble_eq_true rfl⟩ rfl rfl (Nat.le_of_ble_eq_true rfl) ⟨Nat.le_refl _, Nat.le_refl _⟩ rfl ?_
    refine E.i2l dX12_tells_76 ?_
    obtain ⟨g9, hf⟩ := gd_some hf
    refine E.last (es' := (wM G b o v_thrown v_status a_refusals a_row a_images a_isKept a_tape v_taped v_from v_to v_sort v_worth v_fault v_bad v_nClauses a_nClause v_nCode a_nOp a_nArg v_nLeaves a_pile a_pileAt v_piled v_opened a_words a_headWords (170 + (900 * (a_row (3 : Int32).toNatClampNeg))) (va_up (va_up (va_up (va_up a_set (1 : Int32).toNatClampNeg ((x2 : Int32).toInt64)) (2 : Int32).toNatClampNeg ((r4 : Int32).toInt64)) (3 : Int32).toNatClampNeg ((r6 : Int32).toInt64)) (4 : Int32).toNatClampNeg ((r8 : Int32).toInt64)) a_rest v_broken v_value v_sum a_chances a_votes a_costs a_table a_prices v_surely a_mostBy a_leastBy v_between v_steadyWays v_quashed v_but a_figures a_all a_lies a_since v_last v_state)) hw 13 (o + 13) dX12_tells_77 rfl rfl g9 rfl ?_
    refine E.aload_n 0 dX12_tells_78 rfl ?_
    refine E.get hw 0 o dX12_tells_79 flX12_78 rfl rfl rfl rfl ?_
    refine E.iconst (v := 5) dX12_tells_82 (by decide) ?_
    refine E.aload_n 0 dX12_tells_83 rfl ?_
    refine E.iload_n 2 dX12_tells_84 rfl ?_
    refine E.iconst (v := 4) dX12_tells_85 (by decide) ?_
    obtain ⟨r10, hc10, hf⟩ := e_bind hf
    refine E.callVD [.int 5, .ref (b + (o + 13))] dX12_tells_86 mlX12_163 ⟨hw.sub (p := 0) rfl, e_ov_get hw.1 (p := 0) rfl rfl⟩ rfl rfl (mX12_ofBeast hw hc10) ⟨Nat.le_of_ble_eq_true rfl, Nat.le_of_ble_eq_true rfl⟩ rfl rfl (Nat.le_of_ble_eq_true rfl) ⟨Nat.le_refl _, Nat.le_refl _⟩ rfl ?_
    refine E.i2l dX12_tells_89 ?_
    obtain ⟨g11, hf⟩ := gd_some hf
    refine E.last (es' := (wM G b o v_thrown v_status a_refusals a_row a_images a_isKept a_tape v_taped v_from v_to v_sort v_worth v_fault v_bad v_nClauses a_nClause v_nCode a_nOp a_nArg v_nLeaves a_pile a_pileAt v_piled v_opened a_words a_headWords (170 + (900 * (a_row (3 : Int32).toNatClampNeg))) (va_up (va_up (va_up (va_up (va_up a_set (1 : Int32).toNatClampNeg ((x2 : Int32).toInt64)) (2 : Int32).toNatClampNeg ((r4 : Int32).toInt64)) (3 : Int32).toNatClampNeg ((r6 : Int32).toInt64)) (4 : Int32).toNatClampNeg ((r8 : Int32).toInt64)) (5 : Int32).toNatClampNeg ((r10 : Int32).toInt64)) a_rest v_broken v_value v_sum a_chances a_votes a_costs a_table a_prices v_surely a_mostBy a_leastBy v_between v_steadyWays v_quashed v_but a_figures a_all a_lies a_since v_last v_state)) hw 13 (o + 13) dX12_tells_90 rfl rfl g11 rfl ?_
    refine E.aload_n 0 dX12_tells_91 rfl ?_
    refine E.get hw 0 o dX12_tells_92 flX12_78 rfl rfl rfl rfl ?_
    refine E.bipush (v := 6) dX12_tells_95 (by decide) ?_
    refine E.iload 4 dX12_tells_97 rfl ?_
    refine E.i2l dX12_tells_99 ?_
    obtain ⟨g12, hf⟩ := gd_some hf
    refine E.last (es' := (wM G b o v_thrown v_status a_refusals a_row a_images a_isKept a_tape v_taped v_from v_to v_sort v_worth v_fault v_bad v_nClauses a_nClause v_nCode a_nOp a_nArg v_nLeaves a_pile a_pileAt v_piled v_opened a_words a_headWords (170 + (900 * (a_row (3 : Int32).toNatClampNeg))) (va_up (va_up (va_up (va_up (va_up (va_up a_set (1 : Int32).toNatClampNeg ((x2 : Int32).toInt64)) (2 : Int32).toNatClampNeg ((r4 : Int32).toInt64)) (3 : Int32).toNatClampNeg ((r6 : Int32).toInt64)) (4 : Int32).toNatClampNeg ((r8 : Int32).toInt64)) (5 : Int32).toNatClampNeg ((r10 : Int32).toInt64)) (6 : Int32).toNatClampNeg ((x4 : Int32).toInt64)) a_rest v_broken v_value v_sum a_chances a_votes a_costs a_table a_prices v_surely a_mostBy a_leastBy v_between v_steadyWays v_quashed v_but a_figures a_all a_lies a_since v_last v_state)) hw 13 (o + 13) dX12_tells_100 rfl rfl g12 rfl ?_
    refine E.aload_n 0 dX12_tells_101 rfl ?_
    refine E.get hw 0 o dX12_tells_102 flX12_78 rfl rfl rfl rfl ?_
    refine E.bipush (v := 7) dX12_tells_105 (by decide) ?_
    refine E.iload_n 3 dX12_tells_107 rfl ?_
    refine E.i2l dX12_tells_108 ?_
    obtain ⟨g13, hf⟩ := gd_some hf
    refine E.last (es' := (wM G b o v_thrown v_status a_refusals a_row a_images a_isKept a_tape v_taped v_from v_to v_sort v_worth v_fault v_bad v_nClauses a_nClause v_nCode a_nOp a_nArg v_nLeaves a_pile a_pileAt v_piled v_opened a_words a_headWords (170 + (900 * (a_row (3 : Int32).toNatClampNeg))) (va_up (va_up (va_up (va_up (va_up (va_up (va_up a_set (1 : Int32).toNatClampNeg ((x2 : Int32).toInt64)) (2 : Int32).toNatClampNeg ((r4 : Int32).toInt64)) (3 : Int32).toNatClampNeg ((r6 : Int32).toInt64)) (4 : Int32).toNatClampNeg ((r8 : Int32).toInt64)) (5 : Int32).toNatClampNeg ((r10 : Int32).toInt64)) (6 : Int32).toNatClampNeg ((x4 : Int32).toInt64)) (7 : Int32).toNatClampNeg ((x3 : Int32).toInt64)) a_rest v_broken v_value v_sum a_chances a_votes a_costs a_table a_prices v_surely a_mostBy a_leastBy v_between v_steadyWays v_quashed v_but a_figures a_all a_lies a_since v_last v_state)) hw 13 (o + 13) dX12_tells_109 rfl rfl g13 rfl ?_
    refine E.aload_n 0 dX12_tells_110 rfl ?_
    refine E.get hw 0 o dX12_tells_111 flX12_78 rfl rfl rfl rfl ?_
    refine E.bipush (v := 8) dX12_tells_114 (by decide) ?_
    refine E.aload_n 0 dX12_tells_116 rfl ?_
    refine E.get hw 0 o dX12_tells_117 flX12_13 rfl rfl rfl rfl ?_
    refine E.bipush (v := 7) dX12_tells_120 (by decide) ?_
    obtain ⟨g14, hf⟩ := gd_some hf
    refine E.iald hw 2 (o + 2) dX12_tells_122 rfl rfl g14 ?_
    refine E.i2l dX12_tells_123 ?_
    obtain ⟨g15, hf⟩ := gd_some hf
    refine E.last (es' := (wM G b o v_thrown v_status a_refusals a_row a_images a_isKept a_tape v_taped v_from v_to v_sort v_worth v_fault v_bad v_nClauses a_nClause v_nCode a_nOp a_nArg v_nLeaves a_pile a_pileAt v_piled v_opened a_words a_headWords (170 + (900 * (a_row (3 : Int32).toNatClampNeg))) (va_up (va_up (va_up (va_up (va_up (va_up (va_up (va_up a_set (1 : Int32).toNatClampNeg ((x2 : Int32).toInt64)) (2 : Int32).toNatClampNeg ((r4 : Int32).toInt64)) (3 : Int32).toNatClampNeg ((r6 : Int32).toInt64)) (4 : Int32).toNatClampNeg ((r8 : Int32).toInt64)) (5 : Int32).toNatClampNeg ((r10 : Int32).toInt64)) (6 : Int32).toNatClampNeg ((x4 : Int32).toInt64)) (7 : Int32).toNatClampNeg ((x3 : Int32).toInt64)) (8 : Int32).toNatClampNeg (((a_row (7 : Int32).toNatClampNeg) : Int32).toInt64)) a_rest v_broken v_value v_sum a_chances a_votes a_costs a_table a_prices v_surely a_mostBy a_leastBy v_between v_steadyWays v_quashed v_but a_figures a_all a_lies a_since v_last v_state)) hw 13 (o + 13) dX12_tells_124 rfl rfl g15 rfl ?_
    refine E.aload_n 0 dX12_tells_125 rfl ?_
    refine E.get hw 0 o dX12_tells_126 flX12_78 rfl rfl rfl rfl ?_
    refine E.bipush (v := 9) dX12_tells_129 (by decide) ?_
    refine E.iload 5 dX12_tells_131 rfl ?_
    refine E.i2l dX12_tells_133 ?_
    obtain ⟨g16, hf⟩ := gd_some hf
    refine E.last (es' := (wM G b o v_thrown v_status a_refusals a_row a_images a_isKept a_tape v_taped v_from v_to v_sort v_worth v_fault v_bad v_nClauses a_nClause v_nCode a_nOp a_nArg v_nLeaves a_pile a_pileAt v_piled v_opened a_words a_headWords (170 + (900 * (a_row (3 : Int32).toNatClampNeg))) (va_up (va_up (va_up (va_up (va_up (va_up (va_up (va_up (va_up a_set (1 : Int32).toNatClampNeg ((x2 : Int32).toInt64)) (2 : Int32).toNatClampNeg ((r4 : Int32).toInt64)) (3 : Int32).toNatClampNeg ((r6 : Int32).toInt64)) (4 : Int32).toNatClampNeg ((r8 : Int32).toInt64)) (5 : Int32).toNatClampNeg ((r10 : Int32).toInt64)) (6 : Int32).toNatClampNeg ((x4 : Int32).toInt64)) (7 : Int32).toNatClampNeg ((x3 : Int32).toInt64)) (8 : Int32).toNatClampNeg (((a_row (7 : Int32).toNatClampNeg) : Int32).toInt64)) (9 : Int32).toNatClampNeg ((x5 : Int32).toInt64)) a_rest v_broken v_value v_sum a_chances a_votes a_costs a_table a_prices v_surely a_mostBy a_leastBy v_between v_steadyWays v_quashed v_but a_figures a_all a_lies a_since v_last v_state)) hw 13 (o + 13) dX12_tells_134 rfl rfl g16 rfl ?_
    refine E.aload_n 0 dX12_tells_135 rfl ?_
    refine E.get hw 0 o dX12_tells_136 flX12_78 rfl rfl rfl rfl ?_
    refine E.bipush (v := 10) dX12_tells_139 (by decide) ?_
    refine E.iload 6 dX12_tells_141 rfl ?_
    refine E.i2l dX12_tells_143 ?_
    obtain ⟨g17, hf⟩ := gd_some hf
    refine E.last (es' := (wM G b o v_thrown v_status a_refusals a_row a_images a_isKept a_tape v_taped v_from v_to v_sort v_worth v_fault v_bad v_nClauses a_nClause v_nCode a_nOp a_nArg v_nLeaves a_pile a_pileAt v_piled v_opened a_words a_headWords (170 + (900 * (a_row (3 : Int32).toNatClampNeg))) (va_up (va_up (va_up (va_up (va_up (va_up (va_up (va_up (va_up (va_up a_set (1 : Int32).toNatClampNeg ((x2 : Int32).toInt64)) (2 : Int32).toNatClampNeg ((r4 : Int32).toInt64)) (3 : Int32).toNatClampNeg ((r6 : Int32).toInt64)) (4 : Int32).toNatClampNeg ((r8 : Int32).toInt64)) (5 : Int32).toNatClampNeg ((r10 : Int32).toInt64)) (6 : Int32).toNatClampNeg ((x4 : Int32).toInt64)) (7 : Int32).toNatClampNeg ((x3 : Int32).toInt64)) (8 : Int32).toNatClampNeg (((a_row (7 : Int32).toNatClampNeg) : Int32).toInt64)) (9 : Int32).toNatClampNeg ((x5 : Int32).toInt64)) (10 : Int32).toNatClampNeg ((x6 : Int32).toInt64)) a_rest v_broken v_value v_sum a_chances a_votes a_costs a_table a_prices v_surely a_mostBy a_leastBy v_between v_steadyWays v_quashed v_but a_figures a_all a_lies a_since v_last v_state)) hw 13 (o + 13) dX12_tells_144 rfl rfl g17 rfl ?_
    refine E.iload 7 dX12_tells_145 rfl ?_
    refine E.i2l dX12_tells_147 ?_
    refine E.lstore (lv' := [(9, .long ((x7 : Int32).toInt64)), (0, .ref (b + o)), (1, .int x1), (2, .int x2), (3, .int x3), (4, .int x4), (5, .int x5), (6, .int x6), (7, .int x7), (8, .int x8)]) dX12_tells_148 (by decide) rfl ?_
    refine E.iconst (v := 0) dX12_tells_150 (by decide) ?_
    refine E.istore (lv' := [(11, .int 0), (9, .long ((x7 : Int32).toInt64)), (0, .ref (b + o)), (1, .int x1), (2, .int x2), (3, .int x3), (4, .int x4), (5, .int x5), (6, .int x6), (7, .int x7), (8, .int x8)]) dX12_tells_151 (by decide) rfl ?_
    refine E.locals [2, 3, 10, 1, 0] rfl ?_
    exact tX12_tells_L153 hw _ hf
  · have hf := e_ift hf h
    refine E.iload 7 dX12_tells_10 rfl ?_
    cases hf
    exact E.iret dX12_tells_12 (Nat.le_refl _) (Nat.le_refl _) (pD_rf _ _ _)
set_option maxRecDepth 100000 in
theorem mX12_tells {G : GT} {b : Nat} {o : Nat} {c0 : Hp} {n : Nat} (hw : e_wf (kM o) n) {v_thrown : Int32} {v_status : Int32} {a_refusals : Nat → Int32} {a_images : Nat → Int32} {a_isKept : Nat → Int32} {a_tape : Nat → Int32} {v_taped : Int32} {v_from : Int32} {v_to : Int32} {v_sort : Int32} {v_worth : Int64} {v_fault : Int32} {v_bad : Int32} {v_nClauses : Int32} {a_nClause : Nat → Int32} {v_nCode : Int32} {a_nOp : Nat → Int32} {a_nArg : Nat → Int32} {v_nLeaves : Int32} {a_pile : Nat → Int32} {a_pileAt : Nat → Int32} {v_piled : Int32} {v_opened : Int32} {a_words : Nat → Int64} {a_headWords : Nat → Int64} {a_chances : Nat → Int32} {a_votes : Nat → Int64} {a_costs : Nat → Int32} {a_table : Nat → Int64} {a_prices : Nat → Int32} {v_surely : Int64} {a_mostBy : Nat → Int64} {a_leastBy : Nat → Int64} {v_between : Int64} {v_steadyWays : Int32} {v_quashed : Int32} {v_but : Int32} {a_figures : Nat → Int32} {a_all : Nat → Int32} {a_lies : Nat → Int32} {a_since : Nat → Int32} {v_last : Int32} {v_state : Int64} {Fu : Nat} {a_row : Nat → Int32} {v_law : Int32} {a_set : Nat → Int64} {a_rest : Nat → Int64} {v_broken : Int32} {v_value : Int64} {v_sum : Int64} {x1 : Int32} {x2 : Int32} {x3 : Int32} {x4 : Int32} {x5 : Int32} {x6 : Int32} {x7 : Int32} {x8 : Int32} {R : Int32 × Int32 × (Nat → Int64) × (Nat → Int64) × Int32 × Int64 × Int64} (hf : fX12_tells Fu a_row v_law a_set a_rest v_broken v_value v_sum x1 x2 x3 x4 x5 x6 x7 x8 = some R) : e_C G b yX12_tells cX12_tells 13 (some .int) 3 0 0 [.ref (b + o), .int x1, .int x2, .int x3, .int x4, .int x5, .int x6, .int x7, .int x8] (e_ov (kM o) (wM G b o v_thrown v_status a_refusals a_row a_images a_isKept a_tape v_taped v_from v_to v_sort v_worth v_fault v_bad v_nClauses a_nClause v_nCode a_nOp a_nArg v_nLeaves a_pile a_pileAt v_piled v_opened a_words a_headWords v_law a_set a_rest v_broken v_value v_sum a_chances a_votes a_costs a_table a_prices v_surely a_mostBy a_leastBy v_between v_steadyWays v_quashed v_but a_figures a_all a_lies a_since v_last v_state) c0) n (pD (some (.int R.1)) (e_ov (kM o) (wM G b o v_thrown v_status a_refusals a_row a_images a_isKept a_tape v_taped v_from v_to v_sort v_worth v_fault v_bad v_nClauses a_nClause v_nCode a_nOp a_nArg v_nLeaves a_pile a_pileAt v_piled v_opened a_words a_headWords R.2.1 R.2.2.1 R.2.2.2.1 R.2.2.2.2.1 R.2.2.2.2.2.1 R.2.2.2.2.2.2 a_chances a_votes a_costs a_table a_prices v_surely a_mostBy a_leastBy v_between v_steadyWays v_quashed v_but a_figures a_all a_lies a_since v_last v_state) c0) n) := e_C.of (by decide) (Nat.le_of_ble_eq_true rfl) (tX12_tells hw hf)
def fX12_chanceOf (Fu : Nat) (a_row : Nat → Int32) (v_law : Int32) (a_set : Nat → Int64) (a_rest : Nat → Int64) (v_broken : Int32) (v_value : Int64) (v_sum : Int64) (x1 : Int32) (x2 : Int32) (x3 : Int32) (x4 : Int32) : Option (Int32 × Int32 × (Nat → Int64) × (Nat → Int64) × Int32 × Int64 × Int64) := (fX12_tells Fu a_row v_law a_set a_rest v_broken v_value v_sum 0 x1 x2 x3 (-1 : Int32) x4 50 100).bind fun r1 => (some (r1.1, r1.2.1, r1.2.2.1, r1.2.2.2.1, r1.2.2.2.2.1, r1.2.2.2.2.2.1, r1.2.2.2.2.2.2))
set_option maxHeartbeats 4000000 in
set_option maxRecDepth 100000 in
theorem tX12_chanceOf {G : GT} {b : Nat} {o : Nat} {c0 : Hp} {n : Nat} (hw : e_wf (kM o) n) {v_thrown : Int32} {v_status : Int32} {a_refusals : Nat → Int32} {a_images : Nat → Int32} {a_isKept : Nat → Int32} {a_tape : Nat → Int32} {v_taped : Int32} {v_from : Int32} {v_to : Int32} {v_sort : Int32} {v_worth : Int64} {v_fault : Int32} {v_bad : Int32} {v_nClauses : Int32} {a_nClause : Nat → Int32} {v_nCode : Int32} {a_nOp : Nat → Int32} {a_nArg : Nat → Int32} {v_nLeaves : Int32} {a_pile : Nat → Int32} {a_pileAt : Nat → Int32} {v_piled : Int32} {v_opened : Int32} {a_words : Nat → Int64} {a_headWords : Nat → Int64} {a_chances : Nat → Int32} {a_votes : Nat → Int64} {a_costs : Nat → Int32} {a_table : Nat → Int64} {a_prices : Nat → Int32} {v_surely : Int64} {a_mostBy : Nat → Int64} {a_leastBy : Nat → Int64} {v_between : Int64} {v_steadyWays : Int32} {v_quashed : Int32} {v_but : Int32} {a_figures : Nat → Int32} {a_all : Nat → Int32} {a_lies : Nat → Int32} {a_since : Nat → Int32} {v_last : Int32} {v_state : Int64} {Fu : Nat} {a_row : Nat → Int32} {v_law : Int32} {a_set : Nat → Int64} {a_rest : Nat → Int64} {v_broken : Int32} {v_value : Int64} {v_sum : Int64} {x1 : Int32} {x2 : Int32} {x3 : Int32} {x4 : Int32} {R : Int32 × Int32 × (Nat → Int64) × (Nat → Int64) × Int32 × Int64 × Int64} (hf : fX12_chanceOf Fu a_row v_law a_set a_rest v_broken v_value v_sum x1 x2 x3 x4 = some R) : E G b yX12_chanceOf cX12_chanceOf 5 (some .int) (e_rm 4 0 0) e_X0 (e_Z G b (pD (some (.int R.1)) (e_ov (kM o) (wM G b o v_thrown v_status a_refusals a_row a_images a_isKept a_tape v_taped v_from v_to v_sort v_worth v_fault v_bad v_nClauses a_nClause v_nCode a_nOp a_nArg v_nLeaves a_pile a_pileAt v_piled v_opened a_words a_headWords R.2.1 R.2.2.1 R.2.2.2.1 R.2.2.2.2.1 R.2.2.2.2.2.1 R.2.2.2.2.2.2 a_chances a_votes a_costs a_table a_prices v_surely a_mostBy a_leastBy v_between v_steadyWays v_quashed v_but a_figures a_all a_lies a_since v_last v_state) c0) n) 0 0) 0 [(0, .ref (b + o)), (1, .int x1), (2, .int x2), (3, .int x3), (4, .int x4)] [] (e_ov (kM o) (wM G b o v_thrown v_status a_refusals a_row a_images a_isKept a_tape v_taped v_from v_to v_sort v_worth v_fault v_bad v_nClauses a_nClause v_nCode a_nOp a_nArg v_nLeaves a_pile a_pileAt v_piled v_opened a_words a_headWords v_law a_set a_rest v_broken v_value v_sum a_chances a_votes a_costs a_table a_prices v_surely a_mostBy a_leastBy v_between v_steadyWays v_quashed v_but a_figures a_all a_lies a_since v_last v_state) c0) n 0 0 := by
  unfold fX12_chanceOf at hf
  refine E.aload_n 0 dX12_chanceOf_0 rfl ?_
  refine E.iconst (v := 0) dX12_chanceOf_1 (by decide) ?_
  refine E.iload_n 1 dX12_chanceOf_2 rfl ?_
  refine E.iload_n 2 dX12_chanceOf_3 rfl ?_
  refine E.iload_n 3 dX12_chanceOf_4 rfl ?_
  refine E.iconst (v := -1) dX12_chanceOf_5 (by decide) ?_
  refine E.iload 4 dX12_chanceOf_6 rfl ?_
  refine E.bipush (v := 50) dX12_chanceOf_8 (by decide) ?_
  refine E.bipush (v := 100) dX12_chanceOf_10 (by decide) ?_
  obtain ⟨r1, hc1, hf⟩ := e_bind hf
  refine E.callVD [] dX12_chanceOf_12 mlX12_350 ⟨hw.sub (p := 0) rfl, e_ov_get hw.1 (p := 0) rfl rfl⟩ rfl rfl (mX12_tells hw hc1) ⟨Nat.le_of_ble_eq_true rfl, Nat.le_of_ble_eq_true rfl⟩ rfl rfl (Nat.le_of_ble_eq_true rfl) ⟨Nat.le_refl _, Nat.le_refl _⟩ rfl ?_
  cases hf
  exact E.iret dX12_chanceOf_15 (Nat.le_refl _) (Nat.le_refl _) (pD_rf _ _ _)
set_option maxRecDepth 100000 in
theorem mX12_chanceOf {G : GT} {b : Nat} {o : Nat} {c0 : Hp} {n : Nat} (hw : e_wf (kM o) n) {v_thrown : Int32} {v_status : Int32} {a_refusals : Nat → Int32} {a_images : Nat → Int32} {a_isKept : Nat → Int32} {a_tape : Nat → Int32} {v_taped : Int32} {v_from : Int32} {v_to : Int32} {v_sort : Int32} {v_worth : Int64} {v_fault : Int32} {v_bad : Int32} {v_nClauses : Int32} {a_nClause : Nat → Int32} {v_nCode : Int32} {a_nOp : Nat → Int32} {a_nArg : Nat → Int32} {v_nLeaves : Int32} {a_pile : Nat → Int32} {a_pileAt : Nat → Int32} {v_piled : Int32} {v_opened : Int32} {a_words : Nat → Int64} {a_headWords : Nat → Int64} {a_chances : Nat → Int32} {a_votes : Nat → Int64} {a_costs : Nat → Int32} {a_table : Nat → Int64} {a_prices : Nat → Int32} {v_surely : Int64} {a_mostBy : Nat → Int64} {a_leastBy : Nat → Int64} {v_between : Int64} {v_steadyWays : Int32} {v_quashed : Int32} {v_but : Int32} {a_figures : Nat → Int32} {a_all : Nat → Int32} {a_lies : Nat → Int32} {a_since : Nat → Int32} {v_last : Int32} {v_state : Int64} {Fu : Nat} {a_row : Nat → Int32} {v_law : Int32} {a_set : Nat → Int64} {a_rest : Nat → Int64} {v_broken : Int32} {v_value : Int64} {v_sum : Int64} {x1 : Int32} {x2 : Int32} {x3 : Int32} {x4 : Int32} {R : Int32 × Int32 × (Nat → Int64) × (Nat → Int64) × Int32 × Int64 × Int64} (hf : fX12_chanceOf Fu a_row v_law a_set a_rest v_broken v_value v_sum x1 x2 x3 x4 = some R) : e_C G b yX12_chanceOf cX12_chanceOf 5 (some .int) 4 0 0 [.ref (b + o), .int x1, .int x2, .int x3, .int x4] (e_ov (kM o) (wM G b o v_thrown v_status a_refusals a_row a_images a_isKept a_tape v_taped v_from v_to v_sort v_worth v_fault v_bad v_nClauses a_nClause v_nCode a_nOp a_nArg v_nLeaves a_pile a_pileAt v_piled v_opened a_words a_headWords v_law a_set a_rest v_broken v_value v_sum a_chances a_votes a_costs a_table a_prices v_surely a_mostBy a_leastBy v_between v_steadyWays v_quashed v_but a_figures a_all a_lies a_since v_last v_state) c0) n (pD (some (.int R.1)) (e_ov (kM o) (wM G b o v_thrown v_status a_refusals a_row a_images a_isKept a_tape v_taped v_from v_to v_sort v_worth v_fault v_bad v_nClauses a_nClause v_nCode a_nOp a_nArg v_nLeaves a_pile a_pileAt v_piled v_opened a_words a_headWords R.2.1 R.2.2.1 R.2.2.2.1 R.2.2.2.2.1 R.2.2.2.2.2.1 R.2.2.2.2.2.2 a_chances a_votes a_costs a_table a_prices v_surely a_mostBy a_leastBy v_between v_steadyWays v_quashed v_but a_figures a_all a_lies a_since v_last v_state) c0) n) := e_C.of (by decide) (Nat.le_of_ble_eq_true rfl) (tX12_chanceOf hw hf)
def fX12_chance_L43 (Fu : Nat) (v_thrown : Int32) (a_row : Nat → Int32) (v_law : Int32) (a_set : Nat → Int64) (a_rest : Nat → Int64) (v_broken : Int32) (v_value : Int64) (v_sum : Int64) : Option (Int32 × Int32 × Int32 × (Nat → Int64) × (Nat → Int64) × Int32 × Int64 × Int64) := some ((-1 : Int32), v_thrown, v_law, a_set, a_rest, v_broken, v_value, v_sum)
set_option maxHeartbeats 4000000 in
set_option maxRecDepth 100000 in
theorem tX12_chance_L43 {G : GT} {b : Nat} {o : Nat} {c0 : Hp} {n : Nat} (hw : e_wf (kM o) n) {v_status : Int32} {a_refusals : Nat → Int32} {a_images : Nat → Int32} {a_isKept : Nat → Int32} {a_tape : Nat → Int32} {v_taped : Int32} {v_from : Int32} {v_to : Int32} {v_sort : Int32} {v_worth : Int64} {v_fault : Int32} {v_bad : Int32} {v_nClauses : Int32} {a_nClause : Nat → Int32} {v_nCode : Int32} {a_nOp : Nat → Int32} {a_nArg : Nat → Int32} {v_nLeaves : Int32} {a_pile : Nat → Int32} {a_pileAt : Nat → Int32} {v_piled : Int32} {v_opened : Int32} {a_words : Nat → Int64} {a_headWords : Nat → Int64} {a_chances : Nat → Int32} {a_votes : Nat → Int64} {a_costs : Nat → Int32} {a_table : Nat → Int64} {a_prices : Nat → Int32} {v_surely : Int64} {a_mostBy : Nat → Int64} {a_leastBy : Nat → Int64} {v_between : Int64} {v_steadyWays : Int32} {v_quashed : Int32} {v_but : Int32} {a_figures : Nat → Int32} {a_all : Nat → Int32} {a_lies : Nat → Int32} {a_since : Nat → Int32} {v_last : Int32} {v_state : Int64} {Fu : Nat} {v_thrown : Int32} {a_row : Nat → Int32} {v_law : Int32} {a_set : Nat → Int64} {a_rest : Nat → Int64} {v_broken : Int32} {v_value : Int64} {v_sum : Int64} {R : Int32 × Int32 × Int32 × (Nat → Int64) × (Nat → Int64) × Int32 × Int64 × Int64} (hf : fX12_chance_L43 Fu v_thrown a_row v_law a_set a_rest v_broken v_value v_sum = some R) : E G b yX12_chance cX12_chance 4 (some .int) (e_rm 5 0 0) e_X0 (e_Z G b (pD (some (.int R.1)) (e_ov (kM o) (wM G b o R.2.1 v_status a_refusals a_row a_images a_isKept a_tape v_taped v_from v_to v_sort v_worth v_fault v_bad v_nClauses a_nClause v_nCode a_nOp a_nArg v_nLeaves a_pile a_pileAt v_piled v_opened a_words a_headWords R.2.2.1 R.2.2.2.1 R.2.2.2.2.1 R.2.2.2.2.2.1 R.2.2.2.2.2.2.1 R.2.2.2.2.2.2.2 a_chances a_votes a_costs a_table a_prices v_surely a_mostBy a_leastBy v_between v_steadyWays v_quashed v_but a_figures a_all a_lies a_since v_last v_state) c0) n) 0 0) 43 [] [] (e_ov (kM o) (wM G b o v_thrown v_status a_refusals a_row a_images a_isKept a_tape v_taped v_from v_to v_sort v_worth v_fault v_bad v_nClauses a_nClause v_nCode a_nOp a_nArg v_nLeaves a_pile a_pileAt v_piled v_opened a_words a_headWords v_law a_set a_rest v_broken v_value v_sum a_chances a_votes a_costs a_table a_prices v_surely a_mostBy a_leastBy v_between v_steadyWays v_quashed v_but a_figures a_all a_lies a_since v_last v_state) c0) n 0 0 := by
  unfold fX12_chance_L43 at hf
  refine E.iconst (v := -1) dX12_chance_43 (by decide) ?_
  cases hf
  exact E.iret dX12_chance_44 (Nat.le_refl _) (Nat.le_refl _) (pD_rf _ _ _)
def fX12_chance (Fu : Nat) (v_thrown : Int32) (a_row : Nat → Int32) (v_law : Int32) (a_set : Nat → Int64) (a_rest : Nat → Int64) (v_broken : Int32) (v_value : Int64) (v_sum : Int64) (x1 : Int32) (x2 : Int32) (x3 : Int32) : Option (Int32 × Int32 × Int32 × (Nat → Int64) × (Nat → Int64) × Int32 × Int64 × Int64) := (fX12_isBeast a_row x1).bind fun r1 => (if (r1 : Int32) = 0 then (fX12_chance_L43 Fu 0 a_row v_law a_set a_rest v_broken v_value v_sum) else ((fX12_isHour x2).bind fun r2 => (if (r2 : Int32) = 0 then (fX12_chance_L43 Fu 0 a_row v_law a_set a_rest v_broken v_value v_sum) else ((fX12_in ((x3 : Int32).toInt64) 0 3).bind fun r3 => (if (r3 : Int32) = 0 then (fX12_chance_L43 Fu 0 a_row v_law a_set a_rest v_broken v_value v_sum) else ((fX12_chanceOf Fu a_row v_law a_set a_rest v_broken v_value v_sum x1 x2 x3 0).bind fun r4 => (some (r4.1, 0, r4.2.1, r4.2.2.1, r4.2.2.2.1, r4.2.2.2.2.1, r4.2.2.2.2.2.1, r4.2.2.2.2.2.2))))))))
set_option maxHeartbeats 4000000 in
set_option maxRecDepth 100000 in
theorem tX12_chance {G : GT} {b : Nat} {o : Nat} {c0 : Hp} {n : Nat} (hw : e_wf (kM o) n) {v_status : Int32} {a_refusals : Nat → Int32} {a_images : Nat → Int32} {a_isKept : Nat → Int32} {a_tape : Nat → Int32} {v_taped : Int32} {v_from : Int32} {v_to : Int32} {v_sort : Int32} {v_worth : Int64} {v_fault : Int32} {v_bad : Int32} {v_nClauses : Int32} {a_nClause : Nat → Int32} {v_nCode : Int32} {a_nOp : Nat → Int32} {a_nArg : Nat → Int32} {v_nLeaves : Int32} {a_pile : Nat → Int32} {a_pileAt : Nat → Int32} {v_piled : Int32} {v_opened : Int32} {a_words : Nat → Int64} {a_headWords : Nat → Int64} {a_chances : Nat → Int32} {a_votes : Nat → Int64} {a_costs : Nat → Int32} {a_table : Nat → Int64} {a_prices : Nat → Int32} {v_surely : Int64} {a_mostBy : Nat → Int64} {a_leastBy : Nat → Int64} {v_between : Int64} {v_steadyWays : Int32} {v_quashed : Int32} {v_but : Int32} {a_figures : Nat → Int32} {a_all : Nat → Int32} {a_lies : Nat → Int32} {a_since : Nat → Int32} {v_last : Int32} {v_state : Int64} {Fu : Nat} {v_thrown : Int32} {a_row : Nat → Int32} {v_law : Int32} {a_set : Nat → Int64} {a_rest : Nat → Int64} {v_broken : Int32} {v_value : Int64} {v_sum : Int64} {x1 : Int32} {x2 : Int32} {x3 : Int32} {R : Int32 × Int32 × Int32 × (Nat → Int64) × (Nat → Int64) × Int32 × Int64 × Int64} (hf : fX12_chance Fu v_thrown a_row v_law a_set a_rest v_broken v_value v_sum x1 x2 x3 = some R) : E G b yX12_chance cX12_chance 4 (some .int) (e_rm 5 0 0) e_X0 (e_Z G b (pD (some (.int R.1)) (e_ov (kM o) (wM G b o R.2.1 v_status a_refusals a_row a_images a_isKept a_tape v_taped v_from v_to v_sort v_worth v_fault v_bad v_nClauses a_nClause v_nCode a_nOp a_nArg v_nLeaves a_pile a_pileAt v_piled v_opened a_words a_headWords R.2.2.1 R.2.2.2.1 R.2.2.2.2.1 R.2.2.2.2.2.1 R.2.2.2.2.2.2.1 R.2.2.2.2.2.2.2 a_chances a_votes a_costs a_table a_prices v_surely a_mostBy a_leastBy v_between v_steadyWays v_quashed v_but a_figures a_all a_lies a_since v_last v_state) c0) n) 0 0) 0 [(0, .ref (b + o)), (1, .int x1), (2, .int x2), (3, .int x3)] [] (e_ov (kM o) (wM G b o v_thrown v_status a_refusals a_row a_images a_isKept a_tape v_taped v_from v_to v_sort v_worth v_fault v_bad v_nClauses a_nClause v_nCode a_nOp a_nArg v_nLeaves a_pile a_pileAt v_piled v_opened a_words a_headWords v_law a_set a_rest v_broken v_value v_sum a_chances a_votes a_costs a_table a_prices v_surely a_mostBy a_leastBy v_between v_steadyWays v_quashed v_but a_figures a_all a_lies a_since v_last v_state) c0) n 0 0 := by
  unfold fX12_chance at hf
  refine E.aload_n 0 dX12_chance_0 rfl ?_
  refine E.iconst (v := 0) dX12_chance_1 (by decide) ?_
  refine E.put (es' := (wM G b o 0 v_status a_refusals a_row a_images a_isKept a_tape v_taped v_from v_to v_sort v_worth v_fault v_bad v_nClauses a_nClause v_nCode a_nOp a_nArg v_nLeaves a_pile a_pileAt v_piled v_opened a_words a_headWords v_law a_set a_rest v_broken v_value v_sum a_chances a_votes a_costs a_table a_prices v_surely a_mostBy a_leastBy v_between v_steadyWays v_quashed v_but a_figures a_all a_lies a_since v_last v_state)) hw 0 o dX12_chance_2 flX12_124 ftX12 rfl rfl rfl rfl rfl rfl (Nat.le_of_ble_eq_true rfl) rfl ?_
  refine E.aload_n 0 dX12_chance_5 rfl ?_
  refine E.iload_n 1 dX12_chance_6 rfl ?_
  obtain ⟨r1, hc1, hf⟩ := e_bind hf
  refine E.callVD [] dX12_chance_7 mlX12_153 ⟨hw.sub (p := 0) rfl, e_ov_get hw.1 (p := 0) rfl rfl⟩ rfl rfl (mX12_isBeast hw hc1) ⟨Nat.le_of_ble_eq_true rfl, Nat.le_of_ble_eq_true rfl⟩ rfl rfl (Nat.le_of_ble_eq_true rfl) ⟨Nat.le_refl _, Nat.le_refl _⟩ rfl ?_
  refine E.if_eq dX12_chance_10 (fun h => ?_) (fun h => ?_)
  · have hf := e_ift hf h
    refine E.locals [] rfl ?_
    exact tX12_chance_L43 hw hf
  · have hf := e_iff hf h
    refine E.iload_n 2 dX12_chance_13 rfl ?_
    obtain ⟨r2, hc2, hf⟩ := e_bind hf
    refine E.callSD [] dX12_chance_14 mlX12_166 (mX12_isHour hc2) ⟨Nat.le_of_ble_eq_true rfl, Nat.le_of_ble_eq_true rfl⟩ rfl rfl (Nat.le_of_ble_eq_true rfl) ⟨Nat.le_refl _, Nat.le_refl _⟩ rfl ?_
    refine E.if_eq dX12_chance_17 (fun h => ?_) (fun h => ?_)
    · have hf := e_ift hf h
      refine E.locals [] rfl ?_
      exact tX12_chance_L43 hw hf
    · have hf := e_iff hf h
      refine E.iload_n 3 dX12_chance_20 rfl ?_
      refine E.i2l dX12_chance_21 ?_
      refine E.lconst (v := 0) dX12_chance_22 (by decide) ?_
      refine E.ldc2 dX12_chance_23 kX12_147 ?_
      obtain ⟨r3, hc3, hf⟩ := e_bind hf
      refine E.callSD [] dX12_chance_26 mlX12_134 (mX12_in hc3) ⟨Nat.le_of_ble_eq_true rfl, Nat.le_of_ble_eq_true rfl⟩ rfl rfl (Nat.le_of_ble_eq_true rfl) ⟨Nat.le_refl _, Nat.le_refl _⟩ rfl ?_
      refine E.if_eq dX12_chance_29 (fun h => ?_) (fun h => ?_)
      · have hf := e_ift hf h
        refine E.locals [] rfl ?_
        exact tX12_chance_L43 hw hf
      · have hf := e_iff hf h
        refine E.aload_n 0 dX12_chance_32 rfl ?_
        refine E.iload_n 1 dX12_chance_33 rfl ?_
        refine E.iload_n 2 dX12_chance_34 rfl ?_
        refine E.iload_n 3 dX12_chance_35 rfl ?_
        refine E.iconst (v := 0) dX12_chance_36 (by decide) ?_
        obtain ⟨r4, hc4, hf⟩ := e_bind hf
        refine E.callVD [] dX12_chance_37 mlX12_354 ⟨hw.sub (p := 0) rfl, e_ov_get hw.1 (p := 0) rfl rfl⟩ rfl rfl (mX12_chanceOf hw hc4) ⟨Nat.le_of_ble_eq_true rfl, Nat.le_of_ble_eq_true rfl⟩ rfl rfl (Nat.le_of_ble_eq_true rfl) ⟨Nat.le_refl _, Nat.le_refl _⟩ rfl ?_
        refine E.goto dX12_chance_40 ?_
        cases hf
        exact E.iret dX12_chance_44 (Nat.le_refl _) (Nat.le_refl _) (pD_rf _ _ _)
set_option maxRecDepth 100000 in
theorem mX12_chance {G : GT} {b : Nat} {o : Nat} {c0 : Hp} {n : Nat} (hw : e_wf (kM o) n) {v_status : Int32} {a_refusals : Nat → Int32} {a_images : Nat → Int32} {a_isKept : Nat → Int32} {a_tape : Nat → Int32} {v_taped : Int32} {v_from : Int32} {v_to : Int32} {v_sort : Int32} {v_worth : Int64} {v_fault : Int32} {v_bad : Int32} {v_nClauses : Int32} {a_nClause : Nat → Int32} {v_nCode : Int32} {a_nOp : Nat → Int32} {a_nArg : Nat → Int32} {v_nLeaves : Int32} {a_pile : Nat → Int32} {a_pileAt : Nat → Int32} {v_piled : Int32} {v_opened : Int32} {a_words : Nat → Int64} {a_headWords : Nat → Int64} {a_chances : Nat → Int32} {a_votes : Nat → Int64} {a_costs : Nat → Int32} {a_table : Nat → Int64} {a_prices : Nat → Int32} {v_surely : Int64} {a_mostBy : Nat → Int64} {a_leastBy : Nat → Int64} {v_between : Int64} {v_steadyWays : Int32} {v_quashed : Int32} {v_but : Int32} {a_figures : Nat → Int32} {a_all : Nat → Int32} {a_lies : Nat → Int32} {a_since : Nat → Int32} {v_last : Int32} {v_state : Int64} {Fu : Nat} {v_thrown : Int32} {a_row : Nat → Int32} {v_law : Int32} {a_set : Nat → Int64} {a_rest : Nat → Int64} {v_broken : Int32} {v_value : Int64} {v_sum : Int64} {x1 : Int32} {x2 : Int32} {x3 : Int32} {R : Int32 × Int32 × Int32 × (Nat → Int64) × (Nat → Int64) × Int32 × Int64 × Int64} (hf : fX12_chance Fu v_thrown a_row v_law a_set a_rest v_broken v_value v_sum x1 x2 x3 = some R) : e_C G b yX12_chance cX12_chance 4 (some .int) 5 0 0 [.ref (b + o), .int x1, .int x2, .int x3] (e_ov (kM o) (wM G b o v_thrown v_status a_refusals a_row a_images a_isKept a_tape v_taped v_from v_to v_sort v_worth v_fault v_bad v_nClauses a_nClause v_nCode a_nOp a_nArg v_nLeaves a_pile a_pileAt v_piled v_opened a_words a_headWords v_law a_set a_rest v_broken v_value v_sum a_chances a_votes a_costs a_table a_prices v_surely a_mostBy a_leastBy v_between v_steadyWays v_quashed v_but a_figures a_all a_lies a_since v_last v_state) c0) n (pD (some (.int R.1)) (e_ov (kM o) (wM G b o R.2.1 v_status a_refusals a_row a_images a_isKept a_tape v_taped v_from v_to v_sort v_worth v_fault v_bad v_nClauses a_nClause v_nCode a_nOp a_nArg v_nLeaves a_pile a_pileAt v_piled v_opened a_words a_headWords R.2.2.1 R.2.2.2.1 R.2.2.2.2.1 R.2.2.2.2.2.1 R.2.2.2.2.2.2.1 R.2.2.2.2.2.2.2 a_chances a_votes a_costs a_table a_prices v_surely a_mostBy a_leastBy v_between v_steadyWays v_quashed v_but a_figures a_all a_lies a_since v_last v_state) c0) n) := e_C.of (by decide) (Nat.le_of_ble_eq_true rfl) (tX12_chance hw hf)
def fX12_priceOf (Fu : Nat) (a_row : Nat → Int32) (v_law : Int32) (a_set : Nat → Int64) (a_rest : Nat → Int64) (v_broken : Int32) (v_value : Int64) (v_sum : Int64) (x1 : Int32) (x2 : Int32) : Option (Int32 × Int32 × (Nat → Int64) × (Nat → Int64) × Int32 × Int64 × Int64) := gd 6 5570 ((fX12_ofBeast a_row x1 5).bind fun r2 => ((fX12_tells Fu a_row v_law a_set a_rest v_broken v_value v_sum 2 x1 (a_row (6 : Int32).toNatClampNeg) r2 x2 0 10 999).bind fun r3 => (some (r3.1, r3.2.1, r3.2.2.1, r3.2.2.2.1, r3.2.2.2.2.1, r3.2.2.2.2.2.1, r3.2.2.2.2.2.2))))
set_option maxHeartbeats 4000000 in
set_option maxRecDepth 100000 in
theorem tX12_priceOf {G : GT} {b : Nat} {o : Nat} {c0 : Hp} {n : Nat} (hw : e_wf (kM o) n) {v_thrown : Int32} {v_status : Int32} {a_refusals : Nat → Int32} {a_images : Nat → Int32} {a_isKept : Nat → Int32} {a_tape : Nat → Int32} {v_taped : Int32} {v_from : Int32} {v_to : Int32} {v_sort : Int32} {v_worth : Int64} {v_fault : Int32} {v_bad : Int32} {v_nClauses : Int32} {a_nClause : Nat → Int32} {v_nCode : Int32} {a_nOp : Nat → Int32} {a_nArg : Nat → Int32} {v_nLeaves : Int32} {a_pile : Nat → Int32} {a_pileAt : Nat → Int32} {v_piled : Int32} {v_opened : Int32} {a_words : Nat → Int64} {a_headWords : Nat → Int64} {a_chances : Nat → Int32} {a_votes : Nat → Int64} {a_costs : Nat → Int32} {a_table : Nat → Int64} {a_prices : Nat → Int32} {v_surely : Int64} {a_mostBy : Nat → Int64} {a_leastBy : Nat → Int64} {v_between : Int64} {v_steadyWays : Int32} {v_quashed : Int32} {v_but : Int32} {a_figures : Nat → Int32} {a_all : Nat → Int32} {a_lies : Nat → Int32} {a_since : Nat → Int32} {v_last : Int32} {v_state : Int64} {Fu : Nat} {a_row : Nat → Int32} {v_law : Int32} {a_set : Nat → Int64} {a_rest : Nat → Int64} {v_broken : Int32} {v_value : Int64} {v_sum : Int64} {x1 : Int32} {x2 : Int32} {R : Int32 × Int32 × (Nat → Int64) × (Nat → Int64) × Int32 × Int64 × Int64} (hf : fX12_priceOf Fu a_row v_law a_set a_rest v_broken v_value v_sum x1 x2 = some R) : E G b yX12_priceOf cX12_priceOf 3 (some .int) (e_rm 4 0 0) e_X0 (e_Z G b (pD (some (.int R.1)) (e_ov (kM o) (wM G b o v_thrown v_status a_refusals a_row a_images a_isKept a_tape v_taped v_from v_to v_sort v_worth v_fault v_bad v_nClauses a_nClause v_nCode a_nOp a_nArg v_nLeaves a_pile a_pileAt v_piled v_opened a_words a_headWords R.2.1 R.2.2.1 R.2.2.2.1 R.2.2.2.2.1 R.2.2.2.2.2.1 R.2.2.2.2.2.2 a_chances a_votes a_costs a_table a_prices v_surely a_mostBy a_leastBy v_between v_steadyWays v_quashed v_but a_figures a_all a_lies a_since v_last v_state) c0) n) 0 0) 0 [(0, .ref (b + o)), (1, .int x1), (2, .int x2)] [] (e_ov (kM o) (wM G b o v_thrown v_status a_refusals a_row a_images a_isKept a_tape v_taped v_from v_to v_sort v_worth v_fault v_bad v_nClauses a_nClause v_nCode a_nOp a_nArg v_nLeaves a_pile a_pileAt v_piled v_opened a_words a_headWords v_law a_set a_rest v_broken v_value v_sum a_chances a_votes a_costs a_table a_prices v_surely a_mostBy a_leastBy v_between v_steadyWays v_quashed v_but a_figures a_all a_lies a_since v_last v_state) c0) n 0 0 := by
  unfold fX12_priceOf at hf
  refine E.aload_n 0 dX12_priceOf_0 rfl ?_
  refine E.iconst (v := 2) dX12_priceOf_1 (by decide) ?_
  refine E.iload_n 1 dX12_priceOf_2 rfl ?_
  refine E.aload_n 0 dX12_priceOf_3 rfl ?_
  refine E.get hw 0 o dX12_priceOf_4 flX12_13 rfl rfl rfl rfl ?_
  refine E.bipush (v := 6) dX12_priceOf_7 (by decide) ?_
  obtain ⟨g1, hf⟩ := gd_some hf
  refine E.iald hw 2 (o + 2) dX12_priceOf_9 rfl rfl g1 ?_
  refine E.aload_n 0 dX12_priceOf_10 rfl ?_
  refine E.iload_n 1 dX12_priceOf_11 rfl ?_
  refine E.iconst (v := 5) dX12_priceOf_12 (by decide) ?_
  obtain ⟨r2, hc2, hf⟩ := e_bind hf
  refine E.callVD [.int (a_row (6 : Int32).toNatClampNeg), .int x1, .int 2, .ref (b + o)] dX12_priceOf_13 mlX12_163 ⟨hw.sub (p := 0) rfl, e_ov_get hw.1 (p := 0) rfl rfl⟩ rfl rfl (mX12_ofBeast hw hc2) ⟨Nat.le_of_ble_eq_true rfl, Nat.le_of_ble_eq_true rfl⟩ rfl rfl (Nat.le_of_ble_eq_true rfl) ⟨Nat.le_refl _, Nat.le_refl _⟩ rfl ?_
  refine E.iload_n 2 dX12_priceOf_16 rfl ?_
  refine E.iconst (v := 0) dX12_priceOf_17 (by decide) ?_
  refine E.bipush (v := 10) dX12_priceOf_18 (by decide) ?_
  refine E.sipush (v := 999) dX12_priceOf_20 (by decide) ?_
  obtain ⟨r3, hc3, hf⟩ := e_bind hf
  refine E.callVD [] dX12_priceOf_23 mlX12_350 ⟨hw.sub (p := 0) rfl, e_ov_get hw.1 (p := 0) rfl rfl⟩ rfl rfl (mX12_tells hw hc3) ⟨Nat.le_of_ble_eq_true rfl, Nat.le_of_ble_eq_true rfl⟩ rfl rfl (Nat.le_of_ble_eq_true rfl) ⟨Nat.le_refl _, Nat.le_refl _⟩ rfl ?_
  cases hf
  exact E.iret dX12_priceOf_26 (Nat.le_refl _) (Nat.le_refl _) (pD_rf _ _ _)
set_option maxRecDepth 100000 in
theorem mX12_priceOf {G : GT} {b : Nat} {o : Nat} {c0 : Hp} {n : Nat} (hw : e_wf (kM o) n) {v_thrown : Int32} {v_status : Int32} {a_refusals : Nat → Int32} {a_images : Nat → Int32} {a_isKept : Nat → Int32} {a_tape : Nat → Int32} {v_taped : Int32} {v_from : Int32} {v_to : Int32} {v_sort : Int32} {v_worth : Int64} {v_fault : Int32} {v_bad : Int32} {v_nClauses : Int32} {a_nClause : Nat → Int32} {v_nCode : Int32} {a_nOp : Nat → Int32} {a_nArg : Nat → Int32} {v_nLeaves : Int32} {a_pile : Nat → Int32} {a_pileAt : Nat → Int32} {v_piled : Int32} {v_opened : Int32} {a_words : Nat → Int64} {a_headWords : Nat → Int64} {a_chances : Nat → Int32} {a_votes : Nat → Int64} {a_costs : Nat → Int32} {a_table : Nat → Int64} {a_prices : Nat → Int32} {v_surely : Int64} {a_mostBy : Nat → Int64} {a_leastBy : Nat → Int64} {v_between : Int64} {v_steadyWays : Int32} {v_quashed : Int32} {v_but : Int32} {a_figures : Nat → Int32} {a_all : Nat → Int32} {a_lies : Nat → Int32} {a_since : Nat → Int32} {v_last : Int32} {v_state : Int64} {Fu : Nat} {a_row : Nat → Int32} {v_law : Int32} {a_set : Nat → Int64} {a_rest : Nat → Int64} {v_broken : Int32} {v_value : Int64} {v_sum : Int64} {x1 : Int32} {x2 : Int32} {R : Int32 × Int32 × (Nat → Int64) × (Nat → Int64) × Int32 × Int64 × Int64} (hf : fX12_priceOf Fu a_row v_law a_set a_rest v_broken v_value v_sum x1 x2 = some R) : e_C G b yX12_priceOf cX12_priceOf 3 (some .int) 4 0 0 [.ref (b + o), .int x1, .int x2] (e_ov (kM o) (wM G b o v_thrown v_status a_refusals a_row a_images a_isKept a_tape v_taped v_from v_to v_sort v_worth v_fault v_bad v_nClauses a_nClause v_nCode a_nOp a_nArg v_nLeaves a_pile a_pileAt v_piled v_opened a_words a_headWords v_law a_set a_rest v_broken v_value v_sum a_chances a_votes a_costs a_table a_prices v_surely a_mostBy a_leastBy v_between v_steadyWays v_quashed v_but a_figures a_all a_lies a_since v_last v_state) c0) n (pD (some (.int R.1)) (e_ov (kM o) (wM G b o v_thrown v_status a_refusals a_row a_images a_isKept a_tape v_taped v_from v_to v_sort v_worth v_fault v_bad v_nClauses a_nClause v_nCode a_nOp a_nArg v_nLeaves a_pile a_pileAt v_piled v_opened a_words a_headWords R.2.1 R.2.2.1 R.2.2.2.1 R.2.2.2.2.1 R.2.2.2.2.2.1 R.2.2.2.2.2.2 a_chances a_votes a_costs a_table a_prices v_surely a_mostBy a_leastBy v_between v_steadyWays v_quashed v_but a_figures a_all a_lies a_since v_last v_state) c0) n) := e_C.of (by decide) (Nat.le_of_ble_eq_true rfl) (tX12_priceOf hw hf)
def fX12_price_L29 (Fu : Nat) (v_thrown : Int32) (a_row : Nat → Int32) (v_law : Int32) (a_set : Nat → Int64) (a_rest : Nat → Int64) (v_broken : Int32) (v_value : Int64) (v_sum : Int64) : Option (Int32 × Int32 × Int32 × (Nat → Int64) × (Nat → Int64) × Int32 × Int64 × Int64) := some ((-1 : Int32), v_thrown, v_law, a_set, a_rest, v_broken, v_value, v_sum)
set_option maxHeartbeats 4000000 in
set_option maxRecDepth 100000 in
theorem tX12_price_L29 {G : GT} {b : Nat} {o : Nat} {c0 : Hp} {n : Nat} (hw : e_wf (kM o) n) {v_status : Int32} {a_refusals : Nat → Int32} {a_images : Nat → Int32} {a_isKept : Nat → Int32} {a_tape : Nat → Int32} {v_taped : Int32} {v_from : Int32} {v_to : Int32} {v_sort : Int32} {v_worth : Int64} {v_fault : Int32} {v_bad : Int32} {v_nClauses : Int32} {a_nClause : Nat → Int32} {v_nCode : Int32} {a_nOp : Nat → Int32} {a_nArg : Nat → Int32} {v_nLeaves : Int32} {a_pile : Nat → Int32} {a_pileAt : Nat → Int32} {v_piled : Int32} {v_opened : Int32} {a_words : Nat → Int64} {a_headWords : Nat → Int64} {a_chances : Nat → Int32} {a_votes : Nat → Int64} {a_costs : Nat → Int32} {a_table : Nat → Int64} {a_prices : Nat → Int32} {v_surely : Int64} {a_mostBy : Nat → Int64} {a_leastBy : Nat → Int64} {v_between : Int64} {v_steadyWays : Int32} {v_quashed : Int32} {v_but : Int32} {a_figures : Nat → Int32} {a_all : Nat → Int32} {a_lies : Nat → Int32} {a_since : Nat → Int32} {v_last : Int32} {v_state : Int64} {Fu : Nat} {v_thrown : Int32} {a_row : Nat → Int32} {v_law : Int32} {a_set : Nat → Int64} {a_rest : Nat → Int64} {v_broken : Int32} {v_value : Int64} {v_sum : Int64} {R : Int32 × Int32 × Int32 × (Nat → Int64) × (Nat → Int64) × Int32 × Int64 × Int64} (hf : fX12_price_L29 Fu v_thrown a_row v_law a_set a_rest v_broken v_value v_sum = some R) : E G b yX12_price cX12_price 3 (some .int) (e_rm 5 0 0) e_X0 (e_Z G b (pD (some (.int R.1)) (e_ov (kM o) (wM G b o R.2.1 v_status a_refusals a_row a_images a_isKept a_tape v_taped v_from v_to v_sort v_worth v_fault v_bad v_nClauses a_nClause v_nCode a_nOp a_nArg v_nLeaves a_pile a_pileAt v_piled v_opened a_words a_headWords R.2.2.1 R.2.2.2.1 R.2.2.2.2.1 R.2.2.2.2.2.1 R.2.2.2.2.2.2.1 R.2.2.2.2.2.2.2 a_chances a_votes a_costs a_table a_prices v_surely a_mostBy a_leastBy v_between v_steadyWays v_quashed v_but a_figures a_all a_lies a_since v_last v_state) c0) n) 0 0) 29 [] [] (e_ov (kM o) (wM G b o v_thrown v_status a_refusals a_row a_images a_isKept a_tape v_taped v_from v_to v_sort v_worth v_fault v_bad v_nClauses a_nClause v_nCode a_nOp a_nArg v_nLeaves a_pile a_pileAt v_piled v_opened a_words a_headWords v_law a_set a_rest v_broken v_value v_sum a_chances a_votes a_costs a_table a_prices v_surely a_mostBy a_leastBy v_between v_steadyWays v_quashed v_but a_figures a_all a_lies a_since v_last v_state) c0) n 0 0 := by
  unfold fX12_price_L29 at hf
  refine E.iconst (v := -1) dX12_price_29 (by decide) ?_
  cases hf
  exact E.iret dX12_price_30 (Nat.le_refl _) (Nat.le_refl _) (pD_rf _ _ _)
def fX12_price (Fu : Nat) (v_thrown : Int32) (a_row : Nat → Int32) (v_law : Int32) (a_set : Nat → Int64) (a_rest : Nat → Int64) (v_broken : Int32) (v_value : Int64) (v_sum : Int64) (x1 : Int32) (x2 : Int32) : Option (Int32 × Int32 × Int32 × (Nat → Int64) × (Nat → Int64) × Int32 × Int64 × Int64) := (fX12_isBeast a_row x1).bind fun r1 => (if (r1 : Int32) = 0 then (fX12_price_L29 Fu 0 a_row v_law a_set a_rest v_broken v_value v_sum) else ((fX12_isSide x2).bind fun r2 => (if (r2 : Int32) = 0 then (fX12_price_L29 Fu 0 a_row v_law a_set a_rest v_broken v_value v_sum) else ((fX12_priceOf Fu a_row v_law a_set a_rest v_broken v_value v_sum x1 x2).bind fun r3 => (some (r3.1, 0, r3.2.1, r3.2.2.1, r3.2.2.2.1, r3.2.2.2.2.1, r3.2.2.2.2.2.1, r3.2.2.2.2.2.2))))))
set_option maxHeartbeats 4000000 in
set_option maxRecDepth 100000 in
theorem tX12_price {G : GT} {b : Nat} {o : Nat} {c0 : Hp} {n : Nat} (hw : e_wf (kM o) n) {v_status : Int32} {a_refusals : Nat → Int32} {a_images : Nat → Int32} {a_isKept : Nat → Int32} {a_tape : Nat → Int32} {v_taped : Int32} {v_from : Int32} {v_to : Int32} {v_sort : Int32} {v_worth : Int64} {v_fault : Int32} {v_bad : Int32} {v_nClauses : Int32} {a_nClause : Nat → Int32} {v_nCode : Int32} {a_nOp : Nat → Int32} {a_nArg : Nat → Int32} {v_nLeaves : Int32} {a_pile : Nat → Int32} {a_pileAt : Nat → Int32} {v_piled : Int32} {v_opened : Int32} {a_words : Nat → Int64} {a_headWords : Nat → Int64} {a_chances : Nat → Int32} {a_votes : Nat → Int64} {a_costs : Nat → Int32} {a_table : Nat → Int64} {a_prices : Nat → Int32} {v_surely : Int64} {a_mostBy : Nat → Int64} {a_leastBy : Nat → Int64} {v_between : Int64} {v_steadyWays : Int32} {v_quashed : Int32} {v_but : Int32} {a_figures : Nat → Int32} {a_all : Nat → Int32} {a_lies : Nat → Int32} {a_since : Nat → Int32} {v_last : Int32} {v_state : Int64} {Fu : Nat} {v_thrown : Int32} {a_row : Nat → Int32} {v_law : Int32} {a_set : Nat → Int64} {a_rest : Nat → Int64} {v_broken : Int32} {v_value : Int64} {v_sum : Int64} {x1 : Int32} {x2 : Int32} {R : Int32 × Int32 × Int32 × (Nat → Int64) × (Nat → Int64) × Int32 × Int64 × Int64} (hf : fX12_price Fu v_thrown a_row v_law a_set a_rest v_broken v_value v_sum x1 x2 = some R) : E G b yX12_price cX12_price 3 (some .int) (e_rm 5 0 0) e_X0 (e_Z G b (pD (some (.int R.1)) (e_ov (kM o) (wM G b o R.2.1 v_status a_refusals a_row a_images a_isKept a_tape v_taped v_from v_to v_sort v_worth v_fault v_bad v_nClauses a_nClause v_nCode a_nOp a_nArg v_nLeaves a_pile a_pileAt v_piled v_opened a_words a_headWords R.2.2.1 R.2.2.2.1 R.2.2.2.2.1 R.2.2.2.2.2.1 R.2.2.2.2.2.2.1 R.2.2.2.2.2.2.2 a_chances a_votes a_costs a_table a_prices v_surely a_mostBy a_leastBy v_between v_steadyWays v_quashed v_but a_figures a_all a_lies a_since v_last v_state) c0) n) 0 0) 0 [(0, .ref (b + o)), (1, .int x1), (2, .int x2)] [] (e_ov (kM o) (wM G b o v_thrown v_status a_refusals a_row a_images a_isKept a_tape v_taped v_from v_to v_sort v_worth v_fault v_bad v_nClauses a_nClause v_nCode a_nOp a_nArg v_nLeaves a_pile a_pileAt v_piled v_opened a_words a_headWords v_law a_set a_rest v_broken v_value v_sum a_chances a_votes a_costs a_table a_prices v_surely a_mostBy a_leastBy v_between v_steadyWays v_quashed v_but a_figures a_all a_lies a_since v_last v_state) c0) n 0 0 := by
  unfold fX12_price at hf
  refine E.aload_n 0 dX12_price_0 rfl ?_
  refine E.iconst (v := 0) dX12_price_1 (by decide) ?_
  refine E.put (es' := (wM G b o 0 v_status a_refusals a_row a_images a_isKept a_tape v_taped v_from v_to v_sort v_worth v_fault v_bad v_nClauses a_nClause v_nCode a_nOp a_nArg v_nLeaves a_pile a_pileAt v_piled v_opened a_words a_headWords v_law a_set a_rest v_broken v_value v_sum a_chances a_votes a_costs a_table a_prices v_surely a_mostBy a_leastBy v_between v_steadyWays v_quashed v_but a_figures a_all a_lies a_since v_last v_state)) hw 0 o dX12_price_2 flX12_124 ftX12 rfl rfl rfl rfl rfl rfl (Nat.le_of_ble_eq_true rfl) rfl ?_
  refine E.aload_n 0 dX12_price_5 rfl ?_
  refine E.iload_n 1 dX12_price_6 rfl ?_
  obtain ⟨r1, hc1, hf⟩ := e_bind hf
  refine E.callVD [] dX12_price_7 mlX12_153 ⟨hw.sub (p := 0) rfl, e_ov_get hw.1 (p := 0) rfl rfl⟩ rfl rfl (mX12_isBeast hw hc1) ⟨Nat.le_of_ble_eq_true rfl, Nat.le_of_ble_eq_true rfl⟩ rfl rfl (Nat.le_of_ble_eq_true rfl) ⟨Nat.le_refl _, Nat.le_refl _⟩ rfl ?_
  refine E.if_eq dX12_price_10 (fun h => ?_) (fun h => ?_)
  · have hf := e_ift hf h
    refine E.locals [] rfl ?_
    exact tX12_price_L29 hw hf
  · have hf := e_iff hf h
    refine E.iload_n 2 dX12_price_13 rfl ?_
    obtain ⟨r2, hc2, hf⟩ := e_bind hf
    refine E.callSD [] dX12_price_14 mlX12_358 (mX12_isSide hc2) ⟨Nat.le_of_ble_eq_true rfl, Nat.le_of_ble_eq_true rfl⟩ rfl rfl (Nat.le_of_ble_eq_true rfl) ⟨Nat.le_refl _, Nat.le_refl _⟩ rfl ?_
    refine E.if_eq dX12_price_17 (fun h => ?_) (fun h => ?_)
    · have hf := e_ift hf h
      refine E.locals [] rfl ?_
      exact tX12_price_L29 hw hf
    · have hf := e_iff hf h
      refine E.aload_n 0 dX12_price_20 rfl ?_
      refine E.iload_n 1 dX12_price_21 rfl ?_
      refine E.iload_n 2 dX12_price_22 rfl ?_
      obtain ⟨r3, hc3, hf⟩ := e_bind hf
      refine E.callVD [] dX12_price_23 mlX12_361 ⟨hw.sub (p := 0) rfl, e_ov_get hw.1 (p := 0) rfl rfl⟩ rfl rfl (mX12_priceOf hw hc3) ⟨Nat.le_of_ble_eq_true rfl, Nat.le_of_ble_eq_true rfl⟩ rfl rfl (Nat.le_of_ble_eq_true rfl) ⟨Nat.le_refl _, Nat.le_refl _⟩ rfl ?_
      refine E.goto dX12_price_26 ?_
      cases hf
      exact E.iret dX12_price_30 (Nat.le_refl _) (Nat.le_refl _) (pD_rf _ _ _)
set_option maxRecDepth 100000 in
theorem mX12_price {G : GT} {b : Nat} {o : Nat} {c0 : Hp} {n : Nat} (hw : e_wf (kM o) n) {v_status : Int32} {a_refusals : Nat → Int32} {a_images : Nat → Int32} {a_isKept : Nat → Int32} {a_tape : Nat → Int32} {v_taped : Int32} {v_from : Int32} {v_to : Int32} {v_sort : Int32} {v_worth : Int64} {v_fault : Int32} {v_bad : Int32} {v_nClauses : Int32} {a_nClause : Nat → Int32} {v_nCode : Int32} {a_nOp : Nat → Int32} {a_nArg : Nat → Int32} {v_nLeaves : Int32} {a_pile : Nat → Int32} {a_pileAt : Nat → Int32} {v_piled : Int32} {v_opened : Int32} {a_words : Nat → Int64} {a_headWords : Nat → Int64} {a_chances : Nat → Int32} {a_votes : Nat → Int64} {a_costs : Nat → Int32} {a_table : Nat → Int64} {a_prices : Nat → Int32} {v_surely : Int64} {a_mostBy : Nat → Int64} {a_leastBy : Nat → Int64} {v_between : Int64} {v_steadyWays : Int32} {v_quashed : Int32} {v_but : Int32} {a_figures : Nat → Int32} {a_all : Nat → Int32} {a_lies : Nat → Int32} {a_since : Nat → Int32} {v_last : Int32} {v_state : Int64} {Fu : Nat} {v_thrown : Int32} {a_row : Nat → Int32} {v_law : Int32} {a_set : Nat → Int64} {a_rest : Nat → Int64} {v_broken : Int32} {v_value : Int64} {v_sum : Int64} {x1 : Int32} {x2 : Int32} {R : Int32 × Int32 × Int32 × (Nat → Int64) × (Nat → Int64) × Int32 × Int64 × Int64} (hf : fX12_price Fu v_thrown a_row v_law a_set a_rest v_broken v_value v_sum x1 x2 = some R) : e_C G b yX12_price cX12_price 3 (some .int) 5 0 0 [.ref (b + o), .int x1, .int x2] (e_ov (kM o) (wM G b o v_thrown v_status a_refusals a_row a_images a_isKept a_tape v_taped v_from v_to v_sort v_worth v_fault v_bad v_nClauses a_nClause v_nCode a_nOp a_nArg v_nLeaves a_pile a_pileAt v_piled v_opened a_words a_headWords v_law a_set a_rest v_broken v_value v_sum a_chances a_votes a_costs a_table a_prices v_surely a_mostBy a_leastBy v_between v_steadyWays v_quashed v_but a_figures a_all a_lies a_since v_last v_state) c0) n (pD (some (.int R.1)) (e_ov (kM o) (wM G b o R.2.1 v_status a_refusals a_row a_images a_isKept a_tape v_taped v_from v_to v_sort v_worth v_fault v_bad v_nClauses a_nClause v_nCode a_nOp a_nArg v_nLeaves a_pile a_pileAt v_piled v_opened a_words a_headWords R.2.2.1 R.2.2.2.1 R.2.2.2.2.1 R.2.2.2.2.2.1 R.2.2.2.2.2.2.1 R.2.2.2.2.2.2.2 a_chances a_votes a_costs a_table a_prices v_surely a_mostBy a_leastBy v_between v_steadyWays v_quashed v_but a_figures a_all a_lies a_since v_last v_state) c0) n) := e_C.of (by decide) (Nat.le_of_ble_eq_true rfl) (tX12_price hw hf)
def fX12_layChances_L14 (Fu : Nat) (k2 : (Nat → Int32) → Int32 → (Nat → Int64) → (Nat → Int64) → Int32 → Int64 → Int64 → (Nat → Int32) → Int32 → Int32 → Option (Int32 × (Nat → Int64) × (Nat → Int64) × Int32 × Int64 × Int64 × (Nat → Int32))) : Nat → (Nat → Int32) → Int32 → (Nat → Int64) → (Nat → Int64) → Int32 → Int64 → Int64 → (Nat → Int32) → Int32 → Int32 → Int32 → Option (Int32 × (Nat → Int64) × (Nat → Int64) × Int32 × Int64 × Int64 × (Nat → Int32))
  | 0, _, _, _, _, _, _, _, _, _, _, _ => none
  | k + 1, a_row, v_law, a_set, a_rest, v_broken, v_value, v_sum, a_chances, x1, x2, x3 => if (4 : Int32) ≤ (x3 : Int32) then (k2 a_row v_law a_set a_rest v_broken v_value v_sum a_chances x1 (x2 + 1)) else ((fX12_chanceOf Fu a_row v_law a_set a_rest v_broken v_value v_sum x2 x1 x3 0).bind fun r2 => (gd ((4 * x2) + x3) 32 ((fX12_layChances_L14 Fu k2 k) a_row r2.2.1 r2.2.2.1 r2.2.2.2.1 r2.2.2.2.2.1 r2.2.2.2.2.2.1 r2.2.2.2.2.2.2 (va_up a_chances (((4 * x2) + x3) : Int32).toNatClampNeg r2.1) x1 x2 (x3 + 1))))
set_option maxHeartbeats 4000000 in
set_option maxRecDepth 100000 in
theorem tX12_layChances_L14 {G : GT} {b : Nat} {o : Nat} {c0 : Hp} {n : Nat} (hw : e_wf (kM o) n) {v_thrown : Int32} {v_status : Int32} {a_refusals : Nat → Int32} {a_images : Nat → Int32} {a_isKept : Nat → Int32} {a_tape : Nat → Int32} {v_taped : Int32} {v_from : Int32} {v_to : Int32} {v_sort : Int32} {v_worth : Int64} {v_fault : Int32} {v_bad : Int32} {v_nClauses : Int32} {a_nClause : Nat → Int32} {v_nCode : Int32} {a_nOp : Nat → Int32} {a_nArg : Nat → Int32} {v_nLeaves : Int32} {a_pile : Nat → Int32} {a_pileAt : Nat → Int32} {v_piled : Int32} {v_opened : Int32} {a_words : Nat → Int64} {a_headWords : Nat → Int64} {a_votes : Nat → Int64} {a_costs : Nat → Int32} {a_table : Nat → Int64} {a_prices : Nat → Int32} {v_surely : Int64} {a_mostBy : Nat → Int64} {a_leastBy : Nat → Int64} {v_between : Int64} {v_steadyWays : Int32} {v_quashed : Int32} {v_but : Int32} {a_figures : Nat → Int32} {a_all : Nat → Int32} {a_lies : Nat → Int32} {a_since : Nat → Int32} {v_last : Int32} {v_state : Int64} {Fu : Nat} {k2 : (Nat → Int32) → Int32 → (Nat → Int64) → (Nat → Int64) → Int32 → Int64 → Int64 → (Nat → Int32) → Int32 → Int32 → Option (Int32 × (Nat → Int64) × (Nat → Int64) × Int32 × Int64 × Int64 × (Nat → Int32))} (hk2 : ∀ {a_row : Nat → Int32} {v_law : Int32} {a_set : Nat → Int64} {a_rest : Nat → Int64} {v_broken : Int32} {v_value : Int64} {v_sum : Int64} {a_chances : Nat → Int32} {x1 : Int32} {x2 : Int32} {R : Int32 × (Nat → Int64) × (Nat → Int64) × Int32 × Int64 × Int64 × (Nat → Int32)}, k2 a_row v_law a_set a_rest v_broken v_value v_sum a_chances x1 x2 = some R → E G b yX12_layChances cX12_layChances 4 none (e_rm 5 0 0) e_X0 (e_Z G b (pD none (e_ov (kM o) (wM G b o v_thrown v_status a_refusals a_row a_images a_isKept a_tape v_taped v_from v_to v_sort v_worth v_fault v_bad v_nClauses a_nClause v_nCode a_nOp a_nArg v_nLeaves a_pile a_pileAt v_piled v_opened a_words a_headWords R.1 R.2.1 R.2.2.1 R.2.2.2.1 R.2.2.2.2.1 R.2.2.2.2.2.1 R.2.2.2.2.2.2 a_votes a_costs a_table a_prices v_surely a_mostBy a_leastBy v_between v_steadyWays v_quashed v_but a_figures a_all a_lies a_since v_last v_state) c0) n) 0 0) 2 [(0, .ref (b + o)), (1, .int x1), (2, .int x2)] [] (e_ov (kM o) (wM G b o v_thrown v_status a_refusals a_row a_images a_isKept a_tape v_taped v_from v_to v_sort v_worth v_fault v_bad v_nClauses a_nClause v_nCode a_nOp a_nArg v_nLeaves a_pile a_pileAt v_piled v_opened a_words a_headWords v_law a_set a_rest v_broken v_value v_sum a_chances a_votes a_costs a_table a_prices v_surely a_mostBy a_leastBy v_between v_steadyWays v_quashed v_but a_figures a_all a_lies a_since v_last v_state) c0) n 0 0) : ∀ (k : Nat) {a_row : Nat → Int32} {v_law : Int32} {a_set : Nat → Int64} {a_rest : Nat → Int64} {v_broken : Int32} {v_value : Int64} {v_sum : Int64} {a_chances : Nat → Int32} {x1 : Int32} {x2 : Int32} {x3 : Int32} {R : Int32 × (Nat → Int64) × (Nat → Int64) × Int32 × Int64 × Int64 × (Nat → Int32)}, fX12_layChances_L14 Fu k2 k a_row v_law a_set a_rest v_broken v_value v_sum a_chances x1 x2 x3 = some R → E G b yX12_layChances cX12_layChances 4 none (e_rm 5 0 0) e_X0 (e_Z G b (pD none (e_ov (kM o) (wM G b o v_thrown v_status a_refusals a_row a_images a_isKept a_tape v_taped v_from v_to v_sort v_worth v_fault v_bad v_nClauses a_nClause v_nCode a_nOp a_nArg v_nLeaves a_pile a_pileAt v_piled v_opened a_words a_headWords R.1 R.2.1 R.2.2.1 R.2.2.2.1 R.2.2.2.2.1 R.2.2.2.2.2.1 R.2.2.2.2.2.2 a_votes a_costs a_table a_prices v_surely a_mostBy a_leastBy v_between v_steadyWays v_quashed v_but a_figures a_all a_lies a_since v_last v_state) c0) n) 0 0) 14 [(0, .ref (b + o)), (1, .int x1), (2, .int x2), (3, .int x3)] [] (e_ov (kM o) (wM G b o v_thrown v_status a_refusals a_row a_images a_isKept a_tape v_taped v_from v_to v_sort v_worth v_fault v_bad v_nClauses a_nClause v_nCode a_nOp a_nArg v_nLeaves a_pile a_pileAt v_piled v_opened a_words a_headWords v_law a_set a_rest v_broken v_value v_sum a_chances a_votes a_costs a_table a_prices v_surely a_mostBy a_leastBy v_between v_steadyWays v_quashed v_but a_figures a_all a_lies a_since v_last v_state) c0) n 0 0 := by
  intro k
  induction k with
  | zero =>
    intro _ _ _ _ _ _ _ _ _ _ _ _ hf
    have hf : (none : Option (Int32 × (Nat → Int64) × (Nat → Int64) × Int32 × Int64 × Int64 × (Nat → Int32))) = some _ := hf
    cases hf
  | succ k ih =>
    intro a_row v_law a_set a_rest v_broken v_value v_sum a_chances x1 x2 x3 R hf
    rw [fX12_layChances_L14] at hf
    refine E.iload_n 3 dX12_layChances_14 rfl ?_
    refine E.iconst (v := 4) dX12_layChances_15 (by decide) ?_
    refine E.icmp_ge dX12_layChances_16 (fun h => ?_) (fun h => ?_)
    · have hf := e_ift hf h
      refine E.iinc (q := 2) (v := (x2 + 1)) (lv' := [(2, .int (x2 + 1)), (0, .ref (b + o)), (1, .int x1), (3, .int x3)]) dX12_layChances_43 rfl rfl (by decide) rfl ?_
      refine E.goto dX12_layChances_46 ?_
      refine E.locals [1, 2, 0] rfl ?_
      exact hk2 hf
    · have hf := e_iff hf h
      refine E.aload_n 0 dX12_layChances_19 rfl ?_
      refine E.get hw 0 o dX12_layChances_20 flX12_84 rfl rfl rfl rfl ?_
      refine E.iconst (v := 4) dX12_layChances_23 (by decide) ?_
      refine E.iload_n 2 dX12_layChances_24 rfl ?_
      refine E.imul dX12_layChances_25 ?_
      refine E.iload_n 3 dX12_layChances_26 rfl ?_
      refine E.iadd dX12_layChances_27 ?_
      refine E.aload_n 0 dX12_layChances_28 rfl ?_
      refine E.iload_n 2 dX12_layChances_29 rfl ?_
      refine E.iload_n 1 dX12_layChances_30 rfl ?_
      refine E.iload_n 3 dX12_layChances_31 rfl ?_
      refine E.iconst (v := 0) dX12_layChances_32 (by decide) ?_
      obtain ⟨r2, hc2, hf⟩ := e_bind hf
      refine E.callVD [.int ((4 * x2) + x3), .ref (b + (o + 15))] dX12_layChances_33 mlX12_354 ⟨hw.sub (p := 0) rfl, e_ov_get hw.1 (p := 0) rfl rfl⟩ rfl rfl (mX12_chanceOf hw hc2) ⟨Nat.le_of_ble_eq_true rfl, Nat.le_of_ble_eq_true rfl⟩ rfl rfl (Nat.le_of_ble_eq_true rfl) ⟨Nat.le_refl _, Nat.le_refl _⟩ rfl ?_
      obtain ⟨g3, hf⟩ := gd_some hf
      refine E.iast (es' := (wM G b o v_thrown v_status a_refusals a_row a_images a_isKept a_tape v_taped v_from v_to v_sort v_worth v_fault v_bad v_nClauses a_nClause v_nCode a_nOp a_nArg v_nLeaves a_pile a_pileAt v_piled v_opened a_words a_headWords r2.2.1 r2.2.2.1 r2.2.2.2.1 r2.2.2.2.2.1 r2.2.2.2.2.2.1 r2.2.2.2.2.2.2 (va_up a_chances (((4 * x2) + x3) : Int32).toNatClampNeg r2.1) a_votes a_costs a_table a_prices v_surely a_mostBy a_leastBy v_between v_steadyWays v_quashed v_but a_figures a_all a_lies a_since v_last v_state)) hw 15 (o + 15) dX12_layChances_36 rfl rfl g3 rfl ?_
      refine E.iinc (q := 3) (v := (x3 + 1)) (lv' := [(3, .int (x3 + 1)), (0, .ref (b + o)), (1, .int x1), (2, .int x2)]) dX12_layChances_37 rfl rfl (by decide) rfl ?_
      refine E.goto dX12_layChances_40 ?_
      refine E.locals [1, 2, 3, 0] rfl ?_
      exact ih hf
def fX12_layChances_L2 (Fu : Nat) : Nat → (Nat → Int32) → Int32 → (Nat → Int64) → (Nat → Int64) → Int32 → Int64 → Int64 → (Nat → Int32) → Int32 → Int32 → Option (Int32 × (Nat → Int64) × (Nat → Int64) × Int32 × Int64 × Int64 × (Nat → Int32))
  | 0, _, _, _, _, _, _, _, _, _, _ => none
  | k + 1, a_row, v_law, a_set, a_rest, v_broken, v_value, v_sum, a_chances, x1, x2 => gd 0 5570 (if ((a_row (0 : Int32).toNatClampNeg) : Int32) ≤ (x2 : Int32) then (some (v_law, a_set, a_rest, v_broken, v_value, v_sum, a_chances)) else (fX12_layChances_L14 Fu (fX12_layChances_L2 Fu k) Fu a_row v_law a_set a_rest v_broken v_value v_sum a_chances x1 x2 0))
set_option maxHeartbeats 4000000 in
set_option maxRecDepth 100000 in
theorem tX12_layChances_L2 {G : GT} {b : Nat} {o : Nat} {c0 : Hp} {n : Nat} (hw : e_wf (kM o) n) {v_thrown : Int32} {v_status : Int32} {a_refusals : Nat → Int32} {a_images : Nat → Int32} {a_isKept : Nat → Int32} {a_tape : Nat → Int32} {v_taped : Int32} {v_from : Int32} {v_to : Int32} {v_sort : Int32} {v_worth : Int64} {v_fault : Int32} {v_bad : Int32} {v_nClauses : Int32} {a_nClause : Nat → Int32} {v_nCode : Int32} {a_nOp : Nat → Int32} {a_nArg : Nat → Int32} {v_nLeaves : Int32} {a_pile : Nat → Int32} {a_pileAt : Nat → Int32} {v_piled : Int32} {v_opened : Int32} {a_words : Nat → Int64} {a_headWords : Nat → Int64} {a_votes : Nat → Int64} {a_costs : Nat → Int32} {a_table : Nat → Int64} {a_prices : Nat → Int32} {v_surely : Int64} {a_mostBy : Nat → Int64} {a_leastBy : Nat → Int64} {v_between : Int64} {v_steadyWays : Int32} {v_quashed : Int32} {v_but : Int32} {a_figures : Nat → Int32} {a_all : Nat → Int32} {a_lies : Nat → Int32} {a_since : Nat → Int32} {v_last : Int32} {v_state : Int64} {Fu : Nat} : ∀ (k : Nat) {a_row : Nat → Int32} {v_law : Int32} {a_set : Nat → Int64} {a_rest : Nat → Int64} {v_broken : Int32} {v_value : Int64} {v_sum : Int64} {a_chances : Nat → Int32} {x1 : Int32} {x2 : Int32} {R : Int32 × (Nat → Int64) × (Nat → Int64) × Int32 × Int64 × Int64 × (Nat → Int32)}, fX12_layChances_L2 Fu k a_row v_law a_set a_rest v_broken v_value v_sum a_chances x1 x2 = some R → E G b yX12_layChances cX12_layChances 4 none (e_rm 5 0 0) e_X0 (e_Z G b (pD none (e_ov (kM o) (wM G b o v_thrown v_status a_refusals a_row a_images a_isKept a_tape v_taped v_from v_to v_sort v_worth v_fault v_bad v_nClauses a_nClause v_nCode a_nOp a_nArg v_nLeaves a_pile a_pileAt v_piled v_opened a_words a_headWords R.1 R.2.1 R.2.2.1 R.2.2.2.1 R.2.2.2.2.1 R.2.2.2.2.2.1 R.2.2.2.2.2.2 a_votes a_costs a_table a_prices v_surely a_mostBy a_leastBy v_between v_steadyWays v_quashed v_but a_figures a_all a_lies a_since v_last v_state) c0) n) 0 0) 2 [(0, .ref (b + o)), (1, .int x1), (2, .int x2)] [] (e_ov (kM o) (wM G b o v_thrown v_status a_refusals a_row a_images a_isKept a_tape v_taped v_from v_to v_sort v_worth v_fault v_bad v_nClauses a_nClause v_nCode a_nOp a_nArg v_nLeaves a_pile a_pileAt v_piled v_opened a_words a_headWords v_law a_set a_rest v_broken v_value v_sum a_chances a_votes a_costs a_table a_prices v_surely a_mostBy a_leastBy v_between v_steadyWays v_quashed v_but a_figures a_all a_lies a_since v_last v_state) c0) n 0 0 := by
  intro k
  induction k with
  | zero =>
    intro _ _ _ _ _ _ _ _ _ _ _ hf
    have hf : (none : Option (Int32 × (Nat → Int64) × (Nat → Int64) × Int32 × Int64 × Int64 × (Nat → Int32))) = some _ := hf
    cases hf
  | succ k ih =>
    intro a_row v_law a_set a_rest v_broken v_value v_sum a_chances x1 x2 R hf
    rw [fX12_layChances_L2] at hf
    refine E.iload_n 2 dX12_layChances_2 rfl ?_
    refine E.aload_n 0 dX12_layChances_3 rfl ?_
    refine E.get hw 0 o dX12_layChances_4 flX12_13 rfl rfl rfl rfl ?_
    refine E.iconst (v := 0) dX12_layChances_7 (by decide) ?_
    obtain ⟨g1, hf⟩ := gd_some hf
    refine E.iald hw 2 (o + 2) dX12_layChances_8 rfl rfl g1 ?_
    refine E.icmp_ge dX12_layChances_9 (fun h => ?_) (fun h => ?_)
    · have hf := e_ift hf h
      cases hf
      exact E.vret dX12_layChances_49 (Nat.le_refl _) (Nat.le_refl _) (pD_rf _ _ _)
    · have hf := e_iff hf h
      refine E.iconst (v := 0) dX12_layChances_12 (by decide) ?_
      refine E.istore_n (lv' := [(3, .int 0), (0, .ref (b + o)), (1, .int x1), (2, .int x2)]) dX12_layChances_13 (by decide) rfl ?_
      refine E.locals [1, 2, 3, 0] rfl ?_
      exact tX12_layChances_L14 hw ih _ hf
def fX12_layChances (Fu : Nat) (a_row : Nat → Int32) (v_law : Int32) (a_set : Nat → Int64) (a_rest : Nat → Int64) (v_broken : Int32) (v_value : Int64) (v_sum : Int64) (a_chances : Nat → Int32) (x1 : Int32) : Option (Int32 × (Nat → Int64) × (Nat → Int64) × Int32 × Int64 × Int64 × (Nat → Int32)) := fX12_layChances_L2 Fu Fu a_row v_law a_set a_rest v_broken v_value v_sum a_chances x1 0
set_option maxHeartbeats 4000000 in
set_option maxRecDepth 100000 in
theorem tX12_layChances {G : GT} {b : Nat} {o : Nat} {c0 : Hp} {n : Nat} (hw : e_wf (kM o) n) {v_thrown : Int32} {v_status : Int32} {a_refusals : Nat → Int32} {a_images : Nat → Int32} {a_isKept : Nat → Int32} {a_tape : Nat → Int32} {v_taped : Int32} {v_from : Int32} {v_to : Int32} {v_sort : Int32} {v_worth : Int64} {v_fault : Int32} {v_bad : Int32} {v_nClauses : Int32} {a_nClause : Nat → Int32} {v_nCode : Int32} {a_nOp : Nat → Int32} {a_nArg : Nat → Int32} {v_nLeaves : Int32} {a_pile : Nat → Int32} {a_pileAt : Nat → Int32} {v_piled : Int32} {v_opened : Int32} {a_words : Nat → Int64} {a_headWords : Nat → Int64} {a_votes : Nat → Int64} {a_costs : Nat → Int32} {a_table : Nat → Int64} {a_prices : Nat → Int32} {v_surely : Int64} {a_mostBy : Nat → Int64} {a_leastBy : Nat → Int64} {v_between : Int64} {v_steadyWays : Int32} {v_quashed : Int32} {v_but : Int32} {a_figures : Nat → Int32} {a_all : Nat → Int32} {a_lies : Nat → Int32} {a_since : Nat → Int32} {v_last : Int32} {v_state : Int64} {Fu : Nat} {a_row : Nat → Int32} {v_law : Int32} {a_set : Nat → Int64} {a_rest : Nat → Int64} {v_broken : Int32} {v_value : Int64} {v_sum : Int64} {a_chances : Nat → Int32} {x1 : Int32} {R : Int32 × (Nat → Int64) × (Nat → Int64) × Int32 × Int64 × Int64 × (Nat → Int32)} (hf : fX12_layChances Fu a_row v_law a_set a_rest v_broken v_value v_sum a_chances x1 = some R) : E G b yX12_layChances cX12_layChances 4 none (e_rm 5 0 0) e_X0 (e_Z G b (pD none (e_ov (kM o) (wM G b o v_thrown v_status a_refusals a_row a_images a_isKept a_tape v_taped v_from v_to v_sort v_worth v_fault v_bad v_nClauses a_nClause v_nCode a_nOp a_nArg v_nLeaves a_pile a_pileAt v_piled v_opened a_words a_headWords R.1 R.2.1 R.2.2.1 R.2.2.2.1 R.2.2.2.2.1 R.2.2.2.2.2.1 R.2.2.2.2.2.2 a_votes a_costs a_table a_prices v_surely a_mostBy a_leastBy v_between v_steadyWays v_quashed v_but a_figures a_all a_lies a_since v_last v_state) c0) n) 0 0) 0 [(0, .ref (b + o)), (1, .int x1)] [] (e_ov (kM o) (wM G b o v_thrown v_status a_refusals a_row a_images a_isKept a_tape v_taped v_from v_to v_sort v_worth v_fault v_bad v_nClauses a_nClause v_nCode a_nOp a_nArg v_nLeaves a_pile a_pileAt v_piled v_opened a_words a_headWords v_law a_set a_rest v_broken v_value v_sum a_chances a_votes a_costs a_table a_prices v_surely a_mostBy a_leastBy v_between v_steadyWays v_quashed v_but a_figures a_all a_lies a_since v_last v_state) c0) n 0 0 := by
  unfold fX12_layChances at hf
  refine E.iconst (v := 0) dX12_layChances_0 (by decide) ?_
  refine E.istore_n (lv' := [(2, .int 0), (0, .ref (b + o)), (1, .int x1)]) dX12_layChances_1 (by decide) rfl ?_
  refine E.locals [1, 2, 0] rfl ?_
  exact tX12_layChances_L2 hw _ hf
set_option maxRecDepth 100000 in
theorem mX12_layChances {G : GT} {b : Nat} {o : Nat} {c0 : Hp} {n : Nat} (hw : e_wf (kM o) n) {v_thrown : Int32} {v_status : Int32} {a_refusals : Nat → Int32} {a_images : Nat → Int32} {a_isKept : Nat → Int32} {a_tape : Nat → Int32} {v_taped : Int32} {v_from : Int32} {v_to : Int32} {v_sort : Int32} {v_worth : Int64} {v_fault : Int32} {v_bad : Int32} {v_nClauses : Int32} {a_nClause : Nat → Int32} {v_nCode : Int32} {a_nOp : Nat → Int32} {a_nArg : Nat → Int32} {v_nLeaves : Int32} {a_pile : Nat → Int32} {a_pileAt : Nat → Int32} {v_piled : Int32} {v_opened : Int32} {a_words : Nat → Int64} {a_headWords : Nat → Int64} {a_votes : Nat → Int64} {a_costs : Nat → Int32} {a_table : Nat → Int64} {a_prices : Nat → Int32} {v_surely : Int64} {a_mostBy : Nat → Int64} {a_leastBy : Nat → Int64} {v_between : Int64} {v_steadyWays : Int32} {v_quashed : Int32} {v_but : Int32} {a_figures : Nat → Int32} {a_all : Nat → Int32} {a_lies : Nat → Int32} {a_since : Nat → Int32} {v_last : Int32} {v_state : Int64} {Fu : Nat} {a_row : Nat → Int32} {v_law : Int32} {a_set : Nat → Int64} {a_rest : Nat → Int64} {v_broken : Int32} {v_value : Int64} {v_sum : Int64} {a_chances : Nat → Int32} {x1 : Int32} {R : Int32 × (Nat → Int64) × (Nat → Int64) × Int32 × Int64 × Int64 × (Nat → Int32)} (hf : fX12_layChances Fu a_row v_law a_set a_rest v_broken v_value v_sum a_chances x1 = some R) : e_C G b yX12_layChances cX12_layChances 4 none 5 0 0 [.ref (b + o), .int x1] (e_ov (kM o) (wM G b o v_thrown v_status a_refusals a_row a_images a_isKept a_tape v_taped v_from v_to v_sort v_worth v_fault v_bad v_nClauses a_nClause v_nCode a_nOp a_nArg v_nLeaves a_pile a_pileAt v_piled v_opened a_words a_headWords v_law a_set a_rest v_broken v_value v_sum a_chances a_votes a_costs a_table a_prices v_surely a_mostBy a_leastBy v_between v_steadyWays v_quashed v_but a_figures a_all a_lies a_since v_last v_state) c0) n (pD none (e_ov (kM o) (wM G b o v_thrown v_status a_refusals a_row a_images a_isKept a_tape v_taped v_from v_to v_sort v_worth v_fault v_bad v_nClauses a_nClause v_nCode a_nOp a_nArg v_nLeaves a_pile a_pileAt v_piled v_opened a_words a_headWords R.1 R.2.1 R.2.2.1 R.2.2.2.1 R.2.2.2.2.1 R.2.2.2.2.2.1 R.2.2.2.2.2.2 a_votes a_costs a_table a_prices v_surely a_mostBy a_leastBy v_between v_steadyWays v_quashed v_but a_figures a_all a_lies a_since v_last v_state) c0) n) := e_C.of (by decide) (Nat.le_of_ble_eq_true rfl) (tX12_layChances hw hf)
