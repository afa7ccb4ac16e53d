def fX12_row_L104 (Fu : Nat) (k35 : Int32 → Int32 → (Nat → Int32) → (Nat → Int32) → (Nat → Int32) → Int32 → Int32 → Int32 → Int32 → Int32 → Option (Int32 × Int32 × Int32 × (Nat → Int32) × (Nat → Int32) × Int32 × Int32)) (v_thrown : Int32) (v_status : Int32) (a_refusals : Nat → Int32) (a_row : Nat → Int32) (a_tape : Nat → Int32) (v_taped : Int32) (v_quashed : Int32) (x1 : Int32) (x2 : Int32) (x3 : Int32) (s0 : Int32) : Option (Int32 × Int32 × Int32 × (Nat → Int32) × (Nat → Int32) × Int32 × Int32) := if (s0 : Int32) = 0 then (k35 v_thrown v_status a_refusals a_row a_tape v_taped (v_quashed + 1) x1 x2 (x3 + 3)) else (gd x3 400 (gd (x3 + 1) 400 (gd (x3 + 2) 400 ((fX12_addCase a_row (a_tape (x3 : Int32).toNatClampNeg) (a_tape ((x3 + 1) : Int32).toNatClampNeg) (a_tape ((x3 + 2) : Int32).toNatClampNeg)).bind fun r11 => (k35 v_thrown v_status a_refusals r11 a_tape v_taped v_quashed x1 (x2 + 1) (x3 + 3))))))
set_option maxHeartbeats 4000000 in
set_option maxRecDepth 100000 in
theorem tX12_row_L104 {G : GT} {b : Nat} {o : Nat} {c0 : Hp} {n : Nat} (hw : e_wf (kM o) n) {a_images : Nat → Int32} {a_isKept : Nat → Int32} {v_from : Int32} {v_to : Int32} {v_sort : Int32} {v_worth : Int64} {v_fault : Int32} {v_bad : Int32} {v_nClauses : Int32} {a_nClause : Nat → Int32} {v_nCode : Int32} {a_nOp : Nat → Int32} {a_nArg : Nat → Int32} {v_nLeaves : Int32} {a_pile : Nat → Int32} {a_pileAt : Nat → Int32} {v_piled : Int32} {v_opened : Int32} {a_words : Nat → Int64} {a_headWords : Nat → Int64} {v_law : Int32} {a_set : Nat → Int64} {a_rest : Nat → Int64} {v_broken : Int32} {v_value : Int64} {v_sum : Int64} {a_chances : Nat → Int32} {a_votes : Nat → Int64} {a_costs : Nat → Int32} {a_table : Nat → Int64} {a_prices : Nat → Int32} {v_surely : Int64} {a_mostBy : Nat → Int64} {a_leastBy : Nat → Int64} {v_between : Int64} {v_steadyWays : Int32} {v_but : Int32} {a_figures : Nat → Int32} {a_all : Nat → Int32} {a_lies : Nat → Int32} {a_since : Nat → Int32} {v_last : Int32} {v_state : Int64} {Fu : Nat} {k35 : Int32 → Int32 → (Nat → Int32) → (Nat → Int32) → (Nat → Int32) → Int32 → Int32 → Int32 → Int32 → Int32 → Option (Int32 × Int32 × Int32 × (Nat → Int32) × (Nat → Int32) × Int32 × Int32)} (hk35 : ∀ {v_thrown : Int32} {v_status : Int32} {a_refusals : Nat → Int32} {a_row : Nat → Int32} {a_tape : Nat → Int32} {v_taped : Int32} {v_quashed : Int32} {x1 : Int32} {x2 : Int32} {x3 : Int32} {R : Int32 × Int32 × Int32 × (Nat → Int32) × (Nat → Int32) × Int32 × Int32}, k35 v_thrown v_status a_refusals a_row a_tape v_taped v_quashed x1 x2 x3 = some R → E G b yX12_row cX12_row 5 (some .int) (e_rm 3 0 0) e_X0 (e_Z G b (pD (some (.int R.1)) (e_ov (kM o) (wM G b o R.2.1 R.2.2.1 R.2.2.2.1 R.2.2.2.2.1 a_images a_isKept a_tape R.2.2.2.2.2.1 v_from v_to v_sort v_worth v_fault v_bad v_nClauses a_nClause v_nCode a_nOp a_nArg v_nLeaves a_pile a_pileAt v_piled v_opened a_words a_headWords v_law a_set a_rest v_broken v_value v_sum a_chances a_votes a_costs a_table a_prices v_surely a_mostBy a_leastBy v_between v_steadyWays R.2.2.2.2.2.2 v_but a_figures a_all a_lies a_since v_last v_state) c0) n) 0 0) 35 [(0, .ref (b + o)), (1, .int x1), (2, .int x2), (3, .int x3)] [] (e_ov (kM o) (wM G b o v_thrown v_status a_refusals a_row a_images a_isKept a_tape v_taped v_from v_to v_sort v_worth v_fault v_bad v_nClauses a_nClause v_nCode a_nOp a_nArg v_nLeaves a_pile a_pileAt v_piled v_opened a_words a_headWords v_law a_set a_rest v_broken v_value v_sum a_chances a_votes a_costs a_table a_prices v_surely a_mostBy a_leastBy v_between v_steadyWays v_quashed v_but a_figures a_all a_lies a_since v_last v_state) c0) n 0 0) {v_thrown : Int32} {v_status : Int32} {a_refusals : Nat → Int32} {a_row : Nat → Int32} {a_tape : Nat → Int32} {v_taped : Int32} {v_quashed : Int32} {x1 : Int32} {x2 : Int32} {x3 : Int32} {s0 : Int32} {R : Int32 × Int32 × Int32 × (Nat → Int32) × (Nat → Int32) × Int32 × Int32} (hf : fX12_row_L104 Fu k35 v_thrown v_status a_refusals a_row a_tape v_taped v_quashed x1 x2 x3 s0 = some R) : E G b yX12_row cX12_row 5 (some .int) (e_rm 3 0 0) e_X0 (e_Z G b (pD (some (.int R.1)) (e_ov (kM o) (wM G b o R.2.1 R.2.2.1 R.2.2.2.1 R.2.2.2.2.1 a_images a_isKept a_tape R.2.2.2.2.2.1 v_from v_to v_sort v_worth v_fault v_bad v_nClauses a_nClause v_nCode a_nOp a_nArg v_nLeaves a_pile a_pileAt v_piled v_opened a_words a_headWords v_law a_set a_rest v_broken v_value v_sum a_chances a_votes a_costs a_table a_prices v_surely a_mostBy a_leastBy v_between v_steadyWays R.2.2.2.2.2.2 v_but a_figures a_all a_lies a_since v_last v_state) c0) n) 0 0) 104 [(0, .ref (b + o)), (1, .int x1), (2, .int x2), (3, .int x3)] [.int s0] (e_ov (kM o) (wM G b o v_thrown v_status a_refusals a_row a_images a_isKept a_tape v_taped v_from v_to v_sort v_worth v_fault v_bad v_nClauses a_nClause v_nCode a_nOp a_nArg v_nLeaves a_pile a_pileAt v_piled v_opened a_words a_headWords v_law a_set a_rest v_broken v_value v_sum a_chances a_votes a_costs a_table a_prices v_surely a_mostBy a_leastBy v_between v_steadyWays v_quashed v_but a_figures a_all a_lies a_since v_last v_state) c0) n 0 0 := by
  unfold fX12_row_L104 at hf
  refine E.istore (lv' := [(4, .int s0), (0, .ref (b + o)), (1, .int x1), (2, .int x2), (3, .int x3)]) dX12_row_104 (by decide) rfl ?_
  refine E.iload 0 dX12_row_106 rfl ?_
  refine E.if_eq dX12_row_108 (fun h => ?_) (fun h => ?_)
  · have hf := e_ift hf h
    refine E.aload_n 1 dX12_row_143 rfl ?_
    refine E.dup dX12_row_144 rfl ?_
    refine E.get hw 0 o dX12_row_145 flX12_457 rfl rfl rfl rfl ?_
    refine E.iconst (v := 1) dX12_row_148 (by decide) ?_
    refine E.iadd dX12_row_149 ?_
    refine E.put (es' := (wM G b o v_thrown v_status a_refusals a_row a_images a_isKept a_tape v_taped v_from v_to v_sort v_worth v_fault v_bad v_nClauses a_nClause v_nCode a_nOp a_nArg v_nLeaves a_pile a_pileAt v_piled v_opened a_words a_headWords v_law a_set a_rest v_broken v_value v_sum a_chances a_votes a_costs a_table a_prices v_surely a_mostBy a_leastBy v_between v_steadyWays (v_quashed + 1) v_but a_figures a_all a_lies a_since v_last v_state)) hw 0 o dX12_row_150 flX12_457 ftX12 rfl rfl rfl rfl rfl rfl (Nat.le_of_ble_eq_true rfl) rfl ?_
    refine E.iinc (q := 4) (v := (x3 + 3)) (lv' := [(3, .int (x3 + 3)), (4, .int s0), (0, .ref (b + o)), (1, .int x1), (2, .int x2)]) dX12_row_153 rfl rfl (by decide) rfl ?_
    refine E.goto dX12_row_156 ?_
    refine E.locals [2, 3, 4, 0] rfl ?_
    exact hk35 hf
  · have hf := e_iff hf h
    refine E.aload_n 1 dX12_row_111 rfl ?_
    refine E.aload_n 1 dX12_row_112 rfl ?_
    refine E.get hw 0 o dX12_row_113 flX12_23 rfl rfl rfl rfl ?_
    refine E.iload_n 4 dX12_row_116 rfl ?_
    obtain ⟨g8, hf⟩ := gd_some hf
    refine E.iald hw 5 (o + 5) dX12_row_117 rfl rfl g8 ?_
    refine E.aload_n 1 dX12_row_118 rfl ?_
    refine E.get hw 0 o dX12_row_119 flX12_23 rfl rfl rfl rfl ?_
    refine E.iload_n 4 dX12_row_122 rfl ?_
    refine E.iconst (v := 1) dX12_row_123 (by decide) ?_
    refine E.iadd dX12_row_124 ?_
    obtain ⟨g9, hf⟩ := gd_some hf
    refine E.iald hw 5 (o + 5) dX12_row_125 rfl rfl g9 ?_
    refine E.aload_n 1 dX12_row_126 rfl ?_
    refine E.get hw 0 o dX12_row_127 flX12_23 rfl rfl rfl rfl ?_
    refine E.iload_n 4 dX12_row_130 rfl ?_
    refine E.iconst (v := 2) dX12_row_131 (by decide) ?_
    refine E.iadd dX12_row_132 ?_
    obtain ⟨g10, hf⟩ := gd_some hf
    refine E.iald hw 5 (o + 5) dX12_row_133 rfl rfl g10 ?_
    obtain ⟨r11, hc11, hf⟩ := e_bind hf
    refine E.callVD [] dX12_row_134 mlX12_454 ⟨hw.sub (p := 0) rfl, e_ov_get hw.1 (p := 0) rfl rfl⟩ rfl rfl (mX12_addCase hw hc11) ⟨Nat.le_of_ble_eq_true rfl, Nat.le_of_ble_eq_true rfl⟩ rfl rfl (Nat.le_of_ble_eq_true rfl) ⟨Nat.le_refl _, Nat.le_refl _⟩ rfl ?_
    refine E.iinc (q := 3) (v := (x2 + 1)) (lv' := [(2, .int (x2 + 1)), (4, .int s0), (0, .ref (b + o)), (1, .int x1), (3, .int x3)]) dX12_row_137 rfl rfl (by decide) rfl ?_
    refine E.goto dX12_row_140 ?_
    refine E.iinc (q := 4) (v := (x3 + 3)) (lv' := [(3, .int (x3 + 3)), (2, .int (x2 + 1)), (4, .int s0), (0, .ref (b + o)), (1, .int x1)]) dX12_row_153 rfl rfl (by decide) rfl ?_
    refine E.goto dX12_row_156 ?_
    refine E.locals [3, 4, 1, 0] rfl ?_
    exact hk35 hf
def fX12_row_L103 (Fu : Nat) (k35 : Int32 → Int32 → (Nat → Int32) → (Nat → Int32) → (Nat → Int32) → Int32 → Int32 → Int32 → Int32 → Int32 → Option (Int32 × Int32 × Int32 × (Nat → Int32) × (Nat → Int32) × Int32 × Int32)) (v_thrown : Int32) (v_status : Int32) (a_refusals : Nat → Int32) (a_row : Nat → Int32) (a_tape : Nat → Int32) (v_taped : Int32) (v_quashed : Int32) (x1 : Int32) (x2 : Int32) (x3 : Int32) : Option (Int32 × Int32 × Int32 × (Nat → Int32) × (Nat → Int32) × Int32 × Int32) := fX12_row_L104 Fu k35 v_thrown v_status a_refusals a_row a_tape v_taped v_quashed x1 x2 x3 0
set_option maxHeartbeats 4000000 in
set_option maxRecDepth 100000 in
theorem tX12_row_L103 {G : GT} {b : Nat} {o : Nat} {c0 : Hp} {n : Nat} (hw : e_wf (kM o) n) {a_images : Nat → Int32} {a_isKept : Nat → Int32} {v_from : Int32} {v_to : Int32} {v_sort : Int32} {v_worth : Int64} {v_fault : Int32} {v_bad : Int32} {v_nClauses : Int32} {a_nClause : Nat → Int32} {v_nCode : Int32} {a_nOp : Nat → Int32} {a_nArg : Nat → Int32} {v_nLeaves : Int32} {a_pile : Nat → Int32} {a_pileAt : Nat → Int32} {v_piled : Int32} {v_opened : Int32} {a_words : Nat → Int64} {a_headWords : Nat → Int64} {v_law : Int32} {a_set : Nat → Int64} {a_rest : Nat → Int64} {v_broken : Int32} {v_value : Int64} {v_sum : Int64} {a_chances : Nat → Int32} {a_votes : Nat → Int64} {a_costs : Nat → Int32} {a_table : Nat → Int64} {a_prices : Nat → Int32} {v_surely : Int64} {a_mostBy : Nat → Int64} {a_leastBy : Nat → Int64} {v_between : Int64} {v_steadyWays : Int32} {v_but : Int32} {a_figures : Nat → Int32} {a_all : Nat → Int32} {a_lies : Nat → Int32} {a_since : Nat → Int32} {v_last : Int32} {v_state : Int64} {Fu : Nat} {k35 : Int32 → Int32 → (Nat → Int32) → (Nat → Int32) → (Nat → Int32) → Int32 → Int32 → Int32 → Int32 → Int32 → Option (Int32 × Int32 × Int32 × (Nat → Int32) × (Nat → Int32) × Int32 × Int32)} (hk35 : ∀ {v_thrown : Int32} {v_status : Int32} {a_refusals : Nat → Int32} {a_row : Nat → Int32} {a_tape : Nat → Int32} {v_taped : Int32} {v_quashed : Int32} {x1 : Int32} {x2 : Int32} {x3 : Int32} {R : Int32 × Int32 × Int32 × (Nat → Int32) × (Nat → Int32) × Int32 × Int32}, k35 v_thrown v_status a_refusals a_row a_tape v_taped v_quashed x1 x2 x3 = some R → E G b yX12_row cX12_row 5 (some .int) (e_rm 3 0 0) e_X0 (e_Z G b (pD (some (.int R.1)) (e_ov (kM o) (wM G b o R.2.1 R.2.2.1 R.2.2.2.1 R.2.2.2.2.1 a_images a_isKept a_tape R.2.2.2.2.2.1 v_from v_to v_sort v_worth v_fault v_bad v_nClauses a_nClause v_nCode a_nOp a_nArg v_nLeaves a_pile a_pileAt v_piled v_opened a_words a_headWords v_law a_set a_rest v_broken v_value v_sum a_chances a_votes a_costs a_table a_prices v_surely a_mostBy a_leastBy v_between v_steadyWays R.2.2.2.2.2.2 v_but a_figures a_all a_lies a_since v_last v_state) c0) n) 0 0) 35 [(0, .ref (b + o)), (1, .int x1), (2, .int x2), (3, .int x3)] [] (e_ov (kM o) (wM G b o v_thrown v_status a_refusals a_row a_images a_isKept a_tape v_taped v_from v_to v_sort v_worth v_fault v_bad v_nClauses a_nClause v_nCode a_nOp a_nArg v_nLeaves a_pile a_pileAt v_piled v_opened a_words a_headWords v_law a_set a_rest v_broken v_value v_sum a_chances a_votes a_costs a_table a_prices v_surely a_mostBy a_leastBy v_between v_steadyWays v_quashed v_but a_figures a_all a_lies a_since v_last v_state) c0) n 0 0) {v_thrown : Int32} {v_status : Int32} {a_refusals : Nat → Int32} {a_row : Nat → Int32} {a_tape : Nat → Int32} {v_taped : Int32} {v_quashed : Int32} {x1 : Int32} {x2 : Int32} {x3 : Int32} {R : Int32 × Int32 × Int32 × (Nat → Int32) × (Nat → Int32) × Int32 × Int32} (hf : fX12_row_L103 Fu k35 v_thrown v_status a_refusals a_row a_tape v_taped v_quashed x1 x2 x3 = some R) : E G b yX12_row cX12_row 5 (some .int) (e_rm 3 0 0) e_X0 (e_Z G b (pD (some (.int R.1)) (e_ov (kM o) (wM G b o R.2.1 R.2.2.1 R.2.2.2.1 R.2.2.2.2.1 a_images a_isKept a_tape R.2.2.2.2.2.1 v_from v_to v_sort v_worth v_fault v_bad v_nClauses a_nClause v_nCode a_nOp a_nArg v_nLeaves a_pile a_pileAt v_piled v_opened a_words a_headWords v_law a_set a_rest v_broken v_value v_sum a_chances a_votes a_costs a_table a_prices v_surely a_mostBy a_leastBy v_between v_steadyWays R.2.2.2.2.2.2 v_but a_figures a_all a_lies a_since v_last v_state) c0) n) 0 0) 103 [(0, .ref (b + o)), (1, .int x1), (2, .int x2), (3, .int x3)] [] (e_ov (kM o) (wM G b o v_thrown v_status a_refusals a_row a_images a_isKept a_tape v_taped v_from v_to v_sort v_worth v_fault v_bad v_nClauses a_nClause v_nCode a_nOp a_nArg v_nLeaves a_pile a_pileAt v_piled v_opened a_words a_headWords v_law a_set a_rest v_broken v_value v_sum a_chances a_votes a_costs a_table a_prices v_surely a_mostBy a_leastBy v_between v_steadyWays v_quashed v_but a_figures a_all a_lies a_since v_last v_state) c0) n 0 0 := by
  unfold fX12_row_L103 at hf
  refine E.iconst (v := 0) dX12_row_103 (by decide) ?_
  exact tX12_row_L104 hw hk35 hf
def fX12_row_L64 (Fu : Nat) (k35 : Int32 → Int32 → (Nat → Int32) → (Nat → Int32) → (Nat → Int32) → Int32 → Int32 → Int32 → Int32 → Int32 → Option (Int32 × Int32 × Int32 × (Nat → Int32) × (Nat → Int32) × Int32 × Int32)) (v_thrown : Int32) (v_status : Int32) (a_refusals : Nat → Int32) (a_row : Nat → Int32) (a_tape : Nat → Int32) (v_taped : Int32) (v_quashed : Int32) (x1 : Int32) (x2 : Int32) (x3 : Int32) (s0 : Int32) : Option (Int32 × Int32 × Int32 × (Nat → Int32) × (Nat → Int32) × Int32 × Int32) := if (s0 : Int32) = 0 then (fX12_row_L103 Fu k35 v_thrown v_status a_refusals a_row a_tape v_taped v_quashed x1 x2 x3) else (gd x3 400 (gd (x3 + 1) 400 (gd (x3 + 2) 400 ((fX12_isCase (a_tape (x3 : Int32).toNatClampNeg) (a_tape ((x3 + 1) : Int32).toNatClampNeg) (a_tape ((x3 + 2) : Int32).toNatClampNeg)).bind fun r7 => (if (r7 : Int32) = 0 then (fX12_row_L103 Fu k35 v_thrown v_status a_refusals a_row a_tape v_taped v_quashed x1 x2 x3) else (fX12_row_L104 Fu k35 v_thrown v_status a_refusals a_row a_tape v_taped v_quashed x1 x2 x3 1))))))
set_option maxHeartbeats 4000000 in
set_option maxRecDepth 100000 in
theorem tX12_row_L64 {G : GT} {b : Nat} {o : Nat} {c0 : Hp} {n : Nat} (hw : e_wf (kM o) n) {a_images : Nat → Int32} {a_isKept : Nat → Int32} {v_from : Int32} {v_to : Int32} {v_sort : Int32} {v_worth : Int64} {v_fault : Int32} {v_bad : Int32} {v_nClauses : Int32} {a_nClause : Nat → Int32} {v_nCode : Int32} {a_nOp : Nat → Int32} {a_nArg : Nat → Int32} {v_nLeaves : Int32} {a_pile : Nat → Int32} {a_pileAt : Nat → Int32} {v_piled : Int32} {v_opened : Int32} {a_words : Nat → Int64} {a_headWords : Nat → Int64} {v_law : Int32} {a_set : Nat → Int64} {a_rest : Nat → Int64} {v_broken : Int32} {v_value : Int64} {v_sum : Int64} {a_chances : Nat → Int32} {a_votes : Nat → Int64} {a_costs : Nat → Int32} {a_table : Nat → Int64} {a_prices : Nat → Int32} {v_surely : Int64} {a_mostBy : Nat → Int64} {a_leastBy : Nat → Int64} {v_between : Int64} {v_steadyWays : Int32} {v_but : Int32} {a_figures : Nat → Int32} {a_all : Nat → Int32} {a_lies : Nat → Int32} {a_since : Nat → Int32} {v_last : Int32} {v_state : Int64} {Fu : Nat} {k35 : Int32 → Int32 → (Nat → Int32) → (Nat → Int32) → (Nat → Int32) → Int32 → Int32 → Int32 → Int32 → Int32 → Option (Int32 × Int32 × Int32 × (Nat → Int32) × (Nat → Int32) × Int32 × Int32)} (hk35 : ∀ {v_thrown : Int32} {v_status : Int32} {a_refusals : Nat → Int32} {a_row : Nat → Int32} {a_tape : Nat → Int32} {v_taped : Int32} {v_quashed : Int32} {x1 : Int32} {x2 : Int32} {x3 : Int32} {R : Int32 × Int32 × Int32 × (Nat → Int32) × (Nat → Int32) × Int32 × Int32}, k35 v_thrown v_status a_refusals a_row a_tape v_taped v_quashed x1 x2 x3 = some R → E G b yX12_row cX12_row 5 (some .int) (e_rm 3 0 0) e_X0 (e_Z G b (pD (some (.int R.1)) (e_ov (kM o) (wM G b o R.2.1 R.2.2.1 R.2.2.2.1 R.2.2.2.2.1 a_images a_isKept a_tape R.2.2.2.2.2.1 v_from v_to v_sort v_worth v_fault v_bad v_nClauses a_nClause v_nCode a_nOp a_nArg v_nLeaves a_pile a_pileAt v_piled v_opened a_words a_headWords v_law a_set a_rest v_broken v_value v_sum a_chances a_votes a_costs a_table a_prices v_surely a_mostBy a_leastBy v_between v_steadyWays R.2.2.2.2.2.2 v_but a_figures a_all a_lies a_since v_last v_state) c0) n) 0 0) 35 [(0, .ref (b + o)), (1, .int x1), (2, .int x2), (3, .int x3)] [] (e_ov (kM o) (wM G b o v_thrown v_status a_refusals a_row a_images a_isKept a_tape v_taped v_from v_to v_sort v_worth v_fault v_bad v_nClauses a_nClause v_nCode a_nOp a_nArg v_nLeaves a_pile a_pileAt v_piled v_opened a_words a_headWords v_law a_set a_rest v_broken v_value v_sum a_chances a_votes a_costs a_table a_prices v_surely a_mostBy a_leastBy v_between v_steadyWays v_quashed v_but a_figures a_all a_lies a_since v_last v_state) c0) n 0 0) {v_thrown : Int32} {v_status : Int32} {a_refusals : Nat → Int32} {a_row : Nat → Int32} {a_tape : Nat → Int32} {v_taped : Int32} {v_quashed : Int32} {x1 : Int32} {x2 : Int32} {x3 : Int32} {s0 : Int32} {R : Int32 × Int32 × Int32 × (Nat → Int32) × (Nat → Int32) × Int32 × Int32} (hf : fX12_row_L64 Fu k35 v_thrown v_status a_refusals a_row a_tape v_taped v_quashed x1 x2 x3 s0 = some R) : E G b yX12_row cX12_row 5 (some .int) (e_rm 3 0 0) e_X0 (e_Z G b (pD (some (.int R.1)) (e_ov (kM o) (wM G b o R.2.1 R.2.2.1 R.2.2.2.1 R.2.2.2.2.1 a_images a_isKept a_tape R.2.2.2.2.2.1 v_from v_to v_sort v_worth v_fault v_bad v_nClauses a_nClause v_nCode a_nOp a_nArg v_nLeaves a_pile a_pileAt v_piled v_opened a_words a_headWords v_law a_set a_rest v_broken v_value v_sum a_chances a_votes a_costs a_table a_prices v_surely a_mostBy a_leastBy v_between v_steadyWays R.2.2.2.2.2.2 v_but a_figures a_all a_lies a_since v_last v_state) c0) n) 0 0) 64 [(0, .ref (b + o)), (1, .int x1), (2, .int x2), (3, .int x3)] [.int s0] (e_ov (kM o) (wM G b o v_thrown v_status a_refusals a_row a_images a_isKept a_tape v_taped v_from v_to v_sort v_worth v_fault v_bad v_nClauses a_nClause v_nCode a_nOp a_nArg v_nLeaves a_pile a_pileAt v_piled v_opened a_words a_headWords v_law a_set a_rest v_broken v_value v_sum a_chances a_votes a_costs a_table a_prices v_surely a_mostBy a_leastBy v_between v_steadyWays v_quashed v_but a_figures a_all a_lies a_since v_last v_state) c0) n 0 0 := by
  unfold fX12_row_L64 at hf
  refine E.istore (lv' := [(4, .int s0), (0, .ref (b + o)), (1, .int x1), (2, .int x2), (3, .int x3)]) dX12_row_64 (by decide) rfl ?_
  refine E.iload 0 dX12_row_66 rfl ?_
  refine E.if_eq dX12_row_68 (fun h => ?_) (fun h => ?_)
  · have hf := e_ift hf h
    refine E.locals [1, 2, 3, 4] rfl ?_
    exact tX12_row_L103 hw hk35 hf
  · have hf := e_iff hf h
    refine E.aload_n 1 dX12_row_71 rfl ?_
    refine E.get hw 0 o dX12_row_72 flX12_23 rfl rfl rfl rfl ?_
    refine E.iload_n 4 dX12_row_75 rfl ?_
    obtain ⟨g4, hf⟩ := gd_some hf
    refine E.iald hw 5 (o + 5) dX12_row_76 rfl rfl g4 ?_
    refine E.aload_n 1 dX12_row_77 rfl ?_
    refine E.get hw 0 o dX12_row_78 flX12_23 rfl rfl rfl rfl ?_
    refine E.iload_n 4 dX12_row_81 rfl ?_
    refine E.iconst (v := 1) dX12_row_82 (by decide) ?_
    refine E.iadd dX12_row_83 ?_
    obtain ⟨g5, hf⟩ := gd_some hf
    refine E.iald hw 5 (o + 5) dX12_row_84 rfl rfl g5 ?_
    refine E.aload_n 1 dX12_row_85 rfl ?_
    refine E.get hw 0 o dX12_row_86 flX12_23 rfl rfl rfl rfl ?_
    refine E.iload_n 4 dX12_row_89 rfl ?_
    refine E.iconst (v := 2) dX12_row_90 (by decide) ?_
    refine E.iadd dX12_row_91 ?_
    obtain ⟨g6, hf⟩ := gd_some hf
    refine E.iald hw 5 (o + 5) dX12_row_92 rfl rfl g6 ?_
    obtain ⟨r7, hc7, hf⟩ := e_bind hf
    refine E.callSD [] dX12_row_93 mlX12_451 (mX12_isCase hc7) ⟨Nat.le_of_ble_eq_true rfl, Nat.le_of_ble_eq_true rfl⟩ rfl rfl (Nat.le_of_ble_eq_true rfl) ⟨Nat.le_refl _, Nat.le_refl _⟩ rfl ?_
    refine E.if_eq dX12_row_96 (fun h => ?_) (fun h => ?_)
    · have hf := e_ift hf h
      refine E.locals [1, 2, 3, 4] rfl ?_
      exact tX12_row_L103 hw hk35 hf
    · have hf := e_iff hf h
      refine E.iconst (v := 1) dX12_row_99 (by decide) ?_
      refine E.goto dX12_row_100 ?_
      refine E.locals [1, 2, 3, 4] rfl ?_
      exact tX12_row_L104 hw hk35 hf
def fX12_row_L63 (Fu : Nat) (k35 : Int32 → Int32 → (Nat → Int32) → (Nat → Int32) → (Nat → Int32) → Int32 → Int32 → Int32 → Int32 → Int32 → Option (Int32 × Int32 × Int32 × (Nat → Int32) × (Nat → Int32) × Int32 × Int32)) (v_thrown : Int32) (v_status : Int32) (a_refusals : Nat → Int32) (a_row : Nat → Int32) (a_tape : Nat → Int32) (v_taped : Int32) (v_quashed : Int32) (x1 : Int32) (x2 : Int32) (x3 : Int32) : Option (Int32 × Int32 × Int32 × (Nat → Int32) × (Nat → Int32) × Int32 × Int32) := fX12_row_L64 Fu k35 v_thrown v_status a_refusals a_row a_tape v_taped v_quashed x1 x2 x3 0
set_option maxHeartbeats 4000000 in
set_option maxRecDepth 100000 in
theorem tX12_row_L63 {G : GT} {b : Nat} {o : Nat} {c0 : Hp} {n : Nat} (hw : e_wf (kM o) n) {a_images : Nat → Int32} {a_isKept : Nat → Int32} {v_from : Int32} {v_to : Int32} {v_sort : Int32} {v_worth : Int64} {v_fault : Int32} {v_bad : Int32} {v_nClauses : Int32} {a_nClause : Nat → Int32} {v_nCode : Int32} {a_nOp : Nat → Int32} {a_nArg : Nat → Int32} {v_nLeaves : Int32} {a_pile : Nat → Int32} {a_pileAt : Nat → Int32} {v_piled : Int32} {v_opened : Int32} {a_words : Nat → Int64} {a_headWords : Nat → Int64} {v_law : Int32} {a_set : Nat → Int64} {a_rest : Nat → Int64} {v_broken : Int32} {v_value : Int64} {v_sum : Int64} {a_chances : Nat → Int32} {a_votes : Nat → Int64} {a_costs : Nat → Int32} {a_table : Nat → Int64} {a_prices : Nat → Int32} {v_surely : Int64} {a_mostBy : Nat → Int64} {a_leastBy : Nat → Int64} {v_between : Int64} {v_steadyWays : Int32} {v_but : Int32} {a_figures : Nat → Int32} {a_all : Nat → Int32} {a_lies : Nat → Int32} {a_since : Nat → Int32} {v_last : Int32} {v_state : Int64} {Fu : Nat} {k35 : Int32 → Int32 → (Nat → Int32) → (Nat → Int32) → (Nat → Int32) → Int32 → Int32 → Int32 → Int32 → Int32 → Option (Int32 × Int32 × Int32 × (Nat → Int32) × (Nat → Int32) × Int32 × Int32)} (hk35 : ∀ {v_thrown : Int32} {v_status : Int32} {a_refusals : Nat → Int32} {a_row : Nat → Int32} {a_tape : Nat → Int32} {v_taped : Int32} {v_quashed : Int32} {x1 : Int32} {x2 : Int32} {x3 : Int32} {R : Int32 × Int32 × Int32 × (Nat → Int32) × (Nat → Int32) × Int32 × Int32}, k35 v_thrown v_status a_refusals a_row a_tape v_taped v_quashed x1 x2 x3 = some R → E G b yX12_row cX12_row 5 (some .int) (e_rm 3 0 0) e_X0 (e_Z G b (pD (some (.int R.1)) (e_ov (kM o) (wM G b o R.2.1 R.2.2.1 R.2.2.2.1 R.2.2.2.2.1 a_images a_isKept a_tape R.2.2.2.2.2.1 v_from v_to v_sort v_worth v_fault v_bad v_nClauses a_nClause v_nCode a_nOp a_nArg v_nLeaves a_pile a_pileAt v_piled v_opened a_words a_headWords v_law a_set a_rest v_broken v_value v_sum a_chances a_votes a_costs a_table a_prices v_surely a_mostBy a_leastBy v_between v_steadyWays R.2.2.2.2.2.2 v_but a_figures a_all a_lies a_since v_last v_state) c0) n) 0 0) 35 [(0, .ref (b + o)), (1, .int x1), (2, .int x2), (3, .int x3)] [] (e_ov (kM o) (wM G b o v_thrown v_status a_refusals a_row a_images a_isKept a_tape v_taped v_from v_to v_sort v_worth v_fault v_bad v_nClauses a_nClause v_nCode a_nOp a_nArg v_nLeaves a_pile a_pileAt v_piled v_opened a_words a_headWords v_law a_set a_rest v_broken v_value v_sum a_chances a_votes a_costs a_table a_prices v_surely a_mostBy a_leastBy v_between v_steadyWays v_quashed v_but a_figures a_all a_lies a_since v_last v_state) c0) n 0 0) {v_thrown : Int32} {v_status : Int32} {a_refusals : Nat → Int32} {a_row : Nat → Int32} {a_tape : Nat → Int32} {v_taped : Int32} {v_quashed : Int32} {x1 : Int32} {x2 : Int32} {x3 : Int32} {R : Int32 × Int32 × Int32 × (Nat → Int32) × (Nat → Int32) × Int32 × Int32} (hf : fX12_row_L63 Fu k35 v_thrown v_status a_refusals a_row a_tape v_taped v_quashed x1 x2 x3 = some R) : E G b yX12_row cX12_row 5 (some .int) (e_rm 3 0 0) e_X0 (e_Z G b (pD (some (.int R.1)) (e_ov (kM o) (wM G b o R.2.1 R.2.2.1 R.2.2.2.1 R.2.2.2.2.1 a_images a_isKept a_tape R.2.2.2.2.2.1 v_from v_to v_sort v_worth v_fault v_bad v_nClauses a_nClause v_nCode a_nOp a_nArg v_nLeaves a_pile a_pileAt v_piled v_opened a_words a_headWords v_law a_set a_rest v_broken v_value v_sum a_chances a_votes a_costs a_table a_prices v_surely a_mostBy a_leastBy v_between v_steadyWays R.2.2.2.2.2.2 v_but a_figures a_all a_lies a_since v_last v_state) c0) n) 0 0) 63 [(0, .ref (b + o)), (1, .int x1), (2, .int x2), (3, .int x3)] [] (e_ov (kM o) (wM G b o v_thrown v_status a_refusals a_row a_images a_isKept a_tape v_taped v_from v_to v_sort v_worth v_fault v_bad v_nClauses a_nClause v_nCode a_nOp a_nArg v_nLeaves a_pile a_pileAt v_piled v_opened a_words a_headWords v_law a_set a_rest v_broken v_value v_sum a_chances a_votes a_costs a_table a_prices v_surely a_mostBy a_leastBy v_between v_steadyWays v_quashed v_but a_figures a_all a_lies a_since v_last v_state) c0) n 0 0 := by
  unfold fX12_row_L63 at hf
  refine E.iconst (v := 0) dX12_row_63 (by decide) ?_
  exact tX12_row_L64 hw hk35 hf
def fX12_row_L35 (Fu : Nat) : Nat → Int32 → Int32 → (Nat → Int32) → (Nat → Int32) → (Nat → Int32) → Int32 → Int32 → Int32 → Int32 → Int32 → Option (Int32 × Int32 × Int32 × (Nat → Int32) × (Nat → Int32) × Int32 × Int32)
  | 0, _, _, _, _, _, _, _, _, _, _ => none
  | k + 1, v_thrown, v_status, a_refusals, a_row, a_tape, v_taped, v_quashed, x1, x2, x3 => if (x1 : Int32) ≤ (x3 : Int32) then ((fX12_tell v_status a_refusals x2).bind fun r2 => (some (r2.1, v_thrown, r2.2.1, r2.2.2, a_row, v_taped, v_quashed))) else (if (x1 : Int32) ≤ ((x3 + 2) : Int32) then (fX12_row_L63 Fu (fX12_row_L35 Fu k) v_thrown v_status a_refusals a_row a_tape v_taped v_quashed x1 x2 x3) else (gd 11 5570 (if (20 : Int32) ≤ ((a_row (11 : Int32).toNatClampNeg) : Int32) then (fX12_row_L63 Fu (fX12_row_L35 Fu k) v_thrown v_status a_refusals a_row a_tape v_taped v_quashed x1 x2 x3) else (fX12_row_L64 Fu (fX12_row_L35 Fu k) v_thrown v_status a_refusals a_row a_tape v_taped v_quashed x1 x2 x3 1))))
set_option maxHeartbeats 4000000 in
set_option maxRecDepth 100000 in
theorem tX12_row_L35 {G : GT} {b : Nat} {o : Nat} {c0 : Hp} {n : Nat} (hw : e_wf (kM o) n) {a_images : Nat → Int32} {a_isKept : Nat → Int32} {v_from : Int32} {v_to : Int32} {v_sort : Int32} {v_worth : Int64} {v_fault : Int32} {v_bad : Int32} {v_nClauses : Int32} {a_nClause : Nat → Int32} {v_nCode : Int32} {a_nOp : Nat → Int32} {a_nArg : Nat → Int32} {v_nLeaves : Int32} {a_pile : Nat → Int32} {a_pileAt : Nat → Int32} {v_piled : Int32} {v_opened : Int32} {a_words : Nat → Int64} {a_headWords : Nat → Int64} {v_law : Int32} {a_set : Nat → Int64} {a_rest : Nat → Int64} {v_broken : Int32} {v_value : Int64} {v_sum : Int64} {a_chances : Nat → Int32} {a_votes : Nat → Int64} {a_costs : Nat → Int32} {a_table : Nat → Int64} {a_prices : Nat → Int32} {v_surely : Int64} {a_mostBy : Nat → Int64} {a_leastBy : Nat → Int64} {v_between : Int64} {v_steadyWays : Int32} {v_but : Int32} {a_figures : Nat → Int32} {a_all : Nat → Int32} {a_lies : Nat → Int32} {a_since : Nat → Int32} {v_last : Int32} {v_state : Int64} {Fu : Nat} : ∀ (k : Nat) {v_thrown : Int32} {v_status : Int32} {a_refusals : Nat → Int32} {a_row : Nat → Int32} {a_tape : Nat → Int32} {v_taped : Int32} {v_quashed : Int32} {x1 : Int32} {x2 : Int32} {x3 : Int32} {R : Int32 × Int32 × Int32 × (Nat → Int32) × (Nat → Int32) × Int32 × Int32}, fX12_row_L35 Fu k v_thrown v_status a_refusals a_row a_tape v_taped v_quashed x1 x2 x3 = some R → E G b yX12_row cX12_row 5 (some .int) (e_rm 3 0 0) e_X0 (e_Z G b (pD (some (.int R.1)) (e_ov (kM o) (wM G b o R.2.1 R.2.2.1 R.2.2.2.1 R.2.2.2.2.1 a_images a_isKept a_tape R.2.2.2.2.2.1 v_from v_to v_sort v_worth v_fault v_bad v_nClauses a_nClause v_nCode a_nOp a_nArg v_nLeaves a_pile a_pileAt v_piled v_opened a_words a_headWords v_law a_set a_rest v_broken v_value v_sum a_chances a_votes a_costs a_table a_prices v_surely a_mostBy a_leastBy v_between v_steadyWays R.2.2.2.2.2.2 v_but a_figures a_all a_lies a_since v_last v_state) c0) n) 0 0) 35 [(0, .ref (b + o)), (1, .int x1), (2, .int x2), (3, .int x3)] [] (e_ov (kM o) (wM G b o v_thrown v_status a_refusals a_row a_images a_isKept a_tape v_taped v_from v_to v_sort v_worth v_fault v_bad v_nClauses a_nClause v_nCode a_nOp a_nArg v_nLeaves a_pile a_pileAt v_piled v_opened a_words a_headWords v_law a_set a_rest v_broken v_value v_sum a_chances a_votes a_costs a_table a_prices v_surely a_mostBy a_leastBy v_between v_steadyWays v_quashed v_but a_figures a_all a_lies a_since v_last v_state) c0) n 0 0 := by
  intro k
  induction k with
  | zero =>
    intro _ _ _ _ _ _ _ _ _ _ _ hf
    have hf : (none : Option (Int32 × Int32 × Int32 × (Nat → Int32) × (Nat → Int32) × Int32 × Int32)) = some _ := hf
    cases hf
  | succ k ih =>
    intro v_thrown v_status a_refusals a_row a_tape v_taped v_quashed x1 x2 x3 R hf
    rw [fX12_row_L35] at hf
    refine E.iload_n 3 dX12_row_35 rfl ?_
    refine E.iload_n 1 dX12_row_36 rfl ?_
    refine E.icmp_ge dX12_row_37 (fun h => ?_) (fun h => ?_)
    · have hf := e_ift hf h
      refine E.aload_n 0 dX12_row_159 rfl ?_
      refine E.iload_n 2 dX12_row_160 rfl ?_
      obtain ⟨r2, hc2, hf⟩ := e_bind hf
      refine E.callVD [] dX12_row_161 mlX12_138 ⟨hw.sub (p := 0) rfl, e_ov_get hw.1 (p := 0) rfl rfl⟩ rfl rfl (mX12_tell hw hc2) ⟨Nat.le_of_ble_eq_true rfl, Nat.le_of_ble_eq_true rfl⟩ rfl rfl (Nat.le_of_ble_eq_true rfl) ⟨Nat.le_refl _, Nat.le_refl _⟩ rfl ?_
      cases hf
      exact E.iret dX12_row_164 (Nat.le_refl _) (Nat.le_refl _) (pD_rf _ _ _)
    · have hf := e_iff hf h
      refine E.iload_n 3 dX12_row_40 rfl ?_
      refine E.iconst (v := 2) dX12_row_41 (by decide) ?_
      refine E.iadd dX12_row_42 ?_
      refine E.iload_n 1 dX12_row_43 rfl ?_
      refine E.icmp_ge dX12_row_44 (fun h => ?_) (fun h => ?_)
      · have hf := e_ift hf h
        exact tX12_row_L63 hw ih hf
      · have hf := e_iff hf h
        refine E.aload_n 0 dX12_row_47 rfl ?_
        refine E.get hw 0 o dX12_row_48 flX12_13 rfl rfl rfl rfl ?_
        refine E.bipush (v := 11) dX12_row_51 (by decide) ?_
        obtain ⟨g3, hf⟩ := gd_some hf
        refine E.iald hw 2 (o + 2) dX12_row_53 rfl rfl g3 ?_
        refine E.bipush (v := 20) dX12_row_54 (by decide) ?_
        refine E.icmp_ge dX12_row_56 (fun h => ?_) (fun h => ?_)
        · have hf := e_ift hf h
          exact tX12_row_L63 hw ih hf
        · have hf := e_iff hf h
          refine E.iconst (v := 1) dX12_row_59 (by decide) ?_
          refine E.goto dX12_row_60 ?_
          exact tX12_row_L64 hw ih hf
def fX12_row (Fu : Nat) (v_thrown : Int32) (v_status : Int32) (a_refusals : Nat → Int32) (a_row : Nat → Int32) (a_tape : Nat → Int32) (v_taped : Int32) (v_quashed : Int32) : Option (Int32 × Int32 × Int32 × (Nat → Int32) × (Nat → Int32) × Int32 × Int32) := if (v_taped : Int32) = 0 then ((fX12_tell v_status a_refusals (-6 : Int32)).bind fun r1 => (some (r1.1, 0, r1.2.1, r1.2.2, a_row, 0, v_quashed))) else (fX12_row_L35 Fu Fu 0 v_status a_refusals a_row a_tape 0 0 v_taped 0 0)
set_option maxHeartbeats 4000000 in
set_option maxRecDepth 100000 in
theorem tX12_row {G : GT} {b : Nat} {o : Nat} {c0 : Hp} {n : Nat} (hw : e_wf (kM o) n) {a_images : Nat → Int32} {a_isKept : Nat → Int32} {v_from : Int32} {v_to : Int32} {v_sort : Int32} {v_worth : Int64} {v_fault : Int32} {v_bad : Int32} {v_nClauses : Int32} {a_nClause : Nat → Int32} {v_nCode : Int32} {a_nOp : Nat → Int32} {a_nArg : Nat → Int32} {v_nLeaves : Int32} {a_pile : Nat → Int32} {a_pileAt : Nat → Int32} {v_piled : Int32} {v_opened : Int32} {a_words : Nat → Int64} {a_headWords : Nat → Int64} {v_law : Int32} {a_set : Nat → Int64} {a_rest : Nat → Int64} {v_broken : Int32} {v_value : Int64} {v_sum : Int64} {a_chances : Nat → Int32} {a_votes : Nat → Int64} {a_costs : Nat → Int32} {a_table : Nat → Int64} {a_prices : Nat → Int32} {v_surely : Int64} {a_mostBy : Nat → Int64} {a_leastBy : Nat → Int64} {v_between : Int64} {v_steadyWays : Int32} {v_but : Int32} {a_figures : Nat → Int32} {a_all : Nat → Int32} {a_lies : Nat → Int32} {a_since : Nat → Int32} {v_last : Int32} {v_state : Int64} {Fu : Nat} {v_thrown : Int32} {v_status : Int32} {a_refusals : Nat → Int32} {a_row : Nat → Int32} {a_tape : Nat → Int32} {v_taped : Int32} {v_quashed : Int32} {R : Int32 × Int32 × Int32 × (Nat → Int32) × (Nat → Int32) × Int32 × Int32} (hf : fX12_row Fu v_thrown v_status a_refusals a_row a_tape v_taped v_quashed = some R) : E G b yX12_row cX12_row 5 (some .int) (e_rm 3 0 0) e_X0 (e_Z G b (pD (some (.int R.1)) (e_ov (kM o) (wM G b o R.2.1 R.2.2.1 R.2.2.2.1 R.2.2.2.2.1 a_images a_isKept a_tape R.2.2.2.2.2.1 v_from v_to v_sort v_worth v_fault v_bad v_nClauses a_nClause v_nCode a_nOp a_nArg v_nLeaves a_pile a_pileAt v_piled v_opened a_words a_headWords v_law a_set a_rest v_broken v_value v_sum a_chances a_votes a_costs a_table a_prices v_surely a_mostBy a_leastBy v_between v_steadyWays R.2.2.2.2.2.2 v_but a_figures a_all a_lies a_since v_last v_state) c0) n) 0 0) 0 [(0, .ref (b + o))] [] (e_ov (kM o) (wM G b o v_thrown v_status a_refusals a_row a_images a_isKept a_tape v_taped v_from v_to v_sort v_worth v_fault v_bad v_nClauses a_nClause v_nCode a_nOp a_nArg v_nLeaves a_pile a_pileAt v_piled v_opened a_words a_headWords v_law a_set a_rest v_broken v_value v_sum a_chances a_votes a_costs a_table a_prices v_surely a_mostBy a_leastBy v_between v_steadyWays v_quashed v_but a_figures a_all a_lies a_since v_last v_state) c0) n 0 0 := by
  unfold fX12_row at hf
  refine E.aload_n 0 dX12_row_0 rfl ?_
  refine E.iconst (v := 0) dX12_row_1 (by decide) ?_
  refine E.put (es' := (wM G b o 0 v_status a_refusals a_row a_images a_isKept a_tape v_taped v_from v_to v_sort v_worth v_fault v_bad v_nClauses a_nClause v_nCode a_nOp a_nArg v_nLeaves a_pile a_pileAt v_piled v_opened a_words a_headWords v_law a_set a_rest v_broken v_value v_sum a_chances a_votes a_costs a_table a_prices v_surely a_mostBy a_leastBy v_between v_steadyWays v_quashed v_but a_figures a_all a_lies a_since v_last v_state)) hw 0 o dX12_row_2 flX12_124 ftX12 rfl rfl rfl rfl rfl rfl (Nat.le_of_ble_eq_true rfl) rfl ?_
  refine E.aload_n 0 dX12_row_5 rfl ?_
  refine E.get hw 0 o dX12_row_6 flX12_184 rfl rfl rfl rfl ?_
  refine E.istore_n (lv' := [(1, .int v_taped), (0, .ref (b + o))]) dX12_row_9 (by decide) rfl ?_
  refine E.aload_n 1 dX12_row_10 rfl ?_
  refine E.iconst (v := 0) dX12_row_11 (by decide) ?_
  refine E.put (es' := (wM G b o 0 v_status a_refusals a_row a_images a_isKept a_tape 0 v_from v_to v_sort v_worth v_fault v_bad v_nClauses a_nClause v_nCode a_nOp a_nArg v_nLeaves a_pile a_pileAt v_piled v_opened a_words a_headWords v_law a_set a_rest v_broken v_value v_sum a_chances a_votes a_costs a_table a_prices v_surely a_mostBy a_leastBy v_between v_steadyWays v_quashed v_but a_figures a_all a_lies a_since v_last v_state)) hw 0 o dX12_row_12 flX12_184 ftX12 rfl rfl rfl rfl rfl rfl (Nat.le_of_ble_eq_true rfl) rfl ?_
  refine E.iload_n 0 dX12_row_15 rfl ?_
  refine E.if_ne dX12_row_16 (fun h => ?_) (fun h => ?_)
  · have hf := e_iff hf h
    refine E.aload_n 1 dX12_row_26 rfl ?_
    refine E.iconst (v := 0) dX12_row_27 (by decide) ?_
    refine E.put (es' := (wM G b o 0 v_status a_refusals a_row a_images a_isKept a_tape 0 v_from v_to v_sort v_worth v_fault v_bad v_nClauses a_nClause v_nCode a_nOp a_nArg v_nLeaves a_pile a_pileAt v_piled v_opened a_words a_headWords v_law a_set a_rest v_broken v_value v_sum a_chances a_votes a_costs a_table a_prices v_surely a_mostBy a_leastBy v_between v_steadyWays 0 v_but a_figures a_all a_lies a_since v_last v_state)) hw 0 o dX12_row_28 flX12_457 ftX12 rfl rfl rfl rfl rfl rfl (Nat.le_of_ble_eq_true rfl) rfl ?_
    refine E.iconst (v := 0) dX12_row_31 (by decide) ?_
    refine E.istore_n (lv' := [(2, .int 0), (1, .int v_taped), (0, .ref (b + o))]) dX12_row_32 (by decide) rfl ?_
    refine E.iconst (v := 0) dX12_row_33 (by decide) ?_
    refine E.istore_n (lv' := [(3, .int 0), (2, .int 0), (1, .int v_taped), (0, .ref (b + o))]) dX12_row_34 (by decide) rfl ?_
    refine E.locals [3, 2, 1, 0] rfl ?_
    exact tX12_row_L35 hw _ hf
  · have hf := e_ift hf h
    refine E.aload_n 1 dX12_row_19 rfl ?_
    refine E.bipush (v := -6) dX12_row_20 (by decide) ?_
    obtain ⟨r1, hc1, hf⟩ := e_bind hf
    refine E.callVD [] dX12_row_22 mlX12_138 ⟨hw.sub (p := 0) rfl, e_ov_get hw.1 (p := 0) rfl rfl⟩ rfl rfl (mX12_tell hw hc1) ⟨Nat.le_of_ble_eq_true rfl, Nat.le_of_ble_eq_true rfl⟩ rfl rfl (Nat.le_of_ble_eq_true rfl) ⟨Nat.le_refl _, Nat.le_refl _⟩ rfl ?_
    cases hf
    exact E.iret dX12_row_25 (Nat.le_refl _) (Nat.le_refl _) (pD_rf _ _ _)
set_option maxRecDepth 100000 in
theorem mX12_row {G : GT} {b : Nat} {o : Nat} {c0 : Hp} {n : Nat} (hw : e_wf (kM o) n) {a_images : Nat → Int32} {a_isKept : Nat → Int32} {v_from : Int32} {v_to : Int32} {v_sort : Int32} {v_worth : Int64} {v_fault : Int32} {v_bad : Int32} {v_nClauses : Int32} {a_nClause : Nat → Int32} {v_nCode : Int32} {a_nOp : Nat → Int32} {a_nArg : Nat → Int32} {v_nLeaves : Int32} {a_pile : Nat → Int32} {a_pileAt : Nat → Int32} {v_piled : Int32} {v_opened : Int32} {a_words : Nat → Int64} {a_headWords : Nat → Int64} {v_law : Int32} {a_set : Nat → Int64} {a_rest : Nat → Int64} {v_broken : Int32} {v_value : Int64} {v_sum : Int64} {a_chances : Nat → Int32} {a_votes : Nat → Int64} {a_costs : Nat → Int32} {a_table : Nat → Int64} {a_prices : Nat → Int32} {v_surely : Int64} {a_mostBy : Nat → Int64} {a_leastBy : Nat → Int64} {v_between : Int64} {v_steadyWays : Int32} {v_but : Int32} {a_figures : Nat → Int32} {a_all : Nat → Int32} {a_lies : Nat → Int32} {a_since : Nat → Int32} {v_last : Int32} {v_state : Int64} {Fu : Nat} {v_thrown : Int32} {v_status : Int32} {a_refusals : Nat → Int32} {a_row : Nat → Int32} {a_tape : Nat → Int32} {v_taped : Int32} {v_quashed : Int32} {R : Int32 × Int32 × Int32 × (Nat → Int32) × (Nat → Int32) × Int32 × Int32} (hf : fX12_row Fu v_thrown v_status a_refusals a_row a_tape v_taped v_quashed = some R) : e_C G b yX12_row cX12_row 5 (some .int) 3 0 0 [.ref (b + o)] (e_ov (kM o) (wM G b o v_thrown v_status a_refusals a_row a_images a_isKept a_tape v_taped v_from v_to v_sort v_worth v_fault v_bad v_nClauses a_nClause v_nCode a_nOp a_nArg v_nLeaves a_pile a_pileAt v_piled v_opened a_words a_headWords v_law a_set a_rest v_broken v_value v_sum a_chances a_votes a_costs a_table a_prices v_surely a_mostBy a_leastBy v_between v_steadyWays v_quashed v_but a_figures a_all a_lies a_since v_last v_state) c0) n (pD (some (.int R.1)) (e_ov (kM o) (wM G b o R.2.1 R.2.2.1 R.2.2.2.1 R.2.2.2.2.1 a_images a_isKept a_tape R.2.2.2.2.2.1 v_from v_to v_sort v_worth v_fault v_bad v_nClauses a_nClause v_nCode a_nOp a_nArg v_nLeaves a_pile a_pileAt v_piled v_opened a_words a_headWords v_law a_set a_rest v_broken v_value v_sum a_chances a_votes a_costs a_table a_prices v_surely a_mostBy a_leastBy v_between v_steadyWays R.2.2.2.2.2.2 v_but a_figures a_all a_lies a_since v_last v_state) c0) n) := e_C.of (by decide) (Nat.le_of_ble_eq_true rfl) (tX12_row hw hf)
def fX12_quashed (v_thrown : Int32) (v_quashed : Int32) : Option (Int32 × Int32) := some (v_quashed, 0)
set_option maxHeartbeats 4000000 in
set_option maxRecDepth 100000 in
theorem tX12_quashed {G : GT} {b : Nat} {o : Nat} {c0 : Hp} {n : Nat} (hw : e_wf (kM o) n) {v_status : Int32} {a_refusals : Nat → Int32} {a_row : Nat → Int32} {a_images : Nat → Int32} {a_isKept : Nat → Int32} {a_tape : Nat → Int32} {v_taped : Int32} {v_from : Int32} {v_to : Int32} {v_sort : Int32} {v_worth : Int64} {v_fault : Int32} {v_bad : Int32} {v_nClauses : Int32} {a_nClause : Nat → Int32} {v_nCode : Int32} {a_nOp : Nat → Int32} {a_nArg : Nat → Int32} {v_nLeaves : Int32} {a_pile : Nat → Int32} {a_pileAt : Nat → Int32} {v_piled : Int32} {v_opened : Int32} {a_words : Nat → Int64} {a_headWords : Nat → Int64} {v_law : Int32} {a_set : Nat → Int64} {a_rest : Nat → Int64} {v_broken : Int32} {v_value : Int64} {v_sum : Int64} {a_chances : Nat → Int32} {a_votes : Nat → Int64} {a_costs : Nat → Int32} {a_table : Nat → Int64} {a_prices : Nat → Int32} {v_surely : Int64} {a_mostBy : Nat → Int64} {a_leastBy : Nat → Int64} {v_between : Int64} {v_steadyWays : Int32} {v_but : Int32} {a_figures : Nat → Int32} {a_all : Nat → Int32} {a_lies : Nat → Int32} {a_since : Nat → Int32} {v_last : Int32} {v_state : Int64} {v_thrown : Int32} {v_quashed : Int32} {R : Int32 × Int32} (hf : fX12_quashed v_thrown v_quashed = some R) : E G b yX12_quashed cX12_quashed 1 (some .int) (e_rm 0 0 0) e_X0 (e_Z G b (pD (some (.int R.1)) (e_ov (kM o) (wM G b o R.2 v_status a_refusals a_row a_images a_isKept a_tape v_taped v_from v_to v_sort v_worth v_fault v_bad v_nClauses a_nClause v_nCode a_nOp a_nArg v_nLeaves a_pile a_pileAt v_piled v_opened a_words a_headWords v_law a_set a_rest v_broken v_value v_sum a_chances a_votes a_costs a_table a_prices v_surely a_mostBy a_leastBy v_between v_steadyWays v_quashed v_but a_figures a_all a_lies a_since v_last v_state) c0) n) 0 0) 0 [(0, .ref (b + o))] [] (e_ov (kM o) (wM G b o v_thrown v_status a_refusals a_row a_images a_isKept a_tape v_taped v_from v_to v_sort v_worth v_fault v_bad v_nClauses a_nClause v_nCode a_nOp a_nArg v_nLeaves a_pile a_pileAt v_piled v_opened a_words a_headWords v_law a_set a_rest v_broken v_value v_sum a_chances a_votes a_costs a_table a_prices v_surely a_mostBy a_leastBy v_between v_steadyWays v_quashed v_but a_figures a_all a_lies a_since v_last v_state) c0) n 0 0 := by
  unfold fX12_quashed at hf
  refine E.aload_n 0 dX12_quashed_0 rfl ?_
  refine E.iconst (v := 0) dX12_quashed_1 (by decide) ?_
  refine E.put (es' := (wM G b o 0 v_status a_refusals a_row a_images a_isKept a_tape v_taped v_from v_to v_sort v_worth v_fault v_bad v_nClauses a_nClause v_nCode a_nOp a_nArg v_nLeaves a_pile a_pileAt v_piled v_opened a_words a_headWords v_law a_set a_rest v_broken v_value v_sum a_chances a_votes a_costs a_table a_prices v_surely a_mostBy a_leastBy v_between v_steadyWays v_quashed v_but a_figures a_all a_lies a_since v_last v_state)) hw 0 o dX12_quashed_2 flX12_124 ftX12 rfl rfl rfl rfl rfl rfl (Nat.le_of_ble_eq_true rfl) rfl ?_
  refine E.aload_n 0 dX12_quashed_5 rfl ?_
  refine E.get hw 0 o dX12_quashed_6 flX12_457 rfl rfl rfl rfl ?_
  cases hf
  exact E.iret dX12_quashed_9 (Nat.le_refl _) (Nat.le_refl _) (pD_rf _ _ _)
set_option maxRecDepth 100000 in
theorem mX12_quashed {G : GT} {b : Nat} {o : Nat} {c0 : Hp} {n : Nat} (hw : e_wf (kM o) n) {v_status : Int32} {a_refusals : Nat → Int32} {a_row : Nat → Int32} {a_images : Nat → Int32} {a_isKept : Nat → Int32} {a_tape : Nat → Int32} {v_taped : Int32} {v_from : Int32} {v_to : Int32} {v_sort : Int32} {v_worth : Int64} {v_fault : Int32} {v_bad : Int32} {v_nClauses : Int32} {a_nClause : Nat → Int32} {v_nCode : Int32} {a_nOp : Nat → Int32} {a_nArg : Nat → Int32} {v_nLeaves : Int32} {a_pile : Nat → Int32} {a_pileAt : Nat → Int32} {v_piled : Int32} {v_opened : Int32} {a_words : Nat → Int64} {a_headWords : Nat → Int64} {v_law : Int32} {a_set : Nat → Int64} {a_rest : Nat → Int64} {v_broken : Int32} {v_value : Int64} {v_sum : Int64} {a_chances : Nat → Int32} {a_votes : Nat → Int64} {a_costs : Nat → Int32} {a_table : Nat → Int64} {a_prices : Nat → Int32} {v_surely : Int64} {a_mostBy : Nat → Int64} {a_leastBy : Nat → Int64} {v_between : Int64} {v_steadyWays : Int32} {v_but : Int32} {a_figures : Nat → Int32} {a_all : Nat → Int32} {a_lies : Nat → Int32} {a_since : Nat → Int32} {v_last : Int32} {v_state : Int64} {v_thrown : Int32} {v_quashed : Int32} {R : Int32 × Int32} (hf : fX12_quashed v_thrown v_quashed = some R) : e_C G b yX12_quashed cX12_quashed 1 (some .int) 0 0 0 [.ref (b + o)] (e_ov (kM o) (wM G b o v_thrown v_status a_refusals a_row a_images a_isKept a_tape v_taped v_from v_to v_sort v_worth v_fault v_bad v_nClauses a_nClause v_nCode a_nOp a_nArg v_nLeaves a_pile a_pileAt v_piled v_opened a_words a_headWords v_law a_set a_rest v_broken v_value v_sum a_chances a_votes a_costs a_table a_prices v_surely a_mostBy a_leastBy v_between v_steadyWays v_quashed v_but a_figures a_all a_lies a_since v_last v_state) c0) n (pD (some (.int R.1)) (e_ov (kM o) (wM G b o R.2 v_status a_refusals a_row a_images a_isKept a_tape v_taped v_from v_to v_sort v_worth v_fault v_bad v_nClauses a_nClause v_nCode a_nOp a_nArg v_nLeaves a_pile a_pileAt v_piled v_opened a_words a_headWords v_law a_set a_rest v_broken v_value v_sum a_chances a_votes a_costs a_table a_prices v_surely a_mostBy a_leastBy v_between v_steadyWays v_quashed v_but a_figures a_all a_lies a_since v_last v_state) c0) n) := e_C.of (by decide) (Nat.le_of_ble_eq_true rfl) (tX12_quashed hw hf)
def fX12_rightIn (a_row : Nat → Int32) (x1 : Int32) : Option (Int32) := gd ((110 + (3 * x1)) + 1) 5570 (gd ((110 + (3 * x1)) + 2) 5570 (gd (110 + (3 * x1)) 5570 (if ((a_row ((110 + (3 * x1)) : Int32).toNatClampNeg) : Int32) = 0 then (some ((a_row (((110 + (3 * x1)) + 2) : Int32).toNatClampNeg))) else (some (((a_row (((110 + (3 * x1)) + 1) : Int32).toNatClampNeg) &&& ((a_row (((110 + (3 * x1)) + 2) : Int32).toNatClampNeg) ^^^ (-1 : Int32))))))))
set_option maxHeartbeats 4000000 in
set_option maxRecDepth 100000 in
theorem tX12_rightIn {G : GT} {b : Nat} {o : Nat} {c0 : Hp} {n : Nat} (hw : e_wf (kM o) n) {v_thrown : Int32} {v_status : Int32} {a_refusals : Nat → Int32} {a_images : Nat → Int32} {a_isKept : Nat → Int32} {a_tape : Nat → Int32} {v_taped : Int32} {v_from : Int32} {v_to : Int32} {v_sort : Int32} {v_worth : Int64} {v_fault : Int32} {v_bad : Int32} {v_nClauses : Int32} {a_nClause : Nat → Int32} {v_nCode : Int32} {a_nOp : Nat → Int32} {a_nArg : Nat → Int32} {v_nLeaves : Int32} {a_pile : Nat → Int32} {a_pileAt : Nat → Int32} {v_piled : Int32} {v_opened : Int32} {a_words : Nat → Int64} {a_headWords : Nat → Int64} {v_law : Int32} {a_set : Nat → Int64} {a_rest : Nat → Int64} {v_broken : Int32} {v_value : Int64} {v_sum : Int64} {a_chances : Nat → Int32} {a_votes : Nat → Int64} {a_costs : Nat → Int32} {a_table : Nat → Int64} {a_prices : Nat → Int32} {v_surely : Int64} {a_mostBy : Nat → Int64} {a_leastBy : Nat → Int64} {v_between : Int64} {v_steadyWays : Int32} {v_quashed : Int32} {v_but : Int32} {a_figures : Nat → Int32} {a_all : Nat → Int32} {a_lies : Nat → Int32} {a_since : Nat → Int32} {v_last : Int32} {v_state : Int64} {a_row : Nat → Int32} {x1 : Int32} {R : Int32} (hf : fX12_rightIn a_row x1 = some R) : E G b yX12_rightIn cX12_rightIn 4 (some .int) (e_rm 0 0 0) e_X0 (e_Z G b (pD (some (.int R)) (e_ov (kM o) (wM G b o v_thrown v_status a_refusals a_row a_images a_isKept a_tape v_taped v_from v_to v_sort v_worth v_fault v_bad v_nClauses a_nClause v_nCode a_nOp a_nArg v_nLeaves a_pile a_pileAt v_piled v_opened a_words a_headWords v_law a_set a_rest v_broken v_value v_sum a_chances a_votes a_costs a_table a_prices v_surely a_mostBy a_leastBy v_between v_steadyWays v_quashed v_but a_figures a_all a_lies a_since v_last v_state) c0) n) 0 0) 0 [(0, .ref (b + o)), (1, .int x1)] [] (e_ov (kM o) (wM G b o v_thrown v_status a_refusals a_row a_images a_isKept a_tape v_taped v_from v_to v_sort v_worth v_fault v_bad v_nClauses a_nClause v_nCode a_nOp a_nArg v_nLeaves a_pile a_pileAt v_piled v_opened a_words a_headWords v_law a_set a_rest v_broken v_value v_sum a_chances a_votes a_costs a_table a_prices v_surely a_mostBy a_leastBy v_between v_steadyWays v_quashed v_but a_figures a_all a_lies a_since v_last v_state) c0) n 0 0 := by
  unfold fX12_rightIn at hf
  refine E.aload_n 0 dX12_rightIn_0 rfl ?_
  refine E.get hw 0 o dX12_rightIn_1 flX12_13 rfl rfl rfl rfl ?_
  refine E.bipush (v := 110) dX12_rightIn_4 (by decide) ?_
  refine E.iconst (v := 3) dX12_rightIn_6 (by decide) ?_
  refine E.iload_n 1 dX12_rightIn_7 rfl ?_
  refine E.imul dX12_rightIn_8 ?_
  refine E.iadd dX12_rightIn_9 ?_
  refine E.iconst (v := 1) dX12_rightIn_10 (by decide) ?_
  refine E.iadd dX12_rightIn_11 ?_
  obtain ⟨g1, hf⟩ := gd_some hf
  refine E.iald hw 2 (o + 2) dX12_rightIn_12 rfl rfl g1 ?_
  refine E.istore_n (lv' := [(2, .int (a_row (((110 + (3 * x1)) + 1) : Int32).toNatClampNeg)), (0, .ref (b + o)), (1, .int x1)]) dX12_rightIn_13 (by decide) rfl ?_
  refine E.aload_n 1 dX12_rightIn_14 rfl ?_
  refine E.get hw 0 o dX12_rightIn_15 flX12_13 rfl rfl rfl rfl ?_
  refine E.bipush (v := 110) dX12_rightIn_18 (by decide) ?_
  refine E.iconst (v := 3) dX12_rightIn_20 (by decide) ?_
  refine E.iload_n 2 dX12_rightIn_21 rfl ?_
  refine E.imul dX12_rightIn_22 ?_
  refine E.iadd dX12_rightIn_23 ?_
  refine E.iconst (v := 2) dX12_rightIn_24 (by decide) ?_
  refine E.iadd dX12_rightIn_25 ?_
  obtain ⟨g2, hf⟩ := gd_some hf
  refine E.iald hw 2 (o + 2) dX12_rightIn_26 rfl rfl g2 ?_
  refine E.istore_n (lv' := [(3, .int (a_row (((110 + (3 * x1)) + 2) : Int32).toNatClampNeg)), (2, .int (a_row (((110 + (3 * x1)) + 1) : Int32).toNatClampNeg)), (0, .ref (b + o)), (1, .int x1)]) dX12_rightIn_27 (by decide) rfl ?_
  refine E.aload_n 2 dX12_rightIn_28 rfl ?_
  refine E.get hw 0 o dX12_rightIn_29 flX12_13 rfl rfl rfl rfl ?_
  refine E.bipush (v := 110) dX12_rightIn_32 (by decide) ?_
  refine E.iconst (v := 3) dX12_rightIn_34 (by decide) ?_
  refine E.iload_n 3 dX12_rightIn_35 rfl ?_
  refine E.imul dX12_rightIn_36 ?_
  refine E.iadd dX12_rightIn_37 ?_
  obtain ⟨g3, hf⟩ := gd_some hf
  refine E.iald hw 2 (o + 2) dX12_rightIn_38 rfl rfl g3 ?_
  refine E.if_ne dX12_rightIn_39 (fun h => ?_) (fun h => ?_)
  · have hf := e_iff hf h
    refine E.iload_n 1 dX12_rightIn_46 rfl ?_
    refine E.iload_n 0 dX12_rightIn_47 rfl ?_
    refine E.iconst (v := -1) dX12_rightIn_48 (by decide) ?_
    refine E.ixor dX12_rightIn_49 ?_
    refine E.iand dX12_rightIn_50 ?_
    cases hf
    exact E.iret dX12_rightIn_51 (Nat.le_refl _) (Nat.le_refl _) (pD_rf _ _ _)
  · have hf := e_ift hf h
    refine E.iload_n 0 dX12_rightIn_42 rfl ?_
    refine E.goto dX12_rightIn_43 ?_
    cases hf
    exact E.iret dX12_rightIn_51 (Nat.le_refl _) (Nat.le_refl _) (pD_rf _ _ _)
set_option maxRecDepth 100000 in
theorem mX12_rightIn {G : GT} {b : Nat} {o : Nat} {c0 : Hp} {n : Nat} (hw : e_wf (kM o) n) {v_thrown : Int32} {v_status : Int32} {a_refusals : Nat → Int32} {a_images : Nat → Int32} {a_isKept : Nat → Int32} {a_tape : Nat → Int32} {v_taped : Int32} {v_from : Int32} {v_to : Int32} {v_sort : Int32} {v_worth : Int64} {v_fault : Int32} {v_bad : Int32} {v_nClauses : Int32} {a_nClause : Nat → Int32} {v_nCode : Int32} {a_nOp : Nat → Int32} {a_nArg : Nat → Int32} {v_nLeaves : Int32} {a_pile : Nat → Int32} {a_pileAt : Nat → Int32} {v_piled : Int32} {v_opened : Int32} {a_words : Nat → Int64} {a_headWords : Nat → Int64} {v_law : Int32} {a_set : Nat → Int64} {a_rest : Nat → Int64} {v_broken : Int32} {v_value : Int64} {v_sum : Int64} {a_chances : Nat → Int32} {a_votes : Nat → Int64} {a_costs : Nat → Int32} {a_table : Nat → Int64} {a_prices : Nat → Int32} {v_surely : Int64} {a_mostBy : Nat → Int64} {a_leastBy : Nat → Int64} {v_between : Int64} {v_steadyWays : Int32} {v_quashed : Int32} {v_but : Int32} {a_figures : Nat → Int32} {a_all : Nat → Int32} {a_lies : Nat → Int32} {a_since : Nat → Int32} {v_last : Int32} {v_state : Int64} {a_row : Nat → Int32} {x1 : Int32} {R : Int32} (hf : fX12_rightIn a_row x1 = some R) : e_C G b yX12_rightIn cX12_rightIn 4 (some .int) 0 0 0 [.ref (b + o), .int x1] (e_ov (kM o) (wM G b o v_thrown v_status a_refusals a_row a_images a_isKept a_tape v_taped v_from v_to v_sort v_worth v_fault v_bad v_nClauses a_nClause v_nCode a_nOp a_nArg v_nLeaves a_pile a_pileAt v_piled v_opened a_words a_headWords v_law a_set a_rest v_broken v_value v_sum a_chances a_votes a_costs a_table a_prices v_surely a_mostBy a_leastBy v_between v_steadyWays v_quashed v_but a_figures a_all a_lies a_since v_last v_state) c0) n (pD (some (.int R)) (e_ov (kM o) (wM G b o v_thrown v_status a_refusals a_row a_images a_isKept a_tape v_taped v_from v_to v_sort v_worth v_fault v_bad v_nClauses a_nClause v_nCode a_nOp a_nArg v_nLeaves a_pile a_pileAt v_piled v_opened a_words a_headWords v_law a_set a_rest v_broken v_value v_sum a_chances a_votes a_costs a_table a_prices v_surely a_mostBy a_leastBy v_between v_steadyWays v_quashed v_but a_figures a_all a_lies a_since v_last v_state) c0) n) := e_C.of (by decide) (Nat.le_of_ble_eq_true rfl) (tX12_rightIn hw hf)
def fX12_rights_L4 (Fu : Nat) : Nat → (Nat → Int32) → Int32 → Int32 → Int32 → Int32 → Option (Int32)
  | 0, _, _, _, _, _ => none
  | k + 1, a_row, v_but, x1, x2, x3 => gd 11 5570 (if ((a_row (11 : Int32).toNatClampNeg) : Int32) ≤ (x3 : Int32) then (some (x2)) else (if (x3 : Int32) = (v_but : Int32) then ((fX12_rights_L4 Fu k) a_row v_but x1 (x2 + 0) (x3 + 1)) else ((fX12_rightIn a_row x3).bind fun r2 => ((fX12_rights_L4 Fu k) a_row v_but x1 (x2 + ((r2 >>> (x1 &&& 31)) &&& 1)) (x3 + 1)))))
set_option maxHeartbeats 4000000 in
set_option maxRecDepth 100000 in
theorem tX12_rights_L4 {G : GT} {b : Nat} {o : Nat} {c0 : Hp} {n : Nat} (hw : e_wf (kM o) n) {v_thrown : Int32} {v_status : Int32} {a_refusals : Nat → Int32} {a_images : Nat → Int32} {a_isKept : Nat → Int32} {a_tape : Nat → Int32} {v_taped : Int32} {v_from : Int32} {v_to : Int32} {v_sort : Int32} {v_worth : Int64} {v_fault : Int32} {v_bad : Int32} {v_nClauses : Int32} {a_nClause : Nat → Int32} {v_nCode : Int32} {a_nOp : Nat → Int32} {a_nArg : Nat → Int32} {v_nLeaves : Int32} {a_pile : Nat → Int32} {a_pileAt : Nat → Int32} {v_piled : Int32} {v_opened : Int32} {a_words : Nat → Int64} {a_headWords : Nat → Int64} {v_law : Int32} {a_set : Nat → Int64} {a_rest : Nat → Int64} {v_broken : Int32} {v_value : Int64} {v_sum : Int64} {a_chances : Nat → Int32} {a_votes : Nat → Int64} {a_costs : Nat → Int32} {a_table : Nat → Int64} {a_prices : Nat → Int32} {v_surely : Int64} {a_mostBy : Nat → Int64} {a_leastBy : Nat → Int64} {v_between : Int64} {v_steadyWays : Int32} {v_quashed : Int32} {a_figures : Nat → Int32} {a_all : Nat → Int32} {a_lies : Nat → Int32} {a_since : Nat → Int32} {v_last : Int32} {v_state : Int64} {Fu : Nat} : ∀ (k : Nat) {a_row : Nat → Int32} {v_but : Int32} {x1 : Int32} {x2 : Int32} {x3 : Int32} {R : Int32}, fX12_rights_L4 Fu k a_row v_but x1 x2 x3 = some R → E G b yX12_rights cX12_rights 4 (some .int) (e_rm 1 0 0) e_X0 (e_Z G b (pD (some (.int R)) (e_ov (kM o) (wM G b o v_thrown v_status a_refusals a_row a_images a_isKept a_tape v_taped v_from v_to v_sort v_worth v_fault v_bad v_nClauses a_nClause v_nCode a_nOp a_nArg v_nLeaves a_pile a_pileAt v_piled v_opened a_words a_headWords v_law a_set a_rest v_broken v_value v_sum a_chances a_votes a_costs a_table a_prices v_surely a_mostBy a_leastBy v_between v_steadyWays v_quashed v_but a_figures a_all a_lies a_since v_last v_state) c0) n) 0 0) 4 [(0, .ref (b + o)), (1, .int x1), (2, .int x2), (3, .int x3)] [] (e_ov (kM o) (wM G b o v_thrown v_status a_refusals a_row a_images a_isKept a_tape v_taped v_from v_to v_sort v_worth v_fault v_bad v_nClauses a_nClause v_nCode a_nOp a_nArg v_nLeaves a_pile a_pileAt v_piled v_opened a_words a_headWords v_law a_set a_rest v_broken v_value v_sum a_chances a_votes a_costs a_table a_prices v_surely a_mostBy a_leastBy v_between v_steadyWays v_quashed v_but a_figures a_all a_lies a_since v_last v_state) c0) n 0 0 := by
  intro k
  induction k with
  | zero =>
    intro _ _ _ _ _ _ hf
    have hf : (none : Option (Int32)) = some _ := hf
    cases hf
  | succ k ih =>
    intro a_row v_but x1 x2 x3 R hf
    rw [fX12_rights_L4] at hf
    refine E.iload_n 3 dX12_rights_4 rfl ?_
    refine E.aload_n 0 dX12_rights_5 rfl ?_
    refine E.get hw 0 o dX12_rights_6 flX12_13 rfl rfl rfl rfl ?_
    refine E.bipush (v := 11) dX12_rights_9 (by decide) ?_
    obtain ⟨g1, hf⟩ := gd_some hf
    refine E.iald hw 2 (o + 2) dX12_rights_11 rfl rfl g1 ?_
    refine E.icmp_ge dX12_rights_12 (fun h => ?_) (fun h => ?_)
    · have hf := e_ift hf h
      refine E.iload_n 2 dX12_rights_45 rfl ?_
      cases hf
      exact E.iret dX12_rights_46 (Nat.le_refl _) (Nat.le_refl _) (pD_rf _ _ _)
    · have hf := e_iff hf h
      refine E.iload_n 2 dX12_rights_15 rfl ?_
      refine E.iload_n 3 dX12_rights_16 rfl ?_
      refine E.aload_n 0 dX12_rights_17 rfl ?_
      refine E.get hw 0 o dX12_rights_18 flX12_106 rfl rfl rfl rfl ?_
      refine E.icmp_ne dX12_rights_21 (fun h => ?_) (fun h => ?_)
      · have hf := e_iff hf h
        refine E.aload_n 0 dX12_rights_28 rfl ?_
        refine E.iload_n 3 dX12_rights_29 rfl ?_
        obtain ⟨r2, hc2, hf⟩ := e_bind hf
        refine E.callVD [.int x2] dX12_rights_30 mlX12_460 ⟨hw.sub (p := 0) rfl, e_ov_get hw.1 (p := 0) rfl rfl⟩ rfl rfl (mX12_rightIn hw hc2) ⟨Nat.le_of_ble_eq_true rfl, Nat.le_of_ble_eq_true rfl⟩ rfl rfl (Nat.le_of_ble_eq_true rfl) ⟨Nat.le_refl _, Nat.le_refl _⟩ rfl ?_
        refine E.iload_n 1 dX12_rights_33 rfl ?_
        refine E.ishr dX12_rights_34 ?_
        refine E.iconst (v := 1) dX12_rights_35 (by decide) ?_
        refine E.iand dX12_rights_36 ?_
        refine E.iadd dX12_rights_37 ?_
        refine E.istore_n (lv' := [(2, .int (x2 + ((r2 >>> (x1 &&& 31)) &&& 1))), (0, .ref (b + o)), (1, .int x1), (3, .int x3)]) dX12_rights_38 (by decide) rfl ?_
        refine E.iinc (q := 3) (v := (x3 + 1)) (lv' := [(3, .int (x3 + 1)), (2, .int (x2 + ((r2 >>> (x1 &&& 31)) &&& 1))), (0, .ref (b + o)), (1, .int x1)]) dX12_rights_39 rfl rfl (by decide) rfl ?_
        refine E.goto dX12_rights_42 ?_
        refine E.locals [2, 3, 1, 0] rfl ?_
        exact ih hf
      · have hf := e_ift hf h
        refine E.iconst (v := 0) dX12_rights_24 (by decide) ?_
        refine E.goto dX12_rights_25 ?_
        refine E.iadd dX12_rights_37 ?_
        refine E.istore_n (lv' := [(2, .int (x2 + 0)), (0, .ref (b + o)), (1, .int x1), (3, .int x3)]) dX12_rights_38 (by decide) rfl ?_
        refine E.iinc (q := 3) (v := (x3 + 1)) (lv' := [(3, .int (x3 + 1)), (2, .int (x2 + 0)), (0, .ref (b + o)), (1, .int x1)]) dX12_rights_39 rfl rfl (by decide) rfl ?_
        refine E.goto dX12_rights_42 ?_
        refine E.locals [2, 3, 1, 0] rfl ?_
        exact ih hf
def fX12_rights (Fu : Nat) (a_row : Nat → Int32) (v_but : Int32) (x1 : Int32) : Option (Int32) := fX12_rights_L4 Fu Fu a_row v_but x1 0 0
set_option maxHeartbeats 4000000 in
set_option maxRecDepth 100000 in
theorem tX12_rights {G : GT} {b : Nat} {o : Nat} {c0 : Hp} {n : Nat} (hw : e_wf (kM o) n) {v_thrown : Int32} {v_status : Int32} {a_refusals : Nat → Int32} {a_images : Nat → Int32} {a_isKept : Nat → Int32} {a_tape : Nat → Int32} {v_taped : Int32} {v_from : Int32} {v_to : Int32} {v_sort : Int32} {v_worth : Int64} {v_fault : Int32} {v_bad : Int32} {v_nClauses : Int32} {a_nClause : Nat → Int32} {v_nCode : Int32} {a_nOp : Nat → Int32} {a_nArg : Nat → Int32} {v_nLeaves : Int32} {a_pile : Nat → Int32} {a_pileAt : Nat → Int32} {v_piled : Int32} {v_opened : Int32} {a_words : Nat → Int64} {a_headWords : Nat → Int64} {v_law : Int32} {a_set : Nat → Int64} {a_rest : Nat → Int64} {v_broken : Int32} {v_value : Int64} {v_sum : Int64} {a_chances : Nat → Int32} {a_votes : Nat → Int64} {a_costs : Nat → Int32} {a_table : Nat → Int64} {a_prices : Nat → Int32} {v_surely : Int64} {a_mostBy : Nat → Int64} {a_leastBy : Nat → Int64} {v_between : Int64} {v_steadyWays : Int32} {v_quashed : Int32} {a_figures : Nat → Int32} {a_all : Nat → Int32} {a_lies : Nat → Int32} {a_since : Nat → Int32} {v_last : Int32} {v_state : Int64} {Fu : Nat} {a_row : Nat → Int32} {v_but : Int32} {x1 : Int32} {R : Int32} (hf : fX12_rights Fu a_row v_but x1 = some R) : E G b yX12_rights cX12_rights 4 (some .int) (e_rm 1 0 0) e_X0 (e_Z G b (pD (some (.int R)) (e_ov (kM o) (wM G b o v_thrown v_status a_refusals a_row a_images a_isKept a_tape v_taped v_from v_to v_sort v_worth v_fault v_bad v_nClauses a_nClause v_nCode a_nOp a_nArg v_nLeaves a_pile a_pileAt v_piled v_opened a_words a_headWords v_law a_set a_rest v_broken v_value v_sum a_chances a_votes a_costs a_table a_prices v_surely a_mostBy a_leastBy v_between v_steadyWays v_quashed v_but a_figures a_all a_lies a_since v_last v_state) c0) n) 0 0) 0 [(0, .ref (b + o)), (1, .int x1)] [] (e_ov (kM o) (wM G b o v_thrown v_status a_refusals a_row a_images a_isKept a_tape v_taped v_from v_to v_sort v_worth v_fault v_bad v_nClauses a_nClause v_nCode a_nOp a_nArg v_nLeaves a_pile a_pileAt v_piled v_opened a_words a_headWords v_law a_set a_rest v_broken v_value v_sum a_chances a_votes a_costs a_table a_prices v_surely a_mostBy a_leastBy v_between v_steadyWays v_quashed v_but a_figures a_all a_lies a_since v_last v_state) c0) n 0 0 := by
  unfold fX12_rights at hf
  refine E.iconst (v := 0) dX12_rights_0 (by decide) ?_
  refine E.istore_n (lv' := [(2, .int 0), (0, .ref (b + o)), (1, .int x1)]) dX12_rights_1 (by decide) rfl ?_
  refine E.iconst (v := 0) dX12_rights_2 (by decide) ?_
  refine E.istore_n (lv' := [(3, .int 0), (2, .int 0), (0, .ref (b + o)), (1, .int x1)]) dX12_rights_3 (by decide) rfl ?_
  refine E.locals [2, 3, 1, 0] rfl ?_
  exact tX12_rights_L4 hw _ hf
set_option maxRecDepth 100000 in
theorem mX12_rights {G : GT} {b : Nat} {o : Nat} {c0 : Hp} {n : Nat} (hw : e_wf (kM o) n) {v_thrown : Int32} {v_status : Int32} {a_refusals : Nat → Int32} {a_images : Nat → Int32} {a_isKept : Nat → Int32} {a_tape : Nat → Int32} {v_taped : Int32} {v_from : Int32} {v_to : Int32} {v_sort : Int32} {v_worth : Int64} {v_fault : Int32} {v_bad : Int32} {v_nClauses : Int32} {a_nClause : Nat → Int32} {v_nCode : Int32} {a_nOp : Nat → Int32} {a_nArg : Nat → Int32} {v_nLeaves : Int32} {a_pile : Nat → Int32} {a_pileAt : Nat → Int32} {v_piled : Int32} {v_opened : Int32} {a_words : Nat → Int64} {a_headWords : Nat → Int64} {v_law : Int32} {a_set : Nat → Int64} {a_rest : Nat → Int64} {v_broken : Int32} {v_value : Int64} {v_sum : Int64} {a_chances : Nat → Int32} {a_votes : Nat → Int64} {a_costs : Nat → Int32} {a_table : Nat → Int64} {a_prices : Nat → Int32} {v_surely : Int64} {a_mostBy : Nat → Int64} {a_leastBy : Nat → Int64} {v_between : Int64} {v_steadyWays : Int32} {v_quashed : Int32} {a_figures : Nat → Int32} {a_all : Nat → Int32} {a_lies : Nat → Int32} {a_since : Nat → Int32} {v_last : Int32} {v_state : Int64} {Fu : Nat} {a_row : Nat → Int32} {v_but : Int32} {x1 : Int32} {R : Int32} (hf : fX12_rights Fu a_row v_but x1 = some R) : e_C G b yX12_rights cX12_rights 4 (some .int) 1 0 0 [.ref (b + o), .int x1] (e_ov (kM o) (wM G b o v_thrown v_status a_refusals a_row a_images a_isKept a_tape v_taped v_from v_to v_sort v_worth v_fault v_bad v_nClauses a_nClause v_nCode a_nOp a_nArg v_nLeaves a_pile a_pileAt v_piled v_opened a_words a_headWords v_law a_set a_rest v_broken v_value v_sum a_chances a_votes a_costs a_table a_prices v_surely a_mostBy a_leastBy v_between v_steadyWays v_quashed v_but a_figures a_all a_lies a_since v_last v_state) c0) n (pD (some (.int R)) (e_ov (kM o) (wM G b o v_thrown v_status a_refusals a_row a_images a_isKept a_tape v_taped v_from v_to v_sort v_worth v_fault v_bad v_nClauses a_nClause v_nCode a_nOp a_nArg v_nLeaves a_pile a_pileAt v_piled v_opened a_words a_headWords v_law a_set a_rest v_broken v_value v_sum a_chances a_votes a_costs a_table a_prices v_surely a_mostBy a_leastBy v_between v_steadyWays v_quashed v_but a_figures a_all a_lies a_since v_last v_state) c0) n) := e_C.of (by decide) (Nat.le_of_ble_eq_true rfl) (tX12_rights hw hf)
def fX12_wrongs_L4 (Fu : Nat) : Nat → (Nat → Int32) → Int32 → Int32 → Int32 → Int32 → Option (Int32)
  | 0, _, _, _, _, _ => none
  | k + 1, a_row, v_but, x1, x2, x3 => gd 11 5570 (if ((a_row (11 : Int32).toNatClampNeg) : Int32) ≤ (x3 : Int32) then (some (x2)) else (if (x3 : Int32) = (v_but : Int32) then ((fX12_wrongs_L4 Fu k) a_row v_but x1 (x2 + 0) (x3 + 1)) else (gd ((110 + (3 * x3)) + 1) 5570 ((fX12_rightIn a_row x3).bind fun r3 => ((fX12_wrongs_L4 Fu k) a_row v_but x1 (x2 + ((((a_row (((110 + (3 * x3)) + 1) : Int32).toNatClampNeg) &&& (r3 ^^^ (-1 : Int32))) >>> (x1 &&& 31)) &&& 1)) (x3 + 1))))))
set_option maxHeartbeats 4000000 in
set_option maxRecDepth 100000 in
theorem tX12_wrongs_L4 {G : GT} {b : Nat} {o : Nat} {c0 : Hp} {n : Nat} (hw : e_wf (kM o) n) {v_thrown : Int32} {v_status : Int32} {a_refusals : Nat → Int32} {a_images : Nat → Int32} {a_isKept : Nat → Int32} {a_tape : Nat → Int32} {v_taped : Int32} {v_from : Int32} {v_to : Int32} {v_sort : Int32} {v_worth : Int64} {v_fault : Int32} {v_bad : Int32} {v_nClauses : Int32} {a_nClause : Nat → Int32} {v_nCode : Int32} {a_nOp : Nat → Int32} {a_nArg : Nat → Int32} {v_nLeaves : Int32} {a_pile : Nat → Int32} {a_pileAt : Nat → Int32} {v_piled : Int32} {v_opened : Int32} {a_words : Nat → Int64} {a_headWords : Nat → Int64} {v_law : Int32} {a_set : Nat → Int64} {a_rest : Nat → Int64} {v_broken : Int32} {v_value : Int64} {v_sum : Int64} {a_chances : Nat → Int32} {a_votes : Nat → Int64} {a_costs : Nat → Int32} {a_table : Nat → Int64} {a_prices : Nat → Int32} {v_surely : Int64} {a_mostBy : Nat → Int64} {a_leastBy : Nat → Int64} {v_between : Int64} {v_steadyWays : Int32} {v_quashed : Int32} {a_figures : Nat → Int32} {a_all : Nat → Int32} {a_lies : Nat → Int32} {a_since : Nat → Int32} {v_last : Int32} {v_state : Int64} {Fu : Nat} : ∀ (k : Nat) {a_row : Nat → Int32} {v_but : Int32} {x1 : Int32} {x2 : Int32} {x3 : Int32} {R : Int32}, fX12_wrongs_L4 Fu k a_row v_but x1 x2 x3 = some R → E G b yX12_wrongs cX12_wrongs 4 (some .int) (e_rm 1 0 0) e_X0 (e_Z G b (pD (some (.int R)) (e_ov (kM o) (wM G b o v_thrown v_status a_refusals a_row a_images a_isKept a_tape v_taped v_from v_to v_sort v_worth v_fault v_bad v_nClauses a_nClause v_nCode a_nOp a_nArg v_nLeaves a_pile a_pileAt v_piled v_opened a_words a_headWords v_law a_set a_rest v_broken v_value v_sum a_chances a_votes a_costs a_table a_prices v_surely a_mostBy a_leastBy v_between v_steadyWays v_quashed v_but a_figures a_all a_lies a_since v_last v_state) c0) n) 0 0) 4 [(0, .ref (b + o)), (1, .int x1), (2, .int x2), (3, .int x3)] [] (e_ov (kM o) (wM G b o v_thrown v_status a_refusals a_row a_images a_isKept a_tape v_taped v_from v_to v_sort v_worth v_fault v_bad v_nClauses a_nClause v_nCode a_nOp a_nArg v_nLeaves a_pile a_pileAt v_piled v_opened a_words a_headWords v_law a_set a_rest v_broken v_value v_sum a_chances a_votes a_costs a_table a_prices v_surely a_mostBy a_leastBy v_between v_steadyWays v_quashed v_but a_figures a_all a_lies a_since v_last v_state) c0) n 0 0 := by
  intro k
  induction k with
  | zero =>
    intro _ _ _ _ _ _ hf
    have hf : (none : Option (Int32)) = some _ := hf
    cases hf
  | succ k ih =>
    intro a_row v_but x1 x2 x3 R hf
    rw [fX12_wrongs_L4] at hf
    refine E.iload_n 3 dX12_wrongs_4 rfl ?_
    refine E.aload_n 0 dX12_wrongs_5 rfl ?_
    refine E.get hw 0 o dX12_wrongs_6 flX12_13 rfl rfl rfl rfl ?_
    refine E.bipush (v := 11) dX12_wrongs_9 (by decide) ?_
    obtain ⟨g1, hf⟩ := gd_some hf
    refine E.iald hw 2 (o + 2) dX12_wrongs_11 rfl rfl g1 ?_
    refine E.icmp_ge dX12_wrongs_12 (fun h => ?_) (fun h => ?_)
    · have hf := e_ift hf h
      refine E.iload_n 2 dX12_wrongs_61 rfl ?_
      cases hf
      exact E.iret dX12_wrongs_62 (Nat.le_refl _) (Nat.le_refl _) (pD_rf _ _ _)
    · have hf := e_iff hf h
      refine E.iload_n 2 dX12_wrongs_15 rfl ?_
      refine E.iload_n 3 dX12_wrongs_16 rfl ?_
      refine E.aload_n 0 dX12_wrongs_17 rfl ?_
      refine E.get hw 0 o dX12_wrongs_18 flX12_106 rfl rfl rfl rfl ?_
      refine E.icmp_ne dX12_wrongs_21 (fun h => ?_) (fun h => ?_)
      · have hf := e_iff hf h
        refine E.aload_n 0 dX12_wrongs_28 rfl ?_
        refine E.get hw 0 o dX12_wrongs_29 flX12_13 rfl rfl rfl rfl ?_
        refine E.bipush (v := 110) dX12_wrongs_32 (by decide) ?_
        refine E.iconst (v := 3) dX12_wrongs_34 (by decide) ?_
        refine E.iload_n 3 dX12_wrongs_35 rfl ?_
        refine E.imul dX12_wrongs_36 ?_
        refine E.iadd dX12_wrongs_37 ?_
        refine E.iconst (v := 1) dX12_wrongs_38 (by decide) ?_
        refine E.iadd dX12_wrongs_39 ?_
        obtain ⟨g2, hf⟩ := gd_some hf
        refine E.iald hw 2 (o + 2) dX12_wrongs_40 rfl rfl g2 ?_
        refine E.aload_n 0 dX12_wrongs_41 rfl ?_
        refine E.iload_n 3 dX12_wrongs_42 rfl ?_
        obtain ⟨r3, hc3, hf⟩ := e_bind hf
        refine E.callVD [.int (a_row (((110 + (3 * x3)) + 1) : Int32).toNatClampNeg), .int x2] dX12_wrongs_43 mlX12_460 ⟨hw.sub (p := 0) rfl, e_ov_get hw.1 (p := 0) rfl rfl⟩ rfl rfl (mX12_rightIn hw hc3) ⟨Nat.le_of_ble_eq_true rfl, Nat.le_of_ble_eq_true rfl⟩ rfl rfl (Nat.le_of_ble_eq_true rfl) ⟨Nat.le_refl _, Nat.le_refl _⟩ rfl ?_
        refine E.iconst (v := -1) dX12_wrongs_46 (by decide) ?_
        refine E.ixor dX12_wrongs_47 ?_
        refine E.iand dX12_wrongs_48 ?_
        refine E.iload_n 1 dX12_wrongs_49 rfl ?_
        refine E.ishr dX12_wrongs_50 ?_
        refine E.iconst (v := 1) dX12_wrongs_51 (by decide) ?_
        refine E.iand dX12_wrongs_52 ?_
        refine E.iadd dX12_wrongs_53 ?_
        refine E.istore_n (lv' := [(2, .int (x2 + ((((a_row (((110 + (3 * x3)) + 1) : Int32).toNatClampNeg) &&& (r3 ^^^ (-1 : Int32))) >>> (x1 &&& 31)) &&& 1))), (0, .ref (b + o)), (1, .int x1), (3, .int x3)]) dX12_wrongs_54 (by decide) rfl ?_
        refine E.iinc (q := 3) (v := (x3 + 1)) (lv' := [(3, .int (x3 + 1)), (2, .int (x2 + ((((a_row (((110 + (3 * x3)) + 1) : Int32).toNatClampNeg) &&& (r3 ^^^ (-1 : Int32))) >>> (x1 &&& 31)) &&& 1))), (0, .ref (b + o)), (1, .int x1)]) dX12_wrongs_55 rfl rfl (by decide) rfl ?_
        refine E.goto dX12_wrongs_58 ?_
        refine E.locals [2, 3, 1, 0] rfl ?_
        exact ih hf
      · have hf := e_ift hf h
        refine E.iconst (v := 0) dX12_wrongs_24 (by decide) ?_
        refine E.goto dX12_wrongs_25 ?_
        refine E.iadd dX12_wrongs_53 ?_
        refine E.istore_n (lv' := [(2, .int (x2 + 0)), (0, .ref (b + o)), (1, .int x1), (3, .int x3)]) dX12_wrongs_54 (by decide) rfl ?_
        refine E.iinc (q := 3) (v := (x3 + 1)) (lv' := [(3, .int (x3 + 1)), (2, .int (x2 + 0)), (0, .ref (b + o)), (1, .int x1)]) dX12_wrongs_55 rfl rfl (by decide) rfl ?_
        refine E.goto dX12_wrongs_58 ?_
        refine E.locals [2, 3, 1, 0] rfl ?_
        exact ih hf
def fX12_wrongs (Fu : Nat) (a_row : Nat → Int32) (v_but : Int32) (x1 : Int32) : Option (Int32) := fX12_wrongs_L4 Fu Fu a_row v_but x1 0 0
set_option maxHeartbeats 4000000 in
set_option maxRecDepth 100000 in
theorem tX12_wrongs {G : GT} {b : Nat} {o : Nat} {c0 : Hp} {n : Nat} (hw : e_wf (kM o) n) {v_thrown : Int32} {v_status : Int32} {a_refusals : Nat → Int32} {a_images : Nat → Int32} {a_isKept : Nat → Int32} {a_tape : Nat → Int32} {v_taped : Int32} {v_from : Int32} {v_to : Int32} {v_sort : Int32} {v_worth : Int64} {v_fault : Int32} {v_bad : Int32} {v_nClauses : Int32} {a_nClause : Nat → Int32} {v_nCode : Int32} {a_nOp : Nat → Int32} {a_nArg : Nat → Int32} {v_nLeaves : Int32} {a_pile : Nat → Int32} {a_pileAt : Nat → Int32} {v_piled : Int32} {v_opened : Int32} {a_words : Nat → Int64} {a_headWords : Nat → Int64} {v_law : Int32} {a_set : Nat → Int64} {a_rest : Nat → Int64} {v_broken : Int32} {v_value : Int64} {v_sum : Int64} {a_chances : Nat → Int32} {a_votes : Nat → Int64} {a_costs : Nat → Int32} {a_table : Nat → Int64} {a_prices : Nat → Int32} {v_surely : Int64} {a_mostBy : Nat → Int64} {a_leastBy : Nat → Int64} {v_between : Int64} {v_steadyWays : Int32} {v_quashed : Int32} {a_figures : Nat → Int32} {a_all : Nat → Int32} {a_lies : Nat → Int32} {a_since : Nat → Int32} {v_last : Int32} {v_state : Int64} {Fu : Nat} {a_row : Nat → Int32} {v_but : Int32} {x1 : Int32} {R : Int32} (hf : fX12_wrongs Fu a_row v_but x1 = some R) : E G b yX12_wrongs cX12_wrongs 4 (some .int) (e_rm 1 0 0) e_X0 (e_Z G b (pD (some (.int R)) (e_ov (kM o) (wM G b o v_thrown v_status a_refusals a_row a_images a_isKept a_tape v_taped v_from v_to v_sort v_worth v_fault v_bad v_nClauses a_nClause v_nCode a_nOp a_nArg v_nLeaves a_pile a_pileAt v_piled v_opened a_words a_headWords v_law a_set a_rest v_broken v_value v_sum a_chances a_votes a_costs a_table a_prices v_surely a_mostBy a_leastBy v_between v_steadyWays v_quashed v_but a_figures a_all a_lies a_since v_last v_state) c0) n) 0 0) 0 [(0, .ref (b + o)), (1, .int x1)] [] (e_ov (kM o) (wM G b o v_thrown v_status a_refusals a_row a_images a_isKept a_tape v_taped v_from v_to v_sort v_worth v_fault v_bad v_nClauses a_nClause v_nCode a_nOp a_nArg v_nLeaves a_pile a_pileAt v_piled v_opened a_words a_headWords v_law a_set a_rest v_broken v_value v_sum a_chances a_votes a_costs a_table a_prices v_surely a_mostBy a_leastBy v_between v_steadyWays v_quashed v_but a_figures a_all a_lies a_since v_last v_state) c0) n 0 0 := by
  unfold fX12_wrongs at hf
  refine E.iconst (v := 0) dX12_wrongs_0 (by decide) ?_
  refine E.istore_n (lv' := [(2, .int 0), (0, .ref (b + o)), (1, .int x1)]) dX12_wrongs_1 (by decide) rfl ?_
  refine E.iconst (v := 0) dX12_wrongs_2 (by decide) ?_
  refine E.istore_n (lv' := [(3, .int 0), (2, .int 0), (0, .ref (b + o)), (1, .int x1)]) dX12_wrongs_3 (by decide) rfl ?_
  refine E.locals [2, 3, 1, 0] rfl ?_
  exact tX12_wrongs_L4 hw _ hf
set_option maxRecDepth 100000 in
theorem mX12_wrongs {G : GT} {b : Nat} {o : Nat} {c0 : Hp} {n : Nat} (hw : e_wf (kM o) n) {v_thrown : Int32} {v_status : Int32} {a_refusals : Nat → Int32} {a_images : Nat → Int32} {a_isKept : Nat → Int32} {a_tape : Nat → Int32} {v_taped : Int32} {v_from : Int32} {v_to : Int32} {v_sort : Int32} {v_worth : Int64} {v_fault : Int32} {v_bad : Int32} {v_nClauses : Int32} {a_nClause : Nat → Int32} {v_nCode : Int32} {a_nOp : Nat → Int32} {a_nArg : Nat → Int32} {v_nLeaves : Int32} {a_pile : Nat → Int32} {a_pileAt : Nat → Int32} {v_piled : Int32} {v_opened : Int32} {a_words : Nat → Int64} {a_headWords : Nat → Int64} {v_law : Int32} {a_set : Nat → Int64} {a_rest : Nat → Int64} {v_broken : Int32} {v_value : Int64} {v_sum : Int64} {a_chances : Nat → Int32} {a_votes : Nat → Int64} {a_costs : Nat → Int32} {a_table : Nat → Int64} {a_prices : Nat → Int32} {v_surely : Int64} {a_mostBy : Nat → Int64} {a_leastBy : Nat → Int64} {v_between : Int64} {v_steadyWays : Int32} {v_quashed : Int32} {a_figures : Nat → Int32} {a_all : Nat → Int32} {a_lies : Nat → Int32} {a_since : Nat → Int32} {v_last : Int32} {v_state : Int64} {Fu : Nat} {a_row : Nat → Int32} {v_but : Int32} {x1 : Int32} {R : Int32} (hf : fX12_wrongs Fu a_row v_but x1 = some R) : e_C G b yX12_wrongs cX12_wrongs 4 (some .int) 1 0 0 [.ref (b + o), .int x1] (e_ov (kM o) (wM G b o v_thrown v_status a_refusals a_row a_images a_isKept a_tape v_taped v_from v_to v_sort v_worth v_fault v_bad v_nClauses a_nClause v_nCode a_nOp a_nArg v_nLeaves a_pile a_pileAt v_piled v_opened a_words a_headWords v_law a_set a_rest v_broken v_value v_sum a_chances a_votes a_costs a_table a_prices v_surely a_mostBy a_leastBy v_between v_steadyWays v_quashed v_but a_figures a_all a_lies a_since v_last v_state) c0) n (pD (some (.int R)) (e_ov (kM o) (wM G b o v_thrown v_status a_refusals a_row a_images a_isKept a_tape v_taped v_from v_to v_sort v_worth v_fault v_bad v_nClauses a_nClause v_nCode a_nOp a_nArg v_nLeaves a_pile a_pileAt v_piled v_opened a_words a_headWords v_law a_set a_rest v_broken v_value v_sum a_chances a_votes a_costs a_table a_prices v_surely a_mostBy a_leastBy v_between v_steadyWays v_quashed v_but a_figures a_all a_lies a_since v_last v_state) c0) n) := e_C.of (by decide) (Nat.le_of_ble_eq_true rfl) (tX12_wrongs hw hf)
def fX12_right_L78 (Fu : Nat) (v_thrown : Int32) (a_row : Nat → Int32) (v_but : Int32) (x1 : Int32) (x2 : Int32) : Option (Int32 × Int32) := (fX12_in ((x1 : Int32).toInt64) 0 7).bind fun r1 => (if (r1 : Int32) = 0 then (some ((-1 : Int32), v_thrown)) else ((fX12_in ((x2 : Int32).toInt64) 0 1).bind fun r2 => (if (r2 : Int32) = 0 then (some ((-1 : Int32), v_thrown)) else (if (x2 : Int32) = 0 then ((fX12_rights Fu a_row v_but x1).bind fun r4 => (some (r4, v_thrown))) else ((fX12_wrongs Fu a_row v_but x1).bind fun r3 => (some (r3, v_thrown)))))))
set_option maxHeartbeats 4000000 in
set_option maxRecDepth 100000 in
theorem tX12_right_L78 {G : GT} {b : Nat} {o : Nat} {c0 : Hp} {n : Nat} (hw : e_wf (kM o) n) {v_status : Int32} {a_refusals : Nat → Int32} {a_images : Nat → Int32} {a_isKept : Nat → Int32} {a_tape : Nat → Int32} {v_taped : Int32} {v_from : Int32} {v_to : Int32} {v_sort : Int32} {v_worth : Int64} {v_fault : Int32} {v_bad : Int32} {v_nClauses : Int32} {a_nClause : Nat → Int32} {v_nCode : Int32} {a_nOp : Nat → Int32} {a_nArg : Nat → Int32} {v_nLeaves : Int32} {a_pile : Nat → Int32} {a_pileAt : Nat → Int32} {v_piled : Int32} {v_opened : Int32} {a_words : Nat → Int64} {a_headWords : Nat → Int64} {v_law : Int32} {a_set : Nat → Int64} {a_rest : Nat → Int64} {v_broken : Int32} {v_value : Int64} {v_sum : Int64} {a_chances : Nat → Int32} {a_votes : Nat → Int64} {a_costs : Nat → Int32} {a_table : Nat → Int64} {a_prices : Nat → Int32} {v_surely : Int64} {a_mostBy : Nat → Int64} {a_leastBy : Nat → Int64} {v_between : Int64} {v_steadyWays : Int32} {v_quashed : Int32} {a_figures : Nat → Int32} {a_all : Nat → Int32} {a_lies : Nat → Int32} {a_since : Nat → Int32} {v_last : Int32} {v_state : Int64} {Fu : Nat} {v_thrown : Int32} {a_row : Nat → Int32} {v_but : Int32} {x1 : Int32} {x2 : Int32} {R : Int32 × Int32} (hf : fX12_right_L78 Fu v_thrown a_row v_but x1 x2 = some R) : E G b yX12_right cX12_right 5 (some .int) (e_rm 2 0 0) e_X0 (e_Z G b (pD (some (.int R.1)) (e_ov (kM o) (wM G b o R.2 v_status a_refusals a_row a_images a_isKept a_tape v_taped v_from v_to v_sort v_worth v_fault v_bad v_nClauses a_nClause v_nCode a_nOp a_nArg v_nLeaves a_pile a_pileAt v_piled v_opened a_words a_headWords v_law a_set a_rest v_broken v_value v_sum a_chances a_votes a_costs a_table a_prices v_surely a_mostBy a_leastBy v_between v_steadyWays v_quashed v_but a_figures a_all a_lies a_since v_last v_state) c0) n) 0 0) 78 [(0, .ref (b + o)), (1, .int x1), (2, .int x2)] [] (e_ov (kM o) (wM G b o v_thrown v_status a_refusals a_row a_images a_isKept a_tape v_taped v_from v_to v_sort v_worth v_fault v_bad v_nClauses a_nClause v_nCode a_nOp a_nArg v_nLeaves a_pile a_pileAt v_piled v_opened a_words a_headWords v_law a_set a_rest v_broken v_value v_sum a_chances a_votes a_costs a_table a_prices v_surely a_mostBy a_leastBy v_between v_steadyWays v_quashed v_but a_figures a_all a_lies a_since v_last v_state) c0) n 0 0 := by
  unfold fX12_right_L78 at hf
  refine E.iload_n 1 dX12_right_78 rfl ?_
  refine E.i2l dX12_right_79 ?_
  refine E.lconst (v := 0) dX12_right_80 (by decide) ?_
  refine E.ldc2 dX12_right_81 kX12_384 ?_
  obtain ⟨r1, hc1, hf⟩ := e_bind hf
  refine E.callSD [] dX12_right_84 mlX12_134 (mX12_in hc1) ⟨Nat.le_of_ble_eq_true rfl, Nat.le_of_ble_eq_true rfl⟩ rfl rfl (Nat.le_of_ble_eq_true rfl) ⟨Nat.le_refl _, Nat.le_refl _⟩ rfl ?_
  refine E.if_eq dX12_right_87 (fun h => ?_) (fun h => ?_)
  · have hf := e_ift hf h
    refine E.iconst (v := -1) dX12_right_100 (by decide) ?_
    refine E.goto dX12_right_101 ?_
    cases hf
    exact E.iret dX12_right_121 (Nat.le_refl _) (Nat.le_refl _) (pD_rf _ _ _)
  · have hf := e_iff hf h
    refine E.iload_n 2 dX12_right_90 rfl ?_
    refine E.i2l dX12_right_91 ?_
    refine E.lconst (v := 0) dX12_right_92 (by decide) ?_
    refine E.lconst (v := 1) dX12_right_93 (by decide) ?_
    obtain ⟨r2, hc2, hf⟩ := e_bind hf
    refine E.callSD [] dX12_right_94 mlX12_134 (mX12_in hc2) ⟨Nat.le_of_ble_eq_true rfl, Nat.le_of_ble_eq_true rfl⟩ rfl rfl (Nat.le_of_ble_eq_true rfl) ⟨Nat.le_refl _, Nat.le_refl _⟩ rfl ?_
    refine E.if_ne dX12_right_97 (fun h => ?_) (fun h => ?_)
    · have hf := e_iff hf h
      refine E.iload_n 2 dX12_right_104 rfl ?_
      refine E.if_ne dX12_right_105 (fun h => ?_) (fun h => ?_)
      · have hf := e_iff hf h
        refine E.aload_n 0 dX12_right_116 rfl ?_
        refine E.iload_n 1 dX12_right_117 rfl ?_
        obtain ⟨r3, hc3, hf⟩ := e_bind hf
        refine E.callVD [] dX12_right_118 mlX12_466 ⟨hw.sub (p := 0) rfl, e_ov_get hw.1 (p := 0) rfl rfl⟩ rfl rfl (mX12_wrongs hw hc3) ⟨Nat.le_of_ble_eq_true rfl, Nat.le_of_ble_eq_true rfl⟩ rfl rfl (Nat.le_of_ble_eq_true rfl) ⟨Nat.le_refl _, Nat.le_refl _⟩ rfl ?_
        cases hf
        exact E.iret dX12_right_121 (Nat.le_refl _) (Nat.le_refl _) (pD_rf _ _ _)
      · have hf := e_ift hf h
        refine E.aload_n 0 dX12_right_108 rfl ?_
        refine E.iload_n 1 dX12_right_109 rfl ?_
        obtain ⟨r4, hc4, hf⟩ := e_bind hf
        refine E.callVD [] dX12_right_110 mlX12_463 ⟨hw.sub (p := 0) rfl, e_ov_get hw.1 (p := 0) rfl rfl⟩ rfl rfl (mX12_rights hw hc4) ⟨Nat.le_of_ble_eq_true rfl, Nat.le_of_ble_eq_true rfl⟩ rfl rfl (Nat.le_of_ble_eq_true rfl) ⟨Nat.le_refl _, Nat.le_refl _⟩ rfl ?_
        refine E.goto dX12_right_113 ?_
        cases hf
        exact E.iret dX12_right_121 (Nat.le_refl _) (Nat.le_refl _) (pD_rf _ _ _)
    · have hf := e_ift hf h
      refine E.iconst (v := -1) dX12_right_100 (by decide) ?_
      refine E.goto dX12_right_101 ?_
      cases hf
      exact E.iret dX12_right_121 (Nat.le_refl _) (Nat.le_refl _) (pD_rf _ _ _)
def fX12_right_L19 (Fu : Nat) : Nat → Int32 → (Nat → Int32) → Int32 → Int32 → Int32 → Option (Int32 × Int32)
  | 0, _, _, _, _, _ => none
  | k + 1, v_thrown, a_row, v_but, x3, x4 => gd 11 5570 (if ((a_row (11 : Int32).toNatClampNeg) : Int32) ≤ (x4 : Int32) then (some (x3, v_thrown)) else ((fX12_rightIn a_row x4).bind fun r6 => ((fX12_bits Fu r6).bind fun r7 => (gd ((110 + (3 * x4)) + 1) 5570 ((fX12_bits Fu (a_row (((110 + (3 * x4)) + 1) : Int32).toNatClampNeg)).bind fun r9 => (if ((2 * r7) : Int32) ≤ (r9 : Int32) then ((fX12_right_L19 Fu k) v_thrown a_row v_but (x3 + 0) (x4 + 1)) else ((fX12_right_L19 Fu k) v_thrown a_row v_but (x3 + 1) (x4 + 1))))))))
set_option maxHeartbeats 4000000 in
set_option maxRecDepth 100000 in
theorem tX12_right_L19 {G : GT} {b : Nat} {o : Nat} {c0 : Hp} {n : Nat} (hw : e_wf (kM o) n) {v_status : Int32} {a_refusals : Nat → Int32} {a_images : Nat → Int32} {a_isKept : Nat → Int32} {a_tape : Nat → Int32} {v_taped : Int32} {v_from : Int32} {v_to : Int32} {v_sort : Int32} {v_worth : Int64} {v_fault : Int32} {v_bad : Int32} {v_nClauses : Int32} {a_nClause : Nat → Int32} {v_nCode : Int32} {a_nOp : Nat → Int32} {a_nArg : Nat → Int32} {v_nLeaves : Int32} {a_pile : Nat → Int32} {a_pileAt : Nat → Int32} {v_piled : Int32} {v_opened : Int32} {a_words : Nat → Int64} {a_headWords : Nat → Int64} {v_law : Int32} {a_set : Nat → Int64} {a_rest : Nat → Int64} {v_broken : Int32} {v_value : Int64} {v_sum : Int64} {a_chances : Nat → Int32} {a_votes : Nat → Int64} {a_costs : Nat → Int32} {a_table : Nat → Int64} {a_prices : Nat → Int32} {v_surely : Int64} {a_mostBy : Nat → Int64} {a_leastBy : Nat → Int64} {v_between : Int64} {v_steadyWays : Int32} {v_quashed : Int32} {a_figures : Nat → Int32} {a_all : Nat → Int32} {a_lies : Nat → Int32} {a_since : Nat → Int32} {v_last : Int32} {v_state : Int64} {Fu : Nat} : ∀ (k : Nat) {v_thrown : Int32} {a_row : Nat → Int32} {v_but : Int32} {x3 : Int32} {x4 : Int32} {R : Int32 × Int32}, fX12_right_L19 Fu k v_thrown a_row v_but x3 x4 = some R → E G b yX12_right cX12_right 5 (some .int) (e_rm 2 0 0) e_X0 (e_Z G b (pD (some (.int R.1)) (e_ov (kM o) (wM G b o R.2 v_status a_refusals a_row a_images a_isKept a_tape v_taped v_from v_to v_sort v_worth v_fault v_bad v_nClauses a_nClause v_nCode a_nOp a_nArg v_nLeaves a_pile a_pileAt v_piled v_opened a_words a_headWords v_law a_set a_rest v_broken v_value v_sum a_chances a_votes a_costs a_table a_prices v_surely a_mostBy a_leastBy v_between v_steadyWays v_quashed v_but a_figures a_all a_lies a_since v_last v_state) c0) n) 0 0) 19 [(0, .ref (b + o)), (3, .int x3), (4, .int x4)] [] (e_ov (kM o) (wM G b o v_thrown v_status a_refusals a_row a_images a_isKept a_tape v_taped v_from v_to v_sort v_worth v_fault v_bad v_nClauses a_nClause v_nCode a_nOp a_nArg v_nLeaves a_pile a_pileAt v_piled v_opened a_words a_headWords v_law a_set a_rest v_broken v_value v_sum a_chances a_votes a_costs a_table a_prices v_surely a_mostBy a_leastBy v_between v_steadyWays v_quashed v_but a_figures a_all a_lies a_since v_last v_state) c0) n 0 0 := by
  intro k
  induction k with
  | zero =>
    intro _ _ _ _ _ _ hf
    have hf : (none : Option (Int32 × Int32)) = some _ := hf
    cases hf
  | succ k ih =>
    intro v_thrown a_row v_but x3 x4 R hf
    rw [fX12_right_L19] at hf
    refine E.iload 2 dX12_right_19 rfl ?_
    refine E.aload_n 0 dX12_right_21 rfl ?_
    refine E.get hw 0 o dX12_right_22 flX12_13 rfl rfl rfl rfl ?_
    refine E.bipush (v := 11) dX12_right_25 (by decide) ?_
    obtain ⟨g5, hf⟩ := gd_some hf
    refine E.iald hw 2 (o + 2) dX12_right_27 rfl rfl g5 ?_
    refine E.icmp_ge dX12_right_28 (fun h => ?_) (fun h => ?_)
    · have hf := e_ift hf h
      refine E.iload_n 1 dX12_right_76 rfl ?_
      cases hf
      exact E.iret dX12_right_77 (Nat.le_refl _) (Nat.le_refl _) (pD_rf _ _ _)
    · have hf := e_iff hf h
      refine E.iload_n 1 dX12_right_31 rfl ?_
      refine E.iconst (v := 2) dX12_right_32 (by decide) ?_
      refine E.aload_n 0 dX12_right_33 rfl ?_
      refine E.iload 2 dX12_right_34 rfl ?_
      obtain ⟨r6, hc6, hf⟩ := e_bind hf
      refine E.callVD [.int 2, .int x3] dX12_right_36 mlX12_460 ⟨hw.sub (p := 0) rfl, e_ov_get hw.1 (p := 0) rfl rfl⟩ rfl rfl (mX12_rightIn hw hc6) ⟨Nat.le_of_ble_eq_true rfl, Nat.le_of_ble_eq_true rfl⟩ rfl rfl (Nat.le_of_ble_eq_true rfl) ⟨Nat.le_refl _, Nat.le_refl _⟩ rfl ?_
      obtain ⟨r7, hc7, hf⟩ := e_bind hf
      refine E.callSD [.int 2, .int x3] dX12_right_39 mlX12_435 (mX12_bits hc7) ⟨Nat.le_of_ble_eq_true rfl, Nat.le_of_ble_eq_true rfl⟩ rfl rfl (Nat.le_of_ble_eq_true rfl) ⟨Nat.le_refl _, Nat.le_refl _⟩ rfl ?_
      refine E.imul dX12_right_42 ?_
      refine E.aload_n 0 dX12_right_43 rfl ?_
      refine E.get hw 0 o dX12_right_44 flX12_13 rfl rfl rfl rfl ?_
      refine E.bipush (v := 110) dX12_right_47 (by decide) ?_
      refine E.iconst (v := 3) dX12_right_49 (by decide) ?_
      refine E.iload 2 dX12_right_50 rfl ?_
      refine E.imul dX12_right_52 ?_
      refine E.iadd dX12_right_53 ?_
      refine E.iconst (v := 1) dX12_right_54 (by decide) ?_
      refine E.iadd dX12_right_55 ?_
      obtain ⟨g8, hf⟩ := gd_some hf
      refine E.iald hw 2 (o + 2) dX12_right_56 rfl rfl g8 ?_
      obtain ⟨r9, hc9, hf⟩ := e_bind hf
      refine E.callSD [.int (2 * r7), .int x3] dX12_right_57 mlX12_435 (mX12_bits hc9) ⟨Nat.le_of_ble_eq_true rfl, Nat.le_of_ble_eq_true rfl⟩ rfl rfl (Nat.le_of_ble_eq_true rfl) ⟨Nat.le_refl _, Nat.le_refl _⟩ rfl ?_
      refine E.icmp_le dX12_right_60 (fun h => ?_) (fun h => ?_)
      · have hf := e_ift hf h
        refine E.iconst (v := 0) dX12_right_67 (by decide) ?_
        refine E.iadd dX12_right_68 ?_
        refine E.istore_n (lv' := [(3, .int (x3 + 0)), (0, .ref (b + o)), (4, .int x4)]) dX12_right_69 (by decide) rfl ?_
        refine E.iinc (q := 2) (v := (x4 + 1)) (lv' := [(4, .int (x4 + 1)), (3, .int (x3 + 0)), (0, .ref (b + o))]) dX12_right_70 rfl rfl (by decide) rfl ?_
        refine E.goto dX12_right_73 ?_
        refine E.locals [2, 1, 0] rfl ?_
        exact ih hf
      · have hf := e_iff hf h
        refine E.iconst (v := 1) dX12_right_63 (by decide) ?_
        refine E.goto dX12_right_64 ?_
        refine E.iadd dX12_right_68 ?_
        refine E.istore_n (lv' := [(3, .int (x3 + 1)), (0, .ref (b + o)), (4, .int x4)]) dX12_right_69 (by decide) rfl ?_
        refine E.iinc (q := 2) (v := (x4 + 1)) (lv' := [(4, .int (x4 + 1)), (3, .int (x3 + 1)), (0, .ref (b + o))]) dX12_right_70 rfl rfl (by decide) rfl ?_
        refine E.goto dX12_right_73 ?_
        refine E.locals [2, 1, 0] rfl ?_
        exact ih hf
def fX12_right (Fu : Nat) (v_thrown : Int32) (a_row : Nat → Int32) (v_but : Int32) (x1 : Int32) (x2 : Int32) : Option (Int32 × Int32) := if (x1 : Int32) = ((-1 : Int32) : Int32) then (if (x2 : Int32) = 0 then (fX12_right_L19 Fu Fu 0 a_row v_but 0 0) else (fX12_right_L78 Fu 0 a_row v_but x1 x2)) else (fX12_right_L78 Fu 0 a_row v_but x1 x2)
set_option maxHeartbeats 4000000 in
set_option maxRecDepth 100000 in
theorem tX12_right {G : GT} {b : Nat} {o : Nat} {c0 : Hp} {n : Nat} (hw : e_wf (kM o) n) {v_status : Int32} {a_refusals : Nat → Int32} {a_images : Nat → Int32} {a_isKept : Nat → Int32} {a_tape : Nat → Int32} {v_taped : Int32} {v_from : Int32} {v_to : Int32} {v_sort : Int32} {v_worth : Int64} {v_fault : Int32} {v_bad : Int32} {v_nClauses : Int32} {a_nClause : Nat → Int32} {v_nCode : Int32} {a_nOp : Nat → Int32} {a_nArg : Nat → Int32} {v_nLeaves : Int32} {a_pile : Nat → Int32} {a_pileAt : Nat → Int32} {v_piled : Int32} {v_opened : Int32} {a_words : Nat → Int64} {a_headWords : Nat → Int64} {v_law : Int32} {a_set : Nat → Int64} {a_rest : Nat → Int64} {v_broken : Int32} {v_value : Int64} {v_sum : Int64} {a_chances : Nat → Int32} {a_votes : Nat → Int64} {a_costs : Nat → Int32} {a_table : Nat → Int64} {a_prices : Nat → Int32} {v_surely : Int64} {a_mostBy : Nat → Int64} {a_leastBy : Nat → Int64} {v_between : Int64} {v_steadyWays : Int32} {v_quashed : Int32} {a_figures : Nat → Int32} {a_all : Nat → Int32} {a_lies : Nat → Int32} {a_since : Nat → Int32} {v_last : Int32} {v_state : Int64} {Fu : Nat} {v_thrown : Int32} {a_row : Nat → Int32} {v_but : Int32} {x1 : Int32} {x2 : Int32} {R : Int32 × Int32} (hf : fX12_right Fu v_thrown a_row v_but x1 x2 = some R) : E G b yX12_right cX12_right 5 (some .int) (e_rm 2 0 0) e_X0 (e_Z G b (pD (some (.int R.1)) (e_ov (kM o) (wM G b o R.2 v_status a_refusals a_row a_images a_isKept a_tape v_taped v_from v_to v_sort v_worth v_fault v_bad v_nClauses a_nClause v_nCode a_nOp a_nArg v_nLeaves a_pile a_pileAt v_piled v_opened a_words a_headWords v_law a_set a_rest v_broken v_value v_sum a_chances a_votes a_costs a_table a_prices v_surely a_mostBy a_leastBy v_between v_steadyWays v_quashed v_but a_figures a_all a_lies a_since v_last v_state) c0) n) 0 0) 0 [(0, .ref (b + o)), (1, .int x1), (2, .int x2)] [] (e_ov (kM o) (wM G b o v_thrown v_status a_refusals a_row a_images a_isKept a_tape v_taped v_from v_to v_sort v_worth v_fault v_bad v_nClauses a_nClause v_nCode a_nOp a_nArg v_nLeaves a_pile a_pileAt v_piled v_opened a_words a_headWords v_law a_set a_rest v_broken v_value v_sum a_chances a_votes a_costs a_table a_prices v_surely a_mostBy a_leastBy v_between v_steadyWays v_quashed v_but a_figures a_all a_lies a_since v_last v_state) c0) n 0 0 := by
  unfold fX12_right at hf
  refine E.aload_n 0 dX12_right_0 rfl ?_
  refine E.iconst (v := 0) dX12_right_1 (by decide) ?_
  refine E.put (es' := (wM G b o 0 v_status a_refusals a_row a_images a_isKept a_tape v_taped v_from v_to v_sort v_worth v_fault v_bad v_nClauses a_nClause v_nCode a_nOp a_nArg v_nLeaves a_pile a_pileAt v_piled v_opened a_words a_headWords v_law a_set a_rest v_broken v_value v_sum a_chances a_votes a_costs a_table a_prices v_surely a_mostBy a_leastBy v_between v_steadyWays v_quashed v_but a_figures a_all a_lies a_since v_last v_state)) hw 0 o dX12_right_2 flX12_124 ftX12 rfl rfl rfl rfl rfl rfl (Nat.le_of_ble_eq_true rfl) rfl ?_
  refine E.iload_n 1 dX12_right_5 rfl ?_
  refine E.iconst (v := -1) dX12_right_6 (by decide) ?_
  refine E.icmp_ne dX12_right_7 (fun h => ?_) (fun h => ?_)
  · have hf := e_iff hf h
    exact tX12_right_L78 hw hf
  · have hf := e_ift hf h
    refine E.iload_n 2 dX12_right_10 rfl ?_
    refine E.if_ne dX12_right_11 (fun h => ?_) (fun h => ?_)
    · have hf := e_iff hf h
      exact tX12_right_L78 hw hf
    · have hf := e_ift hf h
      refine E.iconst (v := 0) dX12_right_14 (by decide) ?_
      refine E.istore_n (lv' := [(3, .int 0), (0, .ref (b + o)), (1, .int x1), (2, .int x2)]) dX12_right_15 (by decide) rfl ?_
      refine E.iconst (v := 0) dX12_right_16 (by decide) ?_
      refine E.istore (lv' := [(4, .int 0), (3, .int 0), (0, .ref (b + o)), (1, .int x1), (2, .int x2)]) dX12_right_17 (by decide) rfl ?_
      refine E.locals [2, 1, 0] rfl ?_
      exact tX12_right_L19 hw _ hf
set_option maxRecDepth 100000 in
theorem mX12_right {G : GT} {b : Nat} {o : Nat} {c0 : Hp} {n : Nat} (hw : e_wf (kM o) n) {v_status : Int32} {a_refusals : Nat → Int32} {a_images : Nat → Int32} {a_isKept : Nat → Int32} {a_tape : Nat → Int32} {v_taped : Int32} {v_from : Int32} {v_to : Int32} {v_sort : Int32} {v_worth : Int64} {v_fault : Int32} {v_bad : Int32} {v_nClauses : Int32} {a_nClause : Nat → Int32} {v_nCode : Int32} {a_nOp : Nat → Int32} {a_nArg : Nat → Int32} {v_nLeaves : Int32} {a_pile : Nat → Int32} {a_pileAt : Nat → Int32} {v_piled : Int32} {v_opened : Int32} {a_words : Nat → Int64} {a_headWords : Nat → Int64} {v_law : Int32} {a_set : Nat → Int64} {a_rest : Nat → Int64} {v_broken : Int32} {v_value : Int64} {v_sum : Int64} {a_chances : Nat → Int32} {a_votes : Nat → Int64} {a_costs : Nat → Int32} {a_table : Nat → Int64} {a_prices : Nat → Int32} {v_surely : Int64} {a_mostBy : Nat → Int64} {a_leastBy : Nat → Int64} {v_between : Int64} {v_steadyWays : Int32} {v_quashed : Int32} {a_figures : Nat → Int32} {a_all : Nat → Int32} {a_lies : Nat → Int32} {a_since : Nat → Int32} {v_last : Int32} {v_state : Int64} {Fu : Nat} {v_thrown : Int32} {a_row : Nat → Int32} {v_but : Int32} {x1 : Int32} {x2 : Int32} {R : Int32 × Int32} (hf : fX12_right Fu v_thrown a_row v_but x1 x2 = some R) : e_C G b yX12_right cX12_right 5 (some .int) 2 0 0 [.ref (b + o), .int x1, .int x2] (e_ov (kM o) (wM G b o v_thrown v_status a_refusals a_row a_images a_isKept a_tape v_taped v_from v_to v_sort v_worth v_fault v_bad v_nClauses a_nClause v_nCode a_nOp a_nArg v_nLeaves a_pile a_pileAt v_piled v_opened a_words a_headWords v_law a_set a_rest v_broken v_value v_sum a_chances a_votes a_costs a_table a_prices v_surely a_mostBy a_leastBy v_between v_steadyWays v_quashed v_but a_figures a_all a_lies a_since v_last v_state) c0) n (pD (some (.int R.1)) (e_ov (kM o) (wM G b o R.2 v_status a_refusals a_row a_images a_isKept a_tape v_taped v_from v_to v_sort v_worth v_fault v_bad v_nClauses a_nClause v_nCode a_nOp a_nArg v_nLeaves a_pile a_pileAt v_piled v_opened a_words a_headWords v_law a_set a_rest v_broken v_value v_sum a_chances a_votes a_costs a_table a_prices v_surely a_mostBy a_leastBy v_between v_steadyWays v_quashed v_but a_figures a_all a_lies a_since v_last v_state) c0) n) := e_C.of (by decide) (Nat.le_of_ble_eq_true rfl) (tX12_right hw hf)
def fX12_isAhead_L66 (Fu : Nat) (a_row : Nat → Int32) (v_but : Int32) : Option (Int32) := some (0)
set_option maxHeartbeats 4000000 in
set_option maxRecDepth 100000 in
theorem tX12_isAhead_L66 {G : GT} {b : Nat} {o : Nat} {c0 : Hp} {n : Nat} (hw : e_wf (kM o) n) {v_thrown : Int32} {v_status : Int32} {a_refusals : Nat → Int32} {a_images : Nat → Int32} {a_isKept : Nat → Int32} {a_tape : Nat → Int32} {v_taped : Int32} {v_from : Int32} {v_to : Int32} {v_sort : Int32} {v_worth : Int64} {v_fault : Int32} {v_bad : Int32} {v_nClauses : Int32} {a_nClause : Nat → Int32} {v_nCode : Int32} {a_nOp : Nat → Int32} {a_nArg : Nat → Int32} {v_nLeaves : Int32} {a_pile : Nat → Int32} {a_pileAt : Nat → Int32} {v_piled : Int32} {v_opened : Int32} {a_words : Nat → Int64} {a_headWords : Nat → Int64} {v_law : Int32} {a_set : Nat → Int64} {a_rest : Nat → Int64} {v_broken : Int32} {v_value : Int64} {v_sum : Int64} {a_chances : Nat → Int32} {a_votes : Nat → Int64} {a_costs : Nat → Int32} {a_table : Nat → Int64} {a_prices : Nat → Int32} {v_surely : Int64} {a_mostBy : Nat → Int64} {a_leastBy : Nat → Int64} {v_between : Int64} {v_steadyWays : Int32} {v_quashed : Int32} {a_figures : Nat → Int32} {a_all : Nat → Int32} {a_lies : Nat → Int32} {a_since : Nat → Int32} {v_last : Int32} {v_state : Int64} {Fu : Nat} {a_row : Nat → Int32} {v_but : Int32} {R : Int32} (hf : fX12_isAhead_L66 Fu a_row v_but = some R) : E G b yX12_isAhead cX12_isAhead 5 (some .boolean) (e_rm 2 0 0) e_X0 (e_Z G b (pD (some (.int R)) (e_ov (kM o) (wM G b o v_thrown v_status a_refusals a_row a_images a_isKept a_tape v_taped v_from v_to v_sort v_worth v_fault v_bad v_nClauses a_nClause v_nCode a_nOp a_nArg v_nLeaves a_pile a_pileAt v_piled v_opened a_words a_headWords v_law a_set a_rest v_broken v_value v_sum a_chances a_votes a_costs a_table a_prices v_surely a_mostBy a_leastBy v_between v_steadyWays v_quashed v_but a_figures a_all a_lies a_since v_last v_state) c0) n) 0 0) 66 [] [] (e_ov (kM o) (wM G b o v_thrown v_status a_refusals a_row a_images a_isKept a_tape v_taped v_from v_to v_sort v_worth v_fault v_bad v_nClauses a_nClause v_nCode a_nOp a_nArg v_nLeaves a_pile a_pileAt v_piled v_opened a_words a_headWords v_law a_set a_rest v_broken v_value v_sum a_chances a_votes a_costs a_table a_prices v_surely a_mostBy a_leastBy v_between v_steadyWays v_quashed v_but a_figures a_all a_lies a_since v_last v_state) c0) n 0 0 := by
  unfold fX12_isAhead_L66 at hf
  refine E.iconst (v := 0) dX12_isAhead_66 (by decide) ?_
  cases hf
  exact E.zret dX12_isAhead_67 rfl (Nat.le_refl _) (Nat.le_refl _) (pD_rf _ _ _)
def fX12_isAhead (Fu : Nat) (a_row : Nat → Int32) (v_but : Int32) (x1 : Int32) (x2 : Int32) : Option (Int32) := (fX12_rights Fu a_row v_but x1).bind fun r1 => ((fX12_rights Fu a_row v_but x2).bind fun r2 => ((fX12_wrongs Fu a_row v_but x2).bind fun r3 => ((fX12_rights Fu a_row v_but x2).bind fun r4 => ((fX12_rights Fu a_row v_but x1).bind fun r5 => ((fX12_wrongs Fu a_row v_but x1).bind fun r6 => (if (((r4 + 1) * ((r5 + r6) + 2)) : Int32) < (((r1 + 1) * ((r2 + r3) + 2)) : Int32) then (some (1)) else (if (((r1 + 1) * ((r2 + r3) + 2)) : Int32) = (((r4 + 1) * ((r5 + r6) + 2)) : Int32) then (if (x2 : Int32) ≤ (x1 : Int32) then (fX12_isAhead_L66 Fu a_row v_but) else (some (1))) else (fX12_isAhead_L66 Fu a_row v_but))))))))
set_option maxHeartbeats 4000000 in
set_option maxRecDepth 100000 in
theorem tX12_isAhead {G : GT} {b : Nat} {o : Nat} {c0 : Hp} {n : Nat} (hw : e_wf (kM o) n) {v_thrown : Int32} {v_status : Int32} {a_refusals : Nat → Int32} {a_images : Nat → Int32} {a_isKept : Nat → Int32} {a_tape : Nat → Int32} {v_taped : Int32} {v_from : Int32} {v_to : Int32} {v_sort : Int32} {v_worth : Int64} {v_fault : Int32} {v_bad : Int32} {v_nClauses : Int32} {a_nClause : Nat → Int32} {v_nCode : Int32} {a_nOp : Nat → Int32} {a_nArg : Nat → Int32} {v_nLeaves : Int32} {a_pile : Nat → Int32} {a_pileAt : Nat → Int32} {v_piled : Int32} {v_opened : Int32} {a_words : Nat → Int64} {a_headWords : Nat → Int64} {v_law : Int32} {a_set : Nat → Int64} {a_rest : Nat → Int64} {v_broken : Int32} {v_value : Int64} {v_sum : Int64} {a_chances : Nat → Int32} {a_votes : Nat → Int64} {a_costs : Nat → Int32} {a_table : Nat → Int64} {a_prices : Nat → Int32} {v_surely : Int64} {a_mostBy : Nat → Int64} {a_leastBy : Nat → Int64} {v_between : Int64} {v_steadyWays : Int32} {v_quashed : Int32} {a_figures : Nat → Int32} {a_all : Nat → Int32} {a_lies : Nat → Int32} {a_since : Nat → Int32} {v_last : Int32} {v_state : Int64} {Fu : Nat} {a_row : Nat → Int32} {v_but : Int32} {x1 : Int32} {x2 : Int32} {R : Int32} (hf : fX12_isAhead Fu a_row v_but x1 x2 = some R) : E G b yX12_isAhead cX12_isAhead 5 (some .boolean) (e_rm 2 0 0) e_X0 (e_Z G b (pD (some (.int R)) (e_ov (kM o) (wM G b o v_thrown v_status a_refusals a_row a_images a_isKept a_tape v_taped v_from v_to v_sort v_worth v_fault v_bad v_nClauses a_nClause v_nCode a_nOp a_nArg v_nLeaves a_pile a_pileAt v_piled v_opened a_words a_headWords v_law a_set a_rest v_broken v_value v_sum a_chances a_votes a_costs a_table a_prices v_surely a_mostBy a_leastBy v_between v_steadyWays v_quashed v_but a_figures a_all a_lies a_since v_last v_state) c0) n) 0 0) 0 [(0, .ref (b + o)), (1, .int x1), (2, .int x2)] [] (e_ov (kM o) (wM G b o v_thrown v_status a_refusals a_row a_images a_isKept a_tape v_taped v_from v_to v_sort v_worth v_fault v_bad v_nClauses a_nClause v_nCode a_nOp a_nArg v_nLeaves a_pile a_pileAt v_piled v_opened a_words a_headWords v_law a_set a_rest v_broken v_value v_sum a_chances a_votes a_costs a_table a_prices v_surely a_mostBy a_leastBy v_between v_steadyWays v_quashed v_but a_figures a_all a_lies a_since v_last v_state) c0) n 0 0 := by
  unfold fX12_isAhead at hf
  refine E.aload_n 0 dX12_isAhead_0 rfl ?_
  refine E.iload_n 1 dX12_isAhead_1 rfl ?_
  obtain ⟨r1, hc1, hf⟩ := e_bind hf
  refine E.callVD [] dX12_isAhead_2 mlX12_463 ⟨hw.sub (p := 0) rfl, e_ov_get hw.1 (p := 0) rfl rfl⟩ rfl rfl (mX12_rights hw hc1) ⟨Nat.le_of_ble_eq_true rfl, Nat.le_of_ble_eq_true rfl⟩ rfl rfl (Nat.le_of_ble_eq_true rfl) ⟨Nat.le_refl _, Nat.le_refl _⟩ rfl ?_
  refine E.iconst (v := 1) dX12_isAhead_5 (by decide) ?_
  refine E.iadd dX12_isAhead_6 ?_
  refine E.aload_n 0 dX12_isAhead_7 rfl ?_
  refine E.iload_n 2 dX12_isAhead_8 rfl ?_
  obtain ⟨r2, hc2, hf⟩ := e_bind hf
  refine E.callVD [.int (r1 + 1)] dX12_isAhead_9 mlX12_463 ⟨hw.sub (p := 0) rfl, e_ov_get hw.1 (p := 0) rfl rfl⟩ rfl rfl (mX12_rights hw hc2) ⟨Nat.le_of_ble_eq_true rfl, Nat.le_of_ble_eq_true rfl⟩ rfl rfl (Nat.le_of_ble_eq_true rfl) ⟨Nat.le_refl _, Nat.le_refl _⟩ rfl ?_
  refine E.aload_n 0 dX12_isAhead_12 rfl ?_
  refine E.iload_n 2 dX12_isAhead_13 rfl ?_
  obtain ⟨r3, hc3, hf⟩ := e_bind hf
  refine E.callVD [.int r2, .int (r1 + 1)] dX12_isAhead_14 mlX12_466 ⟨hw.sub (p := 0) rfl, e_ov_get hw.1 (p := 0) rfl rfl⟩ rfl rfl (mX12_wrongs hw hc3) ⟨Nat.le_of_ble_eq_true rfl, Nat.le_of_ble_eq_true rfl⟩ rfl rfl (Nat.le_of_ble_eq_true rfl) ⟨Nat.le_refl _, Nat.le_refl _⟩ rfl ?_
  refine E.iadd dX12_isAhead_17 ?_
  refine E.iconst (v := 2) dX12_isAhead_18 (by decide) ?_
  refine E.iadd dX12_isAhead_19 ?_
  refine E.imul dX12_isAhead_20 ?_
  refine E.istore_n (lv' := [(3, .int ((r1 + 1) * ((r2 + r3) + 2))), (0, .ref (b + o)), (1, .int x1), (2, .int x2)]) dX12_isAhead_21 (by decide) rfl ?_
  refine E.aload_n 1 dX12_isAhead_22 rfl ?_
  refine E.iload_n 3 dX12_isAhead_23 rfl ?_
  obtain ⟨r4, hc4, hf⟩ := e_bind hf
  refine E.callVD [] dX12_isAhead_24 mlX12_463 ⟨hw.sub (p := 0) rfl, e_ov_get hw.1 (p := 0) rfl rfl⟩ rfl rfl (mX12_rights hw hc4) ⟨Nat.le_of_ble_eq_true rfl, Nat.le_of_ble_eq_true rfl⟩ rfl rfl (Nat.le_of_ble_eq_true rfl) ⟨Nat.le_refl _, Nat.le_refl _⟩ rfl ?_
  refine E.iconst (v := 1) dX12_isAhead_27 (by decide) ?_
  refine E.iadd dX12_isAhead_28 ?_
  refine E.aload_n 1 dX12_isAhead_29 rfl ?_
  refine E.iload_n 2 dX12_isAhead_30 rfl ?_
  obtain ⟨r5, hc5, hf⟩ := e_bind hf
  refine E.callVD [.int (r4 + 1)] dX12_isAhead_31 mlX12_463 ⟨hw.sub (p := 0) rfl, e_ov_get hw.1 (p := 0) rfl rfl⟩ rfl rfl (mX12_rights hw hc5) ⟨Nat.le_of_ble_eq_true rfl, Nat.le_of_ble_eq_true rfl⟩ rfl rfl (Nat.le_of_ble_eq_true rfl) ⟨Nat.le_refl _, Nat.le_refl _⟩ rfl ?_
  refine E.aload_n 1 dX12_isAhead_34 rfl ?_
  refine E.iload_n 2 dX12_isAhead_35 rfl ?_
  obtain ⟨r6, hc6, hf⟩ := e_bind hf
  refine E.callVD [.int r5, .int (r4 + 1)] dX12_isAhead_36 mlX12_466 ⟨hw.sub (p := 0) rfl, e_ov_get hw.1 (p := 0) rfl rfl⟩ rfl rfl (mX12_wrongs hw hc6) ⟨Nat.le_of_ble_eq_true rfl, Nat.le_of_ble_eq_true rfl⟩ rfl rfl (Nat.le_of_ble_eq_true rfl) ⟨Nat.le_refl _, Nat.le_refl _⟩ rfl ?_
  refine E.iadd dX12_isAhead_39 ?_
  refine E.iconst (v := 2) dX12_isAhead_40 (by decide) ?_
  refine E.iadd dX12_isAhead_41 ?_
  refine E.imul dX12_isAhead_42 ?_
  refine E.istore (lv' := [(4, .int ((r4 + 1) * ((r5 + r6) + 2))), (3, .int ((r1 + 1) * ((r2 + r3) + 2))), (0, .ref (b + o)), (1, .int x1), (2, .int x2)]) dX12_isAhead_43 (by decide) rfl ?_
  refine E.iload_n 1 dX12_isAhead_45 rfl ?_
  refine E.iload 0 dX12_isAhead_46 rfl ?_
  refine E.icmp_gt dX12_isAhead_48 (fun h => ?_) (fun h => ?_)
  · have hf := e_ift hf h
    refine E.iconst (v := 1) dX12_isAhead_62 (by decide) ?_
    refine E.goto dX12_isAhead_63 ?_
    cases hf
    exact E.zret dX12_isAhead_67 rfl (Nat.le_refl _) (Nat.le_refl _) (pD_rf _ _ _)
  · have hf := e_iff hf h
    refine E.iload_n 1 dX12_isAhead_51 rfl ?_
    refine E.iload 0 dX12_isAhead_52 rfl ?_
    refine E.icmp_ne dX12_isAhead_54 (fun h => ?_) (fun h => ?_)
    · have hf := e_iff hf h
      refine E.locals [] rfl ?_
      exact tX12_isAhead_L66 hw hf
    · have hf := e_ift hf h
      refine E.iload_n 3 dX12_isAhead_57 rfl ?_
      refine E.iload_n 4 dX12_isAhead_58 rfl ?_
      refine E.icmp_ge dX12_isAhead_59 (fun h => ?_) (fun h => ?_)
      · have hf := e_ift hf h
        refine E.locals [] rfl ?_
        exact tX12_isAhead_L66 hw hf
      · have hf := e_iff hf h
        refine E.iconst (v := 1) dX12_isAhead_62 (by decide) ?_
        refine E.goto dX12_isAhead_63 ?_
        cases hf
        exact E.zret dX12_isAhead_67 rfl (Nat.le_refl _) (Nat.le_refl _) (pD_rf _ _ _)
set_option maxRecDepth 100000 in
theorem mX12_isAhead {G : GT} {b : Nat} {o : Nat} {c0 : Hp} {n : Nat} (hw : e_wf (kM o) n) {v_thrown : Int32} {v_status : Int32} {a_refusals : Nat → Int32} {a_images : Nat → Int32} {a_isKept : Nat → Int32} {a_tape : Nat → Int32} {v_taped : Int32} {v_from : Int32} {v_to : Int32} {v_sort : Int32} {v_worth : Int64} {v_fault : Int32} {v_bad : Int32} {v_nClauses : Int32} {a_nClause : Nat → Int32} {v_nCode : Int32} {a_nOp : Nat → Int32} {a_nArg : Nat → Int32} {v_nLeaves : Int32} {a_pile : Nat → Int32} {a_pileAt : Nat → Int32} {v_piled : Int32} {v_opened : Int32} {a_words : Nat → Int64} {a_headWords : Nat → Int64} {v_law : Int32} {a_set : Nat → Int64} {a_rest : Nat → Int64} {v_broken : Int32} {v_value : Int64} {v_sum : Int64} {a_chances : Nat → Int32} {a_votes : Nat → Int64} {a_costs : Nat → Int32} {a_table : Nat → Int64} {a_prices : Nat → Int32} {v_surely : Int64} {a_mostBy : Nat → Int64} {a_leastBy : Nat → Int64} {v_between : Int64} {v_steadyWays : Int32} {v_quashed : Int32} {a_figures : Nat → Int32} {a_all : Nat → Int32} {a_lies : Nat → Int32} {a_since : Nat → Int32} {v_last : Int32} {v_state : Int64} {Fu : Nat} {a_row : Nat → Int32} {v_but : Int32} {x1 : Int32} {x2 : Int32} {R : Int32} (hf : fX12_isAhead Fu a_row v_but x1 x2 = some R) : e_C G b yX12_isAhead cX12_isAhead 5 (some .boolean) 2 0 0 [.ref (b + o), .int x1, .int x2] (e_ov (kM o) (wM G b o v_thrown v_status a_refusals a_row a_images a_isKept a_tape v_taped v_from v_to v_sort v_worth v_fault v_bad v_nClauses a_nClause v_nCode a_nOp a_nArg v_nLeaves a_pile a_pileAt v_piled v_opened a_words a_headWords v_law a_set a_rest v_broken v_value v_sum a_chances a_votes a_costs a_table a_prices v_surely a_mostBy a_leastBy v_between v_steadyWays v_quashed v_but a_figures a_all a_lies a_since v_last v_state) c0) n (pD (some (.int R)) (e_ov (kM o) (wM G b o v_thrown v_status a_refusals a_row a_images a_isKept a_tape v_taped v_from v_to v_sort v_worth v_fault v_bad v_nClauses a_nClause v_nCode a_nOp a_nArg v_nLeaves a_pile a_pileAt v_piled v_opened a_words a_headWords v_law a_set a_rest v_broken v_value v_sum a_chances a_votes a_costs a_table a_prices v_surely a_mostBy a_leastBy v_between v_steadyWays v_quashed v_but a_figures a_all a_lies a_since v_last v_state) c0) n) := e_C.of (by decide) (Nat.le_of_ble_eq_true rfl) (tX12_isAhead hw hf)
def fX12_trusted_L54 (Fu : Nat) (k7 : Int32 → (Nat → Int32) → Int32 → Int32 → Int32 → Option (Int32 × Int32)) (k22 : Int32 → (Nat → Int32) → Int32 → Int32 → Int32 → Int32 → Int32 → Option (Int32 × Int32)) (v_thrown : Int32) (a_row : Nat → Int32) (v_but : Int32) (x1 : Int32) (x2 : Int32) (x4 : Int32) (s0 : Int32) : Option (Int32 × Int32) := k22 v_thrown a_row v_but x1 x2 (s0 + 0) (x4 + 1)
set_option maxHeartbeats 4000000 in
set_option maxRecDepth 100000 in
theorem tX12_trusted_L54 {G : GT} {b : Nat} {o : Nat} {c0 : Hp} {n : Nat} (hw : e_wf (kM o) n) {v_status : Int32} {a_refusals : Nat → Int32} {a_images : Nat → Int32} {a_isKept : Nat → Int32} {a_tape : Nat → Int32} {v_taped : Int32} {v_from : Int32} {v_to : Int32} {v_sort : Int32} {v_worth : Int64} {v_fault : Int32} {v_bad : Int32} {v_nClauses : Int32} {a_nClause : Nat → Int32} {v_nCode : Int32} {a_nOp : Nat → Int32} {a_nArg : Nat → Int32} {v_nLeaves : Int32} {a_pile : Nat → Int32} {a_pileAt : Nat → Int32} {v_piled : Int32} {v_opened : Int32} {a_words : Nat → Int64} {a_headWords : Nat → Int64} {v_law : Int32} {a_set : Nat → Int64} {a_rest : Nat → Int64} {v_broken : Int32} {v_value : Int64} {v_sum : Int64} {a_chances : Nat → Int32} {a_votes : Nat → Int64} {a_costs : Nat → Int32} {a_table : Nat → Int64} {a_prices : Nat → Int32} {v_surely : Int64} {a_mostBy : Nat → Int64} {a_leastBy : Nat → Int64} {v_between : Int64} {v_steadyWays : Int32} {v_quashed : Int32} {a_figures : Nat → Int32} {a_all : Nat → Int32} {a_lies : Nat → Int32} {a_since : Nat → Int32} {v_last : Int32} {v_state : Int64} {Fu : Nat} {k7 : Int32 → (Nat → Int32) → Int32 → Int32 → Int32 → Option (Int32 × Int32)} {k22 : Int32 → (Nat → Int32) → Int32 → Int32 → Int32 → Int32 → Int32 → Option (Int32 × Int32)} (hk7 : ∀ {v_thrown : Int32} {a_row : Nat → Int32} {v_but : Int32} {x1 : Int32} {x2 : Int32} {R : Int32 × Int32}, k7 v_thrown a_row v_but x1 x2 = some R → E G b yX12_trusted cX12_trusted 5 (some .int) (e_rm 3 0 0) e_X0 (e_Z G b (pD (some (.int R.1)) (e_ov (kM o) (wM G b o R.2 v_status a_refusals a_row a_images a_isKept a_tape v_taped v_from v_to v_sort v_worth v_fault v_bad v_nClauses a_nClause v_nCode a_nOp a_nArg v_nLeaves a_pile a_pileAt v_piled v_opened a_words a_headWords v_law a_set a_rest v_broken v_value v_sum a_chances a_votes a_costs a_table a_prices v_surely a_mostBy a_leastBy v_between v_steadyWays v_quashed v_but a_figures a_all a_lies a_since v_last v_state) c0) n) 0 0) 7 [(0, .ref (b + o)), (1, .int x1), (2, .int x2)] [] (e_ov (kM o) (wM G b o v_thrown v_status a_refusals a_row a_images a_isKept a_tape v_taped v_from v_to v_sort v_worth v_fault v_bad v_nClauses a_nClause v_nCode a_nOp a_nArg v_nLeaves a_pile a_pileAt v_piled v_opened a_words a_headWords v_law a_set a_rest v_broken v_value v_sum a_chances a_votes a_costs a_table a_prices v_surely a_mostBy a_leastBy v_between v_steadyWays v_quashed v_but a_figures a_all a_lies a_since v_last v_state) c0) n 0 0) (hk22 : ∀ {v_thrown : Int32} {a_row : Nat → Int32} {v_but : Int32} {x1 : Int32} {x2 : Int32} {x3 : Int32} {x4 : Int32} {R : Int32 × Int32}, k22 v_thrown a_row v_but x1 x2 x3 x4 = some R → E G b yX12_trusted cX12_trusted 5 (some .int) (e_rm 3 0 0) e_X0 (e_Z G b (pD (some (.int R.1)) (e_ov (kM o) (wM G b o R.2 v_status a_refusals a_row a_images a_isKept a_tape v_taped v_from v_to v_sort v_worth v_fault v_bad v_nClauses a_nClause v_nCode a_nOp a_nArg v_nLeaves a_pile a_pileAt v_piled v_opened a_words a_headWords v_law a_set a_rest v_broken v_value v_sum a_chances a_votes a_costs a_table a_prices v_surely a_mostBy a_leastBy v_between v_steadyWays v_quashed v_but a_figures a_all a_lies a_since v_last v_state) c0) n) 0 0) 22 [(0, .ref (b + o)), (1, .int x1), (2, .int x2), (3, .int x3), (4, .int x4)] [] (e_ov (kM o) (wM G b o v_thrown v_status a_refusals a_row a_images a_isKept a_tape v_taped v_from v_to v_sort v_worth v_fault v_bad v_nClauses a_nClause v_nCode a_nOp a_nArg v_nLeaves a_pile a_pileAt v_piled v_opened a_words a_headWords v_law a_set a_rest v_broken v_value v_sum a_chances a_votes a_costs a_table a_prices v_surely a_mostBy a_leastBy v_between v_steadyWays v_quashed v_but a_figures a_all a_lies a_since v_last v_state) c0) n 0 0) {v_thrown : Int32} {a_row : Nat → Int32} {v_but : Int32} {x1 : Int32} {x2 : Int32} {x4 : Int32} {s0 : Int32} {R : Int32 × Int32} (hf : fX12_trusted_L54 Fu k7 k22 v_thrown a_row v_but x1 x2 x4 s0 = some R) : E G b yX12_trusted cX12_trusted 5 (some .int) (e_rm 3 0 0) e_X0 (e_Z G b (pD (some (.int R.1)) (e_ov (kM o) (wM G b o R.2 v_status a_refusals a_row a_images a_isKept a_tape v_taped v_from v_to v_sort v_worth v_fault v_bad v_nClauses a_nClause v_nCode a_nOp a_nArg v_nLeaves a_pile a_pileAt v_piled v_opened a_words a_headWords v_law a_set a_rest v_broken v_value v_sum a_chances a_votes a_costs a_table a_prices v_surely a_mostBy a_leastBy v_between v_steadyWays v_quashed v_but a_figures a_all a_lies a_since v_last v_state) c0) n) 0 0) 54 [(0, .ref (b + o)), (1, .int x1), (2, .int x2), (4, .int x4)] [.int s0] (e_ov (kM o) (wM G b o v_thrown v_status a_refusals a_row a_images a_isKept a_tape v_taped v_from v_to v_sort v_worth v_fault v_bad v_nClauses a_nClause v_nCode a_nOp a_nArg v_nLeaves a_pile a_pileAt v_piled v_opened a_words a_headWords v_law a_set a_rest v_broken v_value v_sum a_chances a_votes a_costs a_table a_prices v_surely a_mostBy a_leastBy v_between v_steadyWays v_quashed v_but a_figures a_all a_lies a_since v_last v_state) c0) n 0 0 := by
  unfold fX12_trusted_L54 at hf
  refine E.iconst (v := 0) dX12_trusted_54 (by decide) ?_
  refine E.iadd dX12_trusted_55 ?_
  refine E.istore_n (lv' := [(3, .int (s0 + 0)), (0, .ref (b + o)), (1, .int x1), (2, .int x2), (4, .int x4)]) dX12_trusted_56 (by decide) rfl ?_
  refine E.iinc (q := 4) (v := (x4 + 1)) (lv' := [(4, .int (x4 + 1)), (3, .int (s0 + 0)), (0, .ref (b + o)), (1, .int x1), (2, .int x2)]) dX12_trusted_57 rfl rfl (by decide) rfl ?_
  refine E.goto dX12_trusted_60 ?_
  refine E.locals [2, 3, 4, 1, 0] rfl ?_
  exact hk22 hf
def fX12_trusted_L22 (Fu : Nat) (k7 : Int32 → (Nat → Int32) → Int32 → Int32 → Int32 → Option (Int32 × Int32)) : Nat → Int32 → (Nat → Int32) → Int32 → Int32 → Int32 → Int32 → Int32 → Option (Int32 × Int32)
  | 0, _, _, _, _, _, _, _ => none
  | k + 1, v_thrown, a_row, v_but, x1, x2, x3, x4 => gd 0 5570 (if ((a_row (0 : Int32).toNatClampNeg) : Int32) ≤ (x4 : Int32) then (if (x3 : Int32) = (x1 : Int32) then (some (x2, v_thrown)) else (k7 v_thrown a_row v_but x1 (x2 + 1))) else (if (x4 : Int32) = (x2 : Int32) then (fX12_trusted_L54 Fu k7 (fX12_trusted_L22 Fu k7 k) v_thrown a_row v_but x1 x2 x4 x3) else ((fX12_isAhead Fu a_row v_but x4 x2).bind fun r3 => (if (r3 : Int32) = 0 then (fX12_trusted_L54 Fu k7 (fX12_trusted_L22 Fu k7 k) v_thrown a_row v_but x1 x2 x4 x3) else ((fX12_trusted_L22 Fu k7 k) v_thrown a_row v_but x1 x2 (x3 + 1) (x4 + 1))))))
set_option maxHeartbeats 4000000 in
set_option maxRecDepth 100000 in
theorem tX12_trusted_L22 {G : GT} {b : Nat} {o : Nat} {c0 : Hp} {n : Nat} (hw : e_wf (kM o) n) {v_status : Int32} {a_refusals : Nat → Int32} {a_images : Nat → Int32} {a_isKept : Nat → Int32} {a_tape : Nat → Int32} {v_taped : Int32} {v_from : Int32} {v_to : Int32} {v_sort : Int32} {v_worth : Int64} {v_fault : Int32} {v_bad : Int32} {v_nClauses : Int32} {a_nClause : Nat → Int32} {v_nCode : Int32} {a_nOp : Nat → Int32} {a_nArg : Nat → Int32} {v_nLeaves : Int32} {a_pile : Nat → Int32} {a_pileAt : Nat → Int32} {v_piled : Int32} {v_opened : Int32} {a_words : Nat → Int64} {a_headWords : Nat → Int64} {v_law : Int32} {a_set : Nat → Int64} {a_rest : Nat → Int64} {v_broken : Int32} {v_value : Int64} {v_sum : Int64} {a_chances : Nat → Int32} {a_votes : Nat → Int64} {a_costs : Nat → Int32} {a_table : Nat → Int64} {a_prices : Nat → Int32} {v_surely : Int64} {a_mostBy : Nat → Int64} {a_leastBy : Nat → Int64} {v_between : Int64} {v_steadyWays : Int32} {v_quashed : Int32} {a_figures : Nat → Int32} {a_all : Nat → Int32} {a_lies : Nat → Int32} {a_since : Nat → Int32} {v_last : Int32} {v_state : Int64} {Fu : Nat} {k7 : Int32 → (Nat → Int32) → Int32 → Int32 → Int32 → Option (Int32 × Int32)} (hk7 : ∀ {v_thrown : Int32} {a_row : Nat → Int32} {v_but : Int32} {x1 : Int32} {x2 : Int32} {R : Int32 × Int32}, k7 v_thrown a_row v_but x1 x2 = some R → E G b yX12_trusted cX12_trusted 5 (some .int) (e_rm 3 0 0) e_X0 (e_Z G b (pD (some (.int R.1)) (e_ov (kM o) (wM G b o R.2 v_status a_refusals a_row a_images a_isKept a_tape v_taped v_from v_to v_sort v_worth v_fault v_bad v_nClauses a_nClause v_nCode a_nOp a_nArg v_nLeaves a_pile a_pileAt v_piled v_opened a_words a_headWords v_law a_set a_rest v_broken v_value v_sum a_chances a_votes a_costs a_table a_prices v_surely a_mostBy a_leastBy v_between v_steadyWays v_quashed v_but a_figures a_all a_lies a_since v_last v_state) c0) n) 0 0) 7 [(0, .ref (b + o)), (1, .int x1), (2, .int x2)] [] (e_ov (kM o) (wM G b o v_thrown v_status a_refusals a_row a_images a_isKept a_tape v_taped v_from v_to v_sort v_worth v_fault v_bad v_nClauses a_nClause v_nCode a_nOp a_nArg v_nLeaves a_pile a_pileAt v_piled v_opened a_words a_headWords v_law a_set a_rest v_broken v_value v_sum a_chances a_votes a_costs a_table a_prices v_surely a_mostBy a_leastBy v_between v_steadyWays v_quashed v_but a_figures a_all a_lies a_since v_last v_state) c0) n 0 0) : ∀ (k : Nat) {v_thrown : Int32} {a_row : Nat → Int32} {v_but : Int32} {x1 : Int32} {x2 : Int32} {x3 : Int32} {x4 : Int32} {R : Int32 × Int32}, fX12_trusted_L22 Fu k7 k v_thrown a_row v_but x1 x2 x3 x4 = some R → E G b yX12_trusted cX12_trusted 5 (some .int) (e_rm 3 0 0) e_X0 (e_Z G b (pD (some (.int R.1)) (e_ov (kM o) (wM G b o R.2 v_status a_refusals a_row a_images a_isKept a_tape v_taped v_from v_to v_sort v_worth v_fault v_bad v_nClauses a_nClause v_nCode a_nOp a_nArg v_nLeaves a_pile a_pileAt v_piled v_opened a_words a_headWords v_law a_set a_rest v_broken v_value v_sum a_chances a_votes a_costs a_table a_prices v_surely a_mostBy a_leastBy v_between v_steadyWays v_quashed v_but a_figures a_all a_lies a_since v_last v_state) c0) n) 0 0) 22 [(0, .ref (b + o)), (1, .int x1), (2, .int x2), (3, .int x3), (4, .int x4)] [] (e_ov (kM o) (wM G b o v_thrown v_status a_refusals a_row a_images a_isKept a_tape v_taped v_from v_to v_sort v_worth v_fault v_bad v_nClauses a_nClause v_nCode a_nOp a_nArg v_nLeaves a_pile a_pileAt v_piled v_opened a_words a_headWords v_law a_set a_rest v_broken v_value v_sum a_chances a_votes a_costs a_table a_prices v_surely a_mostBy a_leastBy v_between v_steadyWays v_quashed v_but a_figures a_all a_lies a_since v_last v_state) c0) n 0 0 := by
  intro k
  induction k with
  | zero =>
    intro _ _ _ _ _ _ _ _ hf
    have hf : (none : Option (Int32 × Int32)) = some _ := hf
    cases hf
  | succ k ih =>
    intro v_thrown a_row v_but x1 x2 x3 x4 R hf
    rw [fX12_trusted_L22] at hf
    refine E.iload 4 dX12_trusted_22 rfl ?_
    refine E.aload_n 0 dX12_trusted_24 rfl ?_
    refine E.get hw 0 o dX12_trusted_25 flX12_13 rfl rfl rfl rfl ?_
    refine E.iconst (v := 0) dX12_trusted_28 (by decide) ?_
    obtain ⟨g2, hf⟩ := gd_some hf
    refine E.iald hw 2 (o + 2) dX12_trusted_29 rfl rfl g2 ?_
    refine E.icmp_ge dX12_trusted_30 (fun h => ?_) (fun h => ?_)
    · have hf := e_ift hf h
      refine E.iload_n 3 dX12_trusted_63 rfl ?_
      refine E.iload_n 1 dX12_trusted_64 rfl ?_
      refine E.icmp_ne dX12_trusted_65 (fun h => ?_) (fun h => ?_)
      · have hf := e_iff hf h
        refine E.iinc (q := 2) (v := (x2 + 1)) (lv' := [(2, .int (x2 + 1)), (0, .ref (b + o)), (1, .int x1), (3, .int x3), (4, .int x4)]) dX12_trusted_70 rfl rfl (by decide) rfl ?_
        refine E.goto dX12_trusted_73 ?_
        refine E.locals [1, 2, 0] rfl ?_
        exact hk7 hf
      · have hf := e_ift hf h
        refine E.iload_n 2 dX12_trusted_68 rfl ?_
        cases hf
        exact E.iret dX12_trusted_69 (Nat.le_refl _) (Nat.le_refl _) (pD_rf _ _ _)
    · have hf := e_iff hf h
      refine E.iload_n 3 dX12_trusted_33 rfl ?_
      refine E.iload 4 dX12_trusted_34 rfl ?_
      refine E.iload_n 2 dX12_trusted_36 rfl ?_
      refine E.icmp_eq dX12_trusted_37 (fun h => ?_) (fun h => ?_)
      · have hf := e_ift hf h
        refine E.locals [0, 1, 2, 4] rfl ?_
        exact tX12_trusted_L54 hw hk7 ih hf
      · have hf := e_iff hf h
        refine E.aload_n 0 dX12_trusted_40 rfl ?_
        refine E.iload 4 dX12_trusted_41 rfl ?_
        refine E.iload_n 2 dX12_trusted_43 rfl ?_
        obtain ⟨r3, hc3, hf⟩ := e_bind hf
        refine E.callVD [.int x3] dX12_trusted_44 mlX12_469 ⟨hw.sub (p := 0) rfl, e_ov_get hw.1 (p := 0) rfl rfl⟩ rfl rfl (mX12_isAhead hw hc3) ⟨Nat.le_of_ble_eq_true rfl, Nat.le_of_ble_eq_true rfl⟩ rfl rfl (Nat.le_of_ble_eq_true rfl) ⟨Nat.le_refl _, Nat.le_refl _⟩ rfl ?_
        refine E.if_eq dX12_trusted_47 (fun h => ?_) (fun h => ?_)
        · have hf := e_ift hf h
          refine E.locals [0, 1, 2, 4] rfl ?_
          exact tX12_trusted_L54 hw hk7 ih hf
        · have hf := e_iff hf h
          refine E.iconst (v := 1) dX12_trusted_50 (by decide) ?_
          refine E.goto dX12_trusted_51 ?_
          refine E.iadd dX12_trusted_55 ?_
          refine E.istore_n (lv' := [(3, .int (x3 + 1)), (0, .ref (b + o)), (1, .int x1), (2, .int x2), (4, .int x4)]) dX12_trusted_56 (by decide) rfl ?_
          refine E.iinc (q := 4) (v := (x4 + 1)) (lv' := [(4, .int (x4 + 1)), (3, .int (x3 + 1)), (0, .ref (b + o)), (1, .int x1), (2, .int x2)]) dX12_trusted_57 rfl rfl (by decide) rfl ?_
          refine E.goto dX12_trusted_60 ?_
          refine E.locals [2, 3, 4, 1, 0] rfl ?_
          exact ih hf
def fX12_trusted_L7 (Fu : Nat) : Nat → Int32 → (Nat → Int32) → Int32 → Int32 → Int32 → Option (Int32 × Int32)
  | 0, _, _, _, _, _ => none
  | k + 1, v_thrown, a_row, v_but, x1, x2 => gd 0 5570 (if ((a_row (0 : Int32).toNatClampNeg) : Int32) ≤ (x2 : Int32) then (some ((-1 : Int32), v_thrown)) else (fX12_trusted_L22 Fu (fX12_trusted_L7 Fu k) Fu v_thrown a_row v_but x1 x2 0 0))
set_option maxHeartbeats 4000000 in
set_option maxRecDepth 100000 in
theorem tX12_trusted_L7 {G : GT} {b : Nat} {o : Nat} {c0 : Hp} {n : Nat} (hw : e_wf (kM o) n) {v_status : Int32} {a_refusals : Nat → Int32} {a_images : Nat → Int32} {a_isKept : Nat → Int32} {a_tape : Nat → Int32} {v_taped : Int32} {v_from : Int32} {v_to : Int32} {v_sort : Int32} {v_worth : Int64} {v_fault : Int32} {v_bad : Int32} {v_nClauses : Int32} {a_nClause : Nat → Int32} {v_nCode : Int32} {a_nOp : Nat → Int32} {a_nArg : Nat → Int32} {v_nLeaves : Int32} {a_pile : Nat → Int32} {a_pileAt : Nat → Int32} {v_piled : Int32} {v_opened : Int32} {a_words : Nat → Int64} {a_headWords : Nat → Int64} {v_law : Int32} {a_set : Nat → Int64} {a_rest : Nat → Int64} {v_broken : Int32} {v_value : Int64} {v_sum : Int64} {a_chances : Nat → Int32} {a_votes : Nat → Int64} {a_costs : Nat → Int32} {a_table : Nat → Int64} {a_prices : Nat → Int32} {v_surely : Int64} {a_mostBy : Nat → Int64} {a_leastBy : Nat → Int64} {v_between : Int64} {v_steadyWays : Int32} {v_quashed : Int32} {a_figures : Nat → Int32} {a_all : Nat → Int32} {a_lies : Nat → Int32} {a_since : Nat → Int32} {v_last : Int32} {v_state : Int64} {Fu : Nat} : ∀ (k : Nat) {v_thrown : Int32} {a_row : Nat → Int32} {v_but : Int32} {x1 : Int32} {x2 : Int32} {R : Int32 × Int32}, fX12_trusted_L7 Fu k v_thrown a_row v_but x1 x2 = some R → E G b yX12_trusted cX12_trusted 5 (some .int) (e_rm 3 0 0) e_X0 (e_Z G b (pD (some (.int R.1)) (e_ov (kM o) (wM G b o R.2 v_status a_refusals a_row a_images a_isKept a_tape v_taped v_from v_to v_sort v_worth v_fault v_bad v_nClauses a_nClause v_nCode a_nOp a_nArg v_nLeaves a_pile a_pileAt v_piled v_opened a_words a_headWords v_law a_set a_rest v_broken v_value v_sum a_chances a_votes a_costs a_table a_prices v_surely a_mostBy a_leastBy v_between v_steadyWays v_quashed v_but a_figures a_all a_lies a_since v_last v_state) c0) n) 0 0) 7 [(0, .ref (b + o)), (1, .int x1), (2, .int x2)] [] (e_ov (kM o) (wM G b o v_thrown v_status a_refusals a_row a_images a_isKept a_tape v_taped v_from v_to v_sort v_worth v_fault v_bad v_nClauses a_nClause v_nCode a_nOp a_nArg v_nLeaves a_pile a_pileAt v_piled v_opened a_words a_headWords v_law a_set a_rest v_broken v_value v_sum a_chances a_votes a_costs a_table a_prices v_surely a_mostBy a_leastBy v_between v_steadyWays v_quashed v_but a_figures a_all a_lies a_since v_last v_state) c0) n 0 0 := by
  intro k
  induction k with
  | zero =>
    intro _ _ _ _ _ _ hf
    have hf : (none : Option (Int32 × Int32)) = some _ := hf
    cases hf
  | succ k ih =>
    intro v_thrown a_row v_but x1 x2 R hf
    rw [fX12_trusted_L7] at hf
    refine E.iload_n 2 dX12_trusted_7 rfl ?_
    refine E.aload_n 0 dX12_trusted_8 rfl ?_
    refine E.get hw 0 o dX12_trusted_9 flX12_13 rfl rfl rfl rfl ?_
    refine E.iconst (v := 0) dX12_trusted_12 (by decide) ?_
    obtain ⟨g1, hf⟩ := gd_some hf
    refine E.iald hw 2 (o + 2) dX12_trusted_13 rfl rfl g1 ?_
    refine E.icmp_ge dX12_trusted_14 (fun h => ?_) (fun h => ?_)
    · have hf := e_ift hf h
      refine E.iconst (v := -1) dX12_trusted_76 (by decide) ?_
      cases hf
      exact E.iret dX12_trusted_77 (Nat.le_refl _) (Nat.le_refl _) (pD_rf _ _ _)
    · have hf := e_iff hf h
      refine E.iconst (v := 0) dX12_trusted_17 (by decide) ?_
      refine E.istore_n (lv' := [(3, .int 0), (0, .ref (b + o)), (1, .int x1), (2, .int x2)]) dX12_trusted_18 (by decide) rfl ?_
      refine E.iconst (v := 0) dX12_trusted_19 (by decide) ?_
      refine E.istore (lv' := [(4, .int 0), (3, .int 0), (0, .ref (b + o)), (1, .int x1), (2, .int x2)]) dX12_trusted_20 (by decide) rfl ?_
      refine E.locals [2, 3, 4, 1, 0] rfl ?_
      exact tX12_trusted_L22 hw ih _ hf
def fX12_trusted (Fu : Nat) (v_thrown : Int32) (a_row : Nat → Int32) (v_but : Int32) (x1 : Int32) : Option (Int32 × Int32) := fX12_trusted_L7 Fu Fu 0 a_row v_but x1 0
set_option maxHeartbeats 4000000 in
set_option maxRecDepth 100000 in
theorem tX12_trusted {G : GT} {b : Nat} {o : Nat} {c0 : Hp} {n : Nat} (hw : e_wf (kM o) n) {v_status : Int32} {a_refusals : Nat → Int32} {a_images : Nat → Int32} {a_isKept : Nat → Int32} {a_tape : Nat → Int32} {v_taped : Int32} {v_from : Int32} {v_to : Int32} {v_sort : Int32} {v_worth : Int64} {v_fault : Int32} {v_bad : Int32} {v_nClauses : Int32} {a_nClause : Nat → Int32} {v_nCode : Int32} {a_nOp : Nat → Int32} {a_nArg : Nat → Int32} {v_nLeaves : Int32} {a_pile : Nat → Int32} {a_pileAt : Nat → Int32} {v_piled : Int32} {v_opened : Int32} {a_words : Nat → Int64} {a_headWords : Nat → Int64} {v_law : Int32} {a_set : Nat → Int64} {a_rest : Nat → Int64} {v_broken : Int32} {v_value : Int64} {v_sum : Int64} {a_chances : Nat → Int32} {a_votes : Nat → Int64} {a_costs : Nat → Int32} {a_table : Nat → Int64} {a_prices : Nat → Int32} {v_surely : Int64} {a_mostBy : Nat → Int64} {a_leastBy : Nat → Int64} {v_between : Int64} {v_steadyWays : Int32} {v_quashed : Int32} {a_figures : Nat → Int32} {a_all : Nat → Int32} {a_lies : Nat → Int32} {a_since : Nat → Int32} {v_last : Int32} {v_state : Int64} {Fu : Nat} {v_thrown : Int32} {a_row : Nat → Int32} {v_but : Int32} {x1 : Int32} {R : Int32 × Int32} (hf : fX12_trusted Fu v_thrown a_row v_but x1 = some R) : E G b yX12_trusted cX12_trusted 5 (some .int) (e_rm 3 0 0) e_X0 (e_Z G b (pD (some (.int R.1)) (e_ov (kM o) (wM G b o R.2 v_status a_refusals a_row a_images a_isKept a_tape v_taped v_from v_to v_sort v_worth v_fault v_bad v_nClauses a_nClause v_nCode a_nOp a_nArg v_nLeaves a_pile a_pileAt v_piled v_opened a_words a_headWords v_law a_set a_rest v_broken v_value v_sum a_chances a_votes a_costs a_table a_prices v_surely a_mostBy a_leastBy v_between v_steadyWays v_quashed v_but a_figures a_all a_lies a_since v_last v_state) c0) n) 0 0) 0 [(0, .ref (b + o)), (1, .int x1)] [] (e_ov (kM o) (wM G b o v_thrown v_status a_refusals a_row a_images a_isKept a_tape v_taped v_from v_to v_sort v_worth v_fault v_bad v_nClauses a_nClause v_nCode a_nOp a_nArg v_nLeaves a_pile a_pileAt v_piled v_opened a_words a_headWords v_law a_set a_rest v_broken v_value v_sum a_chances a_votes a_costs a_table a_prices v_surely a_mostBy a_leastBy v_between v_steadyWays v_quashed v_but a_figures a_all a_lies a_since v_last v_state) c0) n 0 0 := by
  unfold fX12_trusted at hf
  refine E.aload_n 0 dX12_trusted_0 rfl ?_
  refine E.iconst (v := 0) dX12_trusted_1 (by decide) ?_
  refine E.put (es' := (wM G b o 0 v_status a_refusals a_row a_images a_isKept a_tape v_taped v_from v_to v_sort v_worth v_fault v_bad v_nClauses a_nClause v_nCode a_nOp a_nArg v_nLeaves a_pile a_pileAt v_piled v_opened a_words a_headWords v_law a_set a_rest v_broken v_value v_sum a_chances a_votes a_costs a_table a_prices v_surely a_mostBy a_leastBy v_between v_steadyWays v_quashed v_but a_figures a_all a_lies a_since v_last v_state)) hw 0 o dX12_trusted_2 flX12_124 ftX12 rfl rfl rfl rfl rfl rfl (Nat.le_of_ble_eq_true rfl) rfl ?_
  refine E.iconst (v := 0) dX12_trusted_5 (by decide) ?_
  refine E.istore_n (lv' := [(2, .int 0), (0, .ref (b + o)), (1, .int x1)]) dX12_trusted_6 (by decide) rfl ?_
  refine E.locals [1, 2, 0] rfl ?_
  exact tX12_trusted_L7 hw _ hf
set_option maxRecDepth 100000 in
theorem mX12_trusted {G : GT} {b : Nat} {o : Nat} {c0 : Hp} {n : Nat} (hw : e_wf (kM o) n) {v_status : Int32} {a_refusals : Nat → Int32} {a_images : Nat → Int32} {a_isKept : Nat → Int32} {a_tape : Nat → Int32} {v_taped : Int32} {v_from : Int32} {v_to : Int32} {v_sort : Int32} {v_worth : Int64} {v_fault : Int32} {v_bad : Int32} {v_nClauses : Int32} {a_nClause : Nat → Int32} {v_nCode : Int32} {a_nOp : Nat → Int32} {a_nArg : Nat → Int32} {v_nLeaves : Int32} {a_pile : Nat → Int32} {a_pileAt : Nat → Int32} {v_piled : Int32} {v_opened : Int32} {a_words : Nat → Int64} {a_headWords : Nat → Int64} {v_law : Int32} {a_set : Nat → Int64} {a_rest : Nat → Int64} {v_broken : Int32} {v_value : Int64} {v_sum : Int64} {a_chances : Nat → Int32} {a_votes : Nat → Int64} {a_costs : Nat → Int32} {a_table : Nat → Int64} {a_prices : Nat → Int32} {v_surely : Int64} {a_mostBy : Nat → Int64} {a_leastBy : Nat → Int64} {v_between : Int64} {v_steadyWays : Int32} {v_quashed : Int32} {a_figures : Nat → Int32} {a_all : Nat → Int32} {a_lies : Nat → Int32} {a_since : Nat → Int32} {v_last : Int32} {v_state : Int64} {Fu : Nat} {v_thrown : Int32} {a_row : Nat → Int32} {v_but : Int32} {x1 : Int32} {R : Int32 × Int32} (hf : fX12_trusted Fu v_thrown a_row v_but x1 = some R) : e_C G b yX12_trusted cX12_trusted 5 (some .int) 3 0 0 [.ref (b + o), .int x1] (e_ov (kM o) (wM G b o v_thrown v_status a_refusals a_row a_images a_isKept a_tape v_taped v_from v_to v_sort v_worth v_fault v_bad v_nClauses a_nClause v_nCode a_nOp a_nArg v_nLeaves a_pile a_pileAt v_piled v_opened a_words a_headWords v_law a_set a_rest v_broken v_value v_sum a_chances a_votes a_costs a_table a_prices v_surely a_mostBy a_leastBy v_between v_steadyWays v_quashed v_but a_figures a_all a_lies a_since v_last v_state) c0) n (pD (some (.int R.1)) (e_ov (kM o) (wM G b o R.2 v_status a_refusals a_row a_images a_isKept a_tape v_taped v_from v_to v_sort v_worth v_fault v_bad v_nClauses a_nClause v_nCode a_nOp a_nArg v_nLeaves a_pile a_pileAt v_piled v_opened a_words a_headWords v_law a_set a_rest v_broken v_value v_sum a_chances a_votes a_costs a_table a_prices v_surely a_mostBy a_leastBy v_between v_steadyWays v_quashed v_but a_figures a_all a_lies a_since v_last v_state) c0) n) := e_C.of (by decide) (Nat.le_of_ble_eq_true rfl) (tX12_trusted hw hf)
def fX12_common_L6 (Fu : Nat) : Nat → Int64 → Int64 → Option (Int64)
  | 0, _, _ => none
  | k + 1, x4, x6 => if x6 = 0 then (some (x4)) else (gzl x6 ((fX12_common_L6 Fu k) x6 (x4 - x4 / x6 * x6)))
set_option maxHeartbeats 4000000 in
set_option maxRecDepth 100000 in
theorem tX12_common_L6 {G : GT} {b : Nat} {c : Hp} {n : Nat} {Fu : Nat} : ∀ (k : Nat) {x4 : Int64} {x6 : Int64} {R : Int64}, fX12_common_L6 Fu k x4 x6 = some R → E G b yX12_common cX12_common 10 (some .long) (e_rm 0 0 0) e_X0 (e_Z G b (pD (some (.long R)) c n) 0 0) 6 [(4, .long x4), (6, .long x6)] [] c n 0 0 := by
  intro k
  induction k with
  | zero =>
    intro _ _ _ hf
    have hf : (none : Option (Int64)) = some _ := hf
    cases hf
  | succ k ih =>
    intro x4 x6 R hf
    rw [fX12_common_L6] at hf
    refine E.lload 1 dX12_common_6 rfl ?_
    refine E.lconst (v := 0) dX12_common_8 (by decide) ?_
    refine E.lc_eq dX12_common_9 dX12_common_10 (fun h => ?_) (fun h => ?_)
    · have hf := e_ift hf h
      refine E.lload 0 dX12_common_31 rfl ?_
      cases hf
      exact E.lret dX12_common_33 (Nat.le_refl _) (Nat.le_refl _) (pD_rf _ _ _)
    · have hf := e_iff hf h
      refine E.lload 0 dX12_common_13 rfl ?_
      refine E.lload 1 dX12_common_15 rfl ?_
      obtain ⟨g1, hf⟩ := gzl_some hf
      refine E.lrem dX12_common_17 g1 ?_
      refine E.lstore (lv' := [(8, .long (x4 - x4 / x6 * x6)), (4, .long x4), (6, .long x6)]) dX12_common_18 (by decide) rfl ?_
      refine E.lload 2 dX12_common_20 rfl ?_
      refine E.lstore (lv' := [(4, .long x6), (8, .long (x4 - x4 / x6 * x6)), (6, .long x6)]) dX12_common_22 (by decide) rfl ?_
      refine E.lload 1 dX12_common_24 rfl ?_
      refine E.lstore (lv' := [(6, .long (x4 - x4 / x6 * x6)), (4, .long x6), (8, .long (x4 - x4 / x6 * x6))]) dX12_common_26 (by decide) rfl ?_
      refine E.goto dX12_common_28 ?_
      refine E.locals [1, 0] rfl ?_
      exact ih hf
def fX12_common (Fu : Nat) (x0 : Int64) (x2 : Int64) : Option (Int64) := fX12_common_L6 Fu Fu x0 x2
set_option maxHeartbeats 4000000 in
set_option maxRecDepth 100000 in
theorem tX12_common {G : GT} {b : Nat} {c : Hp} {n : Nat} {Fu : Nat} {x0 : Int64} {x2 : Int64} {R : Int64} (hf : fX12_common Fu x0 x2 = some R) : E G b yX12_common cX12_common 10 (some .long) (e_rm 0 0 0) e_X0 (e_Z G b (pD (some (.long R)) c n) 0 0) 0 [(0, .long x0), (2, .long x2)] [] c n 0 0 := by
  unfold fX12_common at hf
  refine E.lload_n 0 dX12_common_0 rfl ?_
  refine E.lstore (lv' := [(4, .long x0), (0, .long x0), (2, .long x2)]) dX12_common_1 (by decide) rfl ?_
  refine E.lload_n 2 dX12_common_3 rfl ?_
  refine E.lstore (lv' := [(6, .long x2), (4, .long x0), (0, .long x0), (2, .long x2)]) dX12_common_4 (by decide) rfl ?_
  refine E.locals [1, 0] rfl ?_
  exact tX12_common_L6 _ hf
set_option maxRecDepth 100000 in
theorem mX12_common {G : GT} {b : Nat} {c : Hp} {n : Nat} {Fu : Nat} {x0 : Int64} {x2 : Int64} {R : Int64} (hf : fX12_common Fu x0 x2 = some R) : e_C G b yX12_common cX12_common 10 (some .long) 0 0 0 [.long x0, .long x2] c n (pD (some (.long R)) c n) := e_C.of (by decide) (Nat.le_of_ble_eq_true rfl) (tX12_common hf)
def fX12_agree_L146 (Fu : Nat) (k47 : Int32 → (Nat → Int32) → Int32 → Int32 → Int32 → Int32 → Int32 → Option (Int32 × Int32)) (v_thrown : Int32) (a_row : Nat → Int32) (x1 : Int32) (x2 : Int32) (x3 : Int32) (x5 : Int32) (s0 : Int32) : Option (Int32 × Int32) := k47 v_thrown a_row x1 x2 x3 (s0 + 0) (x5 + 1)
set_option maxHeartbeats 4000000 in
set_option maxRecDepth 100000 in
theorem tX12_agree_L146 {G : GT} {b : Nat} {o : Nat} {c0 : Hp} {n : Nat} (hw : e_wf (kM o) n) {v_status : Int32} {a_refusals : Nat → Int32} {a_images : Nat → Int32} {a_isKept : Nat → Int32} {a_tape : Nat → Int32} {v_taped : Int32} {v_from : Int32} {v_to : Int32} {v_sort : Int32} {v_worth : Int64} {v_fault : Int32} {v_bad : Int32} {v_nClauses : Int32} {a_nClause : Nat → Int32} {v_nCode : Int32} {a_nOp : Nat → Int32} {a_nArg : Nat → Int32} {v_nLeaves : Int32} {a_pile : Nat → Int32} {a_pileAt : Nat → Int32} {v_piled : Int32} {v_opened : Int32} {a_words : Nat → Int64} {a_headWords : Nat → Int64} {v_law : Int32} {a_set : Nat → Int64} {a_rest : Nat → Int64} {v_broken : Int32} {v_value : Int64} {v_sum : Int64} {a_chances : Nat → Int32} {a_votes : Nat → Int64} {a_costs : Nat → Int32} {a_table : Nat → Int64} {a_prices : Nat → Int32} {v_surely : Int64} {a_mostBy : Nat → Int64} {a_leastBy : Nat → Int64} {v_between : Int64} {v_steadyWays : Int32} {v_quashed : Int32} {v_but : Int32} {a_figures : Nat → Int32} {a_all : Nat → Int32} {a_lies : Nat → Int32} {a_since : Nat → Int32} {v_last : Int32} {v_state : Int64} {Fu : Nat} {k47 : Int32 → (Nat → Int32) → Int32 → Int32 → Int32 → Int32 → Int32 → Option (Int32 × Int32)} (hk47 : ∀ {v_thrown : Int32} {a_row : Nat → Int32} {x1 : Int32} {x2 : Int32} {x3 : Int32} {x4 : Int32} {x5 : Int32} {R : Int32 × Int32}, k47 v_thrown a_row x1 x2 x3 x4 x5 = some R → E G b yX12_agree cX12_agree 9 (some .int) (e_rm 1 0 0) e_X0 (e_Z G b (pD (some (.int R.1)) (e_ov (kM o) (wM G b o R.2 v_status a_refusals a_row a_images a_isKept a_tape v_taped v_from v_to v_sort v_worth v_fault v_bad v_nClauses a_nClause v_nCode a_nOp a_nArg v_nLeaves a_pile a_pileAt v_piled v_opened a_words a_headWords v_law a_set a_rest v_broken v_value v_sum a_chances a_votes a_costs a_table a_prices v_surely a_mostBy a_leastBy v_between v_steadyWays v_quashed v_but a_figures a_all a_lies a_since v_last v_state) c0) n) 0 0) 47 [(0, .ref (b + o)), (1, .int x1), (2, .int x2), (3, .int x3), (4, .int x4), (5, .int x5)] [] (e_ov (kM o) (wM G b o v_thrown v_status a_refusals a_row a_images a_isKept a_tape v_taped v_from v_to v_sort v_worth v_fault v_bad v_nClauses a_nClause v_nCode a_nOp a_nArg v_nLeaves a_pile a_pileAt v_piled v_opened a_words a_headWords v_law a_set a_rest v_broken v_value v_sum a_chances a_votes a_costs a_table a_prices v_surely a_mostBy a_leastBy v_between v_steadyWays v_quashed v_but a_figures a_all a_lies a_since v_last v_state) c0) n 0 0) {v_thrown : Int32} {a_row : Nat → Int32} {x1 : Int32} {x2 : Int32} {x3 : Int32} {x5 : Int32} {s0 : Int32} {R : Int32 × Int32} (hf : fX12_agree_L146 Fu k47 v_thrown a_row x1 x2 x3 x5 s0 = some R) : E G b yX12_agree cX12_agree 9 (some .int) (e_rm 1 0 0) e_X0 (e_Z G b (pD (some (.int R.1)) (e_ov (kM o) (wM G b o R.2 v_status a_refusals a_row a_images a_isKept a_tape v_taped v_from v_to v_sort v_worth v_fault v_bad v_nClauses a_nClause v_nCode a_nOp a_nArg v_nLeaves a_pile a_pileAt v_piled v_opened a_words a_headWords v_law a_set a_rest v_broken v_value v_sum a_chances a_votes a_costs a_table a_prices v_surely a_mostBy a_leastBy v_between v_steadyWays v_quashed v_but a_figures a_all a_lies a_since v_last v_state) c0) n) 0 0) 146 [(0, .ref (b + o)), (1, .int x1), (2, .int x2), (3, .int x3), (5, .int x5)] [.int s0] (e_ov (kM o) (wM G b o v_thrown v_status a_refusals a_row a_images a_isKept a_tape v_taped v_from v_to v_sort v_worth v_fault v_bad v_nClauses a_nClause v_nCode a_nOp a_nArg v_nLeaves a_pile a_pileAt v_piled v_opened a_words a_headWords v_law a_set a_rest v_broken v_value v_sum a_chances a_votes a_costs a_table a_prices v_surely a_mostBy a_leastBy v_between v_steadyWays v_quashed v_but a_figures a_all a_lies a_since v_last v_state) c0) n 0 0 := by
  unfold fX12_agree_L146 at hf
  refine E.iconst (v := 0) dX12_agree_146 (by decide) ?_
  refine E.iadd dX12_agree_147 ?_
  refine E.istore (lv' := [(4, .int (s0 + 0)), (0, .ref (b + o)), (1, .int x1), (2, .int x2), (3, .int x3), (5, .int x5)]) dX12_agree_148 (by decide) rfl ?_
  refine E.iinc (q := 5) (v := (x5 + 1)) (lv' := [(5, .int (x5 + 1)), (4, .int (s0 + 0)), (0, .ref (b + o)), (1, .int x1), (2, .int x2), (3, .int x3)]) dX12_agree_150 rfl rfl (by decide) rfl ?_
  refine E.goto dX12_agree_153 ?_
  refine E.locals [2, 3, 4, 5, 1, 0] rfl ?_
  exact hk47 hf
def fX12_agree_L111 (Fu : Nat) (k47 : Int32 → (Nat → Int32) → Int32 → Int32 → Int32 → Int32 → Int32 → Option (Int32 × Int32)) (v_thrown : Int32) (a_row : Nat → Int32) (x1 : Int32) (x2 : Int32) (x3 : Int32) (x4 : Int32) (x5 : Int32) (x6 : Int32) (s0 : Int32) : Option (Int32 × Int32) := (fX12_is x6 x1).bind fun r9 => (if (r9 : Int32) = 0 then (fX12_agree_L146 Fu k47 v_thrown a_row x1 x2 x3 x5 x4) else ((fX12_is x6 x2).bind fun r10 => (if (r10 : Int32) = 0 then (fX12_agree_L146 Fu k47 v_thrown a_row x1 x2 x3 x5 x4) else (if (x3 : Int32) = 0 then (k47 v_thrown a_row x1 x2 x3 (x4 + 1) (x5 + 1)) else (if (s0 : Int32) = 0 then (fX12_agree_L146 Fu k47 v_thrown a_row x1 x2 x3 x5 x4) else (k47 v_thrown a_row x1 x2 x3 (x4 + 1) (x5 + 1)))))))
set_option maxHeartbeats 4000000 in
set_option maxRecDepth 100000 in
theorem tX12_agree_L111 {G : GT} {b : Nat} {o : Nat} {c0 : Hp} {n : Nat} (hw : e_wf (kM o) n) {v_status : Int32} {a_refusals : Nat → Int32} {a_images : Nat → Int32} {a_isKept : Nat → Int32} {a_tape : Nat → Int32} {v_taped : Int32} {v_from : Int32} {v_to : Int32} {v_sort : Int32} {v_worth : Int64} {v_fault : Int32} {v_bad : Int32} {v_nClauses : Int32} {a_nClause : Nat → Int32} {v_nCode : Int32} {a_nOp : Nat → Int32} {a_nArg : Nat → Int32} {v_nLeaves : Int32} {a_pile : Nat → Int32} {a_pileAt : Nat → Int32} {v_piled : Int32} {v_opened : Int32} {a_words : Nat → Int64} {a_headWords : Nat → Int64} {v_law : Int32} {a_set : Nat → Int64} {a_rest : Nat → Int64} {v_broken : Int32} {v_value : Int64} {v_sum : Int64} {a_chances : Nat → Int32} {a_votes : Nat → Int64} {a_costs : Nat → Int32} {a_table : Nat → Int64} {a_prices : Nat → Int32} {v_surely : Int64} {a_mostBy : Nat → Int64} {a_leastBy : Nat → Int64} {v_between : Int64} {v_steadyWays : Int32} {v_quashed : Int32} {v_but : Int32} {a_figures : Nat → Int32} {a_all : Nat → Int32} {a_lies : Nat → Int32} {a_since : Nat → Int32} {v_last : Int32} {v_state : Int64} {Fu : Nat} {k47 : Int32 → (Nat → Int32) → Int32 → Int32 → Int32 → Int32 → Int32 → Option (Int32 × Int32)} (hk47 : ∀ {v_thrown : Int32} {a_row : Nat → Int32} {x1 : Int32} {x2 : Int32} {x3 : Int32} {x4 : Int32} {x5 : Int32} {R : Int32 × Int32}, k47 v_thrown a_row x1 x2 x3 x4 x5 = some R → E G b yX12_agree cX12_agree 9 (some .int) (e_rm 1 0 0) e_X0 (e_Z G b (pD (some (.int R.1)) (e_ov (kM o) (wM G b o R.2 v_status a_refusals a_row a_images a_isKept a_tape v_taped v_from v_to v_sort v_worth v_fault v_bad v_nClauses a_nClause v_nCode a_nOp a_nArg v_nLeaves a_pile a_pileAt v_piled v_opened a_words a_headWords v_law a_set a_rest v_broken v_value v_sum a_chances a_votes a_costs a_table a_prices v_surely a_mostBy a_leastBy v_between v_steadyWays v_quashed v_but a_figures a_all a_lies a_since v_last v_state) c0) n) 0 0) 47 [(0, .ref (b + o)), (1, .int x1), (2, .int x2), (3, .int x3), (4, .int x4), (5, .int x5)] [] (e_ov (kM o) (wM G b o v_thrown v_status a_refusals a_row a_images a_isKept a_tape v_taped v_from v_to v_sort v_worth v_fault v_bad v_nClauses a_nClause v_nCode a_nOp a_nArg v_nLeaves a_pile a_pileAt v_piled v_opened a_words a_headWords v_law a_set a_rest v_broken v_value v_sum a_chances a_votes a_costs a_table a_prices v_surely a_mostBy a_leastBy v_between v_steadyWays v_quashed v_but a_figures a_all a_lies a_since v_last v_state) c0) n 0 0) {v_thrown : Int32} {a_row : Nat → Int32} {x1 : Int32} {x2 : Int32} {x3 : Int32} {x4 : Int32} {x5 : Int32} {x6 : Int32} {s0 : Int32} {R : Int32 × Int32} (hf : fX12_agree_L111 Fu k47 v_thrown a_row x1 x2 x3 x4 x5 x6 s0 = some R) : E G b yX12_agree cX12_agree 9 (some .int) (e_rm 1 0 0) e_X0 (e_Z G b (pD (some (.int R.1)) (e_ov (kM o) (wM G b o R.2 v_status a_refusals a_row a_images a_isKept a_tape v_taped v_from v_to v_sort v_worth v_fault v_bad v_nClauses a_nClause v_nCode a_nOp a_nArg v_nLeaves a_pile a_pileAt v_piled v_opened a_words a_headWords v_law a_set a_rest v_broken v_value v_sum a_chances a_votes a_costs a_table a_prices v_surely a_mostBy a_leastBy v_between v_steadyWays v_quashed v_but a_figures a_all a_lies a_since v_last v_state) c0) n) 0 0) 111 [(0, .ref (b + o)), (1, .int x1), (2, .int x2), (3, .int x3), (4, .int x4), (5, .int x5), (6, .int x6)] [.int s0] (e_ov (kM o) (wM G b o v_thrown v_status a_refusals a_row a_images a_isKept a_tape v_taped v_from v_to v_sort v_worth v_fault v_bad v_nClauses a_nClause v_nCode a_nOp a_nArg v_nLeaves a_pile a_pileAt v_piled v_opened a_words a_headWords v_law a_set a_rest v_broken v_value v_sum a_chances a_votes a_costs a_table a_prices v_surely a_mostBy a_leastBy v_between v_steadyWays v_quashed v_but a_figures a_all a_lies a_since v_last v_state) c0) n 0 0 := by
  unfold fX12_agree_L111 at hf
  refine E.istore (lv' := [(8, .int s0), (0, .ref (b + o)), (1, .int x1), (2, .int x2), (3, .int x3), (4, .int x4), (5, .int x5), (6, .int x6)]) dX12_agree_111 (by decide) rfl ?_
  refine E.iload 5 dX12_agree_113 rfl ?_
  refine E.iload 7 dX12_agree_115 rfl ?_
  refine E.iload_n 2 dX12_agree_117 rfl ?_
  obtain ⟨r9, hc9, hf⟩ := e_bind hf
  refine E.callSD [.int x4] dX12_agree_118 mlX12_364 (mX12_is hc9) ⟨Nat.le_of_ble_eq_true rfl, Nat.le_of_ble_eq_true rfl⟩ rfl rfl (Nat.le_of_ble_eq_true rfl) ⟨Nat.le_refl _, Nat.le_refl _⟩ rfl ?_
  refine E.if_eq dX12_agree_121 (fun h => ?_) (fun h => ?_)
  · have hf := e_ift hf h
    refine E.locals [1, 2, 3, 4, 6] rfl ?_
    exact tX12_agree_L146 hw hk47 hf
  · have hf := e_iff hf h
    refine E.iload 7 dX12_agree_124 rfl ?_
    refine E.iload_n 3 dX12_agree_126 rfl ?_
    obtain ⟨r10, hc10, hf⟩ := e_bind hf
    refine E.callSD [.int x4] dX12_agree_127 mlX12_364 (mX12_is hc10) ⟨Nat.le_of_ble_eq_true rfl, Nat.le_of_ble_eq_true rfl⟩ rfl rfl (Nat.le_of_ble_eq_true rfl) ⟨Nat.le_refl _, Nat.le_refl _⟩ rfl ?_
    refine E.if_eq dX12_agree_130 (fun h => ?_) (fun h => ?_)
    · have hf := e_ift hf h
      refine E.locals [1, 2, 3, 4, 6] rfl ?_
      exact tX12_agree_L146 hw hk47 hf
    · have hf := e_iff hf h
      refine E.iload_n 4 dX12_agree_133 rfl ?_
      refine E.if_eq dX12_agree_134 (fun h => ?_) (fun h => ?_)
      · have hf := e_ift hf h
        refine E.iconst (v := 1) dX12_agree_142 (by decide) ?_
        refine E.goto dX12_agree_143 ?_
        refine E.iadd dX12_agree_147 ?_
        refine E.istore (lv' := [(4, .int (x4 + 1)), (8, .int s0), (0, .ref (b + o)), (1, .int x1), (2, .int x2), (3, .int x3), (5, .int x5), (6, .int x6)]) dX12_agree_148 (by decide) rfl ?_
        refine E.iinc (q := 6) (v := (x5 + 1)) (lv' := [(5, .int (x5 + 1)), (4, .int (x4 + 1)), (8, .int s0), (0, .ref (b + o)), (1, .int x1), (2, .int x2), (3, .int x3), (6, .int x6)]) dX12_agree_150 rfl rfl (by decide) rfl ?_
        refine E.goto dX12_agree_153 ?_
        refine E.locals [3, 4, 5, 6, 1, 0] rfl ?_
        exact hk47 hf
      · have hf := e_iff hf h
        refine E.iload 0 dX12_agree_137 rfl ?_
        refine E.if_eq dX12_agree_139 (fun h => ?_) (fun h => ?_)
        · have hf := e_ift hf h
          refine E.locals [1, 2, 3, 4, 6] rfl ?_
          exact tX12_agree_L146 hw hk47 hf
        · have hf := e_iff hf h
          refine E.iconst (v := 1) dX12_agree_142 (by decide) ?_
          refine E.goto dX12_agree_143 ?_
          refine E.iadd dX12_agree_147 ?_
          refine E.istore (lv' := [(4, .int (x4 + 1)), (8, .int s0), (0, .ref (b + o)), (1, .int x1), (2, .int x2), (3, .int x3), (5, .int x5), (6, .int x6)]) dX12_agree_148 (by decide) rfl ?_
          refine E.iinc (q := 6) (v := (x5 + 1)) (lv' := [(5, .int (x5 + 1)), (4, .int (x4 + 1)), (8, .int s0), (0, .ref (b + o)), (1, .int x1), (2, .int x2), (3, .int x3), (6, .int x6)]) dX12_agree_150 rfl rfl (by decide) rfl ?_
          refine E.goto dX12_agree_153 ?_
          refine E.locals [3, 4, 5, 6, 1, 0] rfl ?_
          exact hk47 hf
def fX12_agree_L47 (Fu : Nat) : Nat → Int32 → (Nat → Int32) → Int32 → Int32 → Int32 → Int32 → Int32 → Option (Int32 × Int32)
  | 0, _, _, _, _, _, _, _ => none
  | k + 1, v_thrown, a_row, x1, x2, x3, x4, x5 => gd 11 5570 (if ((a_row (11 : Int32).toNatClampNeg) : Int32) ≤ (x5 : Int32) then (some (x4, v_thrown)) else (gd ((110 + (3 * x5)) + 1) 5570 (gd ((110 + (3 * x5)) + 2) 5570 ((fX12_is (a_row (((110 + (3 * x5)) + 2) : Int32).toNatClampNeg) x1).bind fun r7 => ((fX12_is (a_row (((110 + (3 * x5)) + 2) : Int32).toNatClampNeg) x2).bind fun r8 => (if (r7 : Int32) = (r8 : Int32) then (fX12_agree_L111 Fu (fX12_agree_L47 Fu k) v_thrown a_row x1 x2 x3 x4 x5 (a_row (((110 + (3 * x5)) + 1) : Int32).toNatClampNeg) 1) else (fX12_agree_L111 Fu (fX12_agree_L47 Fu k) v_thrown a_row x1 x2 x3 x4 x5 (a_row (((110 + (3 * x5)) + 1) : Int32).toNatClampNeg) 0)))))))
set_option maxHeartbeats 4000000 in
set_option maxRecDepth 100000 in
theorem tX12_agree_L47 {G : GT} {b : Nat} {o : Nat} {c0 : Hp} {n : Nat} (hw : e_wf (kM o) n) {v_status : Int32} {a_refusals : Nat → Int32} {a_images : Nat → Int32} {a_isKept : Nat → Int32} {a_tape : Nat → Int32} {v_taped : Int32} {v_from : Int32} {v_to : Int32} {v_sort : Int32} {v_worth : Int64} {v_fault : Int32} {v_bad : Int32} {v_nClauses : Int32} {a_nClause : Nat → Int32} {v_nCode : Int32} {a_nOp : Nat → Int32} {a_nArg : Nat → Int32} {v_nLeaves : Int32} {a_pile : Nat → Int32} {a_pileAt : Nat → Int32} {v_piled : Int32} {v_opened : Int32} {a_words : Nat → Int64} {a_headWords : Nat → Int64} {v_law : Int32} {a_set : Nat → Int64} {a_rest : Nat → Int64} {v_broken : Int32} {v_value : Int64} {v_sum : Int64} {a_chances : Nat → Int32} {a_votes : Nat → Int64} {a_costs : Nat → Int32} {a_table : Nat → Int64} {a_prices : Nat → Int32} {v_surely : Int64} {a_mostBy : Nat → Int64} {a_leastBy : Nat → Int64} {v_between : Int64} {v_steadyWays : Int32} {v_quashed : Int32} {v_but : Int32} {a_figures : Nat → Int32} {a_all : Nat → Int32} {a_lies : Nat → Int32} {a_since : Nat → Int32} {v_last : Int32} {v_state : Int64} {Fu : Nat} : ∀ (k : Nat) {v_thrown : Int32} {a_row : Nat → Int32} {x1 : Int32} {x2 : Int32} {x3 : Int32} {x4 : Int32} {x5 : Int32} {R : Int32 × Int32}, fX12_agree_L47 Fu k v_thrown a_row x1 x2 x3 x4 x5 = some R → E G b yX12_agree cX12_agree 9 (some .int) (e_rm 1 0 0) e_X0 (e_Z G b (pD (some (.int R.1)) (e_ov (kM o) (wM G b o R.2 v_status a_refusals a_row a_images a_isKept a_tape v_taped v_from v_to v_sort v_worth v_fault v_bad v_nClauses a_nClause v_nCode a_nOp a_nArg v_nLeaves a_pile a_pileAt v_piled v_opened a_words a_headWords v_law a_set a_rest v_broken v_value v_sum a_chances a_votes a_costs a_table a_prices v_surely a_mostBy a_leastBy v_between v_steadyWays v_quashed v_but a_figures a_all a_lies a_since v_last v_state) c0) n) 0 0) 47 [(0, .ref (b + o)), (1, .int x1), (2, .int x2), (3, .int x3), (4, .int x4), (5, .int x5)] [] (e_ov (kM o) (wM G b o v_thrown v_status a_refusals a_row a_images a_isKept a_tape v_taped v_from v_to v_sort v_worth v_fault v_bad v_nClauses a_nClause v_nCode a_nOp a_nArg v_nLeaves a_pile a_pileAt v_piled v_opened a_words a_headWords v_law a_set a_rest v_broken v_value v_sum a_chances a_votes a_costs a_table a_prices v_surely a_mostBy a_leastBy v_between v_steadyWays v_quashed v_but a_figures a_all a_lies a_since v_last v_state) c0) n 0 0 := by
  intro k
  induction k with
  | zero =>
    intro _ _ _ _ _ _ _ _ hf
    have hf : (none : Option (Int32 × Int32)) = some _ := hf
    cases hf
  | succ k ih =>
    intro v_thrown a_row x1 x2 x3 x4 x5 R hf
    rw [fX12_agree_L47] at hf
    refine E.iload 5 dX12_agree_47 rfl ?_
    refine E.aload_n 0 dX12_agree_49 rfl ?_
    refine E.get hw 0 o dX12_agree_50 flX12_13 rfl rfl rfl rfl ?_
    refine E.bipush (v := 11) dX12_agree_53 (by decide) ?_
    obtain ⟨g4, hf⟩ := gd_some hf
    refine E.iald hw 2 (o + 2) dX12_agree_55 rfl rfl g4 ?_
    refine E.icmp_ge dX12_agree_56 (fun h => ?_) (fun h => ?_)
    · have hf := e_ift hf h
      refine E.iload 4 dX12_agree_156 rfl ?_
      cases hf
      exact E.iret dX12_agree_158 (Nat.le_refl _) (Nat.le_refl _) (pD_rf _ _ _)
    · have hf := e_iff hf h
      refine E.aload_n 0 dX12_agree_59 rfl ?_
      refine E.get hw 0 o dX12_agree_60 flX12_13 rfl rfl rfl rfl ?_
      refine E.bipush (v := 110) dX12_agree_63 (by decide) ?_
      refine E.iconst (v := 3) dX12_agree_65 (by decide) ?_
      refine E.iload 5 dX12_agree_66 rfl ?_
      refine E.imul dX12_agree_68 ?_
      refine E.iadd dX12_agree_69 ?_
      refine E.iconst (v := 1) dX12_agree_70 (by decide) ?_
      refine E.iadd dX12_agree_71 ?_
      obtain ⟨g5, hf⟩ := gd_some hf
      refine E.iald hw 2 (o + 2) dX12_agree_72 rfl rfl g5 ?_
      refine E.istore (lv' := [(6, .int (a_row (((110 + (3 * x5)) + 1) : Int32).toNatClampNeg)), (0, .ref (b + o)), (1, .int x1), (2, .int x2), (3, .int x3), (4, .int x4), (5, .int x5)]) dX12_agree_73 (by decide) rfl ?_
      refine E.aload_n 1 dX12_agree_75 rfl ?_
      refine E.get hw 0 o dX12_agree_76 flX12_13 rfl rfl rfl rfl ?_
      refine E.bipush (v := 110) dX12_agree_79 (by decide) ?_
      refine E.iconst (v := 3) dX12_agree_81 (by decide) ?_
      refine E.iload 6 dX12_agree_82 rfl ?_
      refine E.imul dX12_agree_84 ?_
      refine E.iadd dX12_agree_85 ?_
      refine E.iconst (v := 2) dX12_agree_86 (by decide) ?_
      refine E.iadd dX12_agree_87 ?_
      obtain ⟨g6, hf⟩ := gd_some hf
      refine E.iald hw 2 (o + 2) dX12_agree_88 rfl rfl g6 ?_
      refine E.istore (lv' := [(7, .int (a_row (((110 + (3 * x5)) + 2) : Int32).toNatClampNeg)), (6, .int (a_row (((110 + (3 * x5)) + 1) : Int32).toNatClampNeg)), (0, .ref (b + o)), (1, .int x1), (2, .int x2), (3, .int x3), (4, .int x4), (5, .int x5)]) dX12_agree_89 (by decide) rfl ?_
      refine E.iload 0 dX12_agree_91 rfl ?_
      refine E.iload_n 3 dX12_agree_93 rfl ?_
      obtain ⟨r7, hc7, hf⟩ := e_bind hf
      refine E.callSD [] dX12_agree_94 mlX12_364 (mX12_is hc7) ⟨Nat.le_of_ble_eq_true rfl, Nat.le_of_ble_eq_true rfl⟩ rfl rfl (Nat.le_of_ble_eq_true rfl) ⟨Nat.le_refl _, Nat.le_refl _⟩ rfl ?_
      refine E.iload 0 dX12_agree_97 rfl ?_
      refine E.iload_n 4 dX12_agree_99 rfl ?_
      obtain ⟨r8, hc8, hf⟩ := e_bind hf
      refine E.callSD [.int r7] dX12_agree_100 mlX12_364 (mX12_is hc8) ⟨Nat.le_of_ble_eq_true rfl, Nat.le_of_ble_eq_true rfl⟩ rfl rfl (Nat.le_of_ble_eq_true rfl) ⟨Nat.le_refl _, Nat.le_refl _⟩ rfl ?_
      refine E.icmp_ne dX12_agree_103 (fun h => ?_) (fun h => ?_)
      · have hf := e_iff hf h
        refine E.iconst (v := 0) dX12_agree_110 (by decide) ?_
        refine E.locals [2, 3, 4, 5, 6, 7, 1] rfl ?_
        exact tX12_agree_L111 hw ih hf
      · have hf := e_ift hf h
        refine E.iconst (v := 1) dX12_agree_106 (by decide) ?_
        refine E.goto dX12_agree_107 ?_
        refine E.locals [2, 3, 4, 5, 6, 7, 1] rfl ?_
        exact tX12_agree_L111 hw ih hf
def fX12_agree (Fu : Nat) (v_thrown : Int32) (a_row : Nat → Int32) (x1 : Int32) (x2 : Int32) (x3 : Int32) : Option (Int32 × Int32) := (fX12_in ((x1 : Int32).toInt64) 0 7).bind fun r1 => (if (r1 : Int32) = 0 then (some ((-1 : Int32), 0)) else ((fX12_in ((x2 : Int32).toInt64) 0 7).bind fun r2 => (if (r2 : Int32) = 0 then (some ((-1 : Int32), 0)) else ((fX12_in ((x3 : Int32).toInt64) 0 1).bind fun r3 => (if (r3 : Int32) = 0 then (some ((-1 : Int32), 0)) else (fX12_agree_L47 Fu Fu 0 a_row x1 x2 x3 0 0))))))
set_option maxHeartbeats 4000000 in
set_option maxRecDepth 100000 in
theorem tX12_agree {G : GT} {b : Nat} {o : Nat} {c0 : Hp} {n : Nat} (hw : e_wf (kM o) n) {v_status : Int32} {a_refusals : Nat → Int32} {a_images : Nat → Int32} {a_isKept : Nat → Int32} {a_tape : Nat → Int32} {v_taped : Int32} {v_from : Int32} {v_to : Int32} {v_sort : Int32} {v_worth : Int64} {v_fault : Int32} {v_bad : Int32} {v_nClauses : Int32} {a_nClause : Nat → Int32} {v_nCode : Int32} {a_nOp : Nat → Int32} {a_nArg : Nat → Int32} {v_nLeaves : Int32} {a_pile : Nat → Int32} {a_pileAt : Nat → Int32} {v_piled : Int32} {v_opened : Int32} {a_words : Nat → Int64} {a_headWords : Nat → Int64} {v_law : Int32} {a_set : Nat → Int64} {a_rest : Nat → Int64} {v_broken : Int32} {v_value : Int64} {v_sum : Int64} {a_chances : Nat → Int32} {a_votes : Nat → Int64} {a_costs : Nat → Int32} {a_table : Nat → Int64} {a_prices : Nat → Int32} {v_surely : Int64} {a_mostBy : Nat → Int64} {a_leastBy : Nat → Int64} {v_between : Int64} {v_steadyWays : Int32} {v_quashed : Int32} {v_but : Int32} {a_figures : Nat → Int32} {a_all : Nat → Int32} {a_lies : Nat → Int32} {a_since : Nat → Int32} {v_last : Int32} {v_state : Int64} {Fu : Nat} {v_thrown : Int32} {a_row : Nat → Int32} {x1 : Int32} {x2 : Int32} {x3 : Int32} {R : Int32 × Int32} (hf : fX12_agree Fu v_thrown a_row x1 x2 x3 = some R) : E G b yX12_agree cX12_agree 9 (some .int) (e_rm 1 0 0) e_X0 (e_Z G b (pD (some (.int R.1)) (e_ov (kM o) (wM G b o R.2 v_status a_refusals a_row a_images a_isKept a_tape v_taped v_from v_to v_sort v_worth v_fault v_bad v_nClauses a_nClause v_nCode a_nOp a_nArg v_nLeaves a_pile a_pileAt v_piled v_opened a_words a_headWords v_law a_set a_rest v_broken v_value v_sum a_chances a_votes a_costs a_table a_prices v_surely a_mostBy a_leastBy v_between v_steadyWays v_quashed v_but a_figures a_all a_lies a_since v_last v_state) c0) n) 0 0) 0 [(0, .ref (b + o)), (1, .int x1), (2, .int x2), (3, .int x3)] [] (e_ov (kM o) (wM G b o v_thrown v_status a_refusals a_row a_images a_isKept a_tape v_taped v_from v_to v_sort v_worth v_fault v_bad v_nClauses a_nClause v_nCode a_nOp a_nArg v_nLeaves a_pile a_pileAt v_piled v_opened a_words a_headWords v_law a_set a_rest v_broken v_value v_sum a_chances a_votes a_costs a_table a_prices v_surely a_mostBy a_leastBy v_between v_steadyWays v_quashed v_but a_figures a_all a_lies a_since v_last v_state) c0) n 0 0 := by
  unfold fX12_agree at hf
  refine E.aload_n 0 dX12_agree_0 rfl ?_
  refine E.iconst (v := 0) dX12_agree_1 (by decide) ?_
  refine E.put (es' := (wM G b o 0 v_status a_refusals a_row a_images a_isKept a_tape v_taped v_from v_to v_sort v_worth v_fault v_bad v_nClauses a_nClause v_nCode a_nOp a_nArg v_nLeaves a_pile a_pileAt v_piled v_opened a_words a_headWords v_law a_set a_rest v_broken v_value v_sum a_chances a_votes a_costs a_table a_prices v_surely a_mostBy a_leastBy v_between v_steadyWays v_quashed v_but a_figures a_all a_lies a_since v_last v_state)) hw 0 o dX12_agree_2 flX12_124 ftX12 rfl rfl rfl rfl rfl rfl (Nat.le_of_ble_eq_true rfl) rfl ?_
  refine E.iload_n 1 dX12_agree_5 rfl ?_
  refine E.i2l dX12_agree_6 ?_
  refine E.lconst (v := 0) dX12_agree_7 (by decide) ?_
  refine E.ldc2 dX12_agree_8 kX12_384 ?_
  obtain ⟨r1, hc1, hf⟩ := e_bind hf
  refine E.callSD [] dX12_agree_11 mlX12_134 (mX12_in hc1) ⟨Nat.le_of_ble_eq_true rfl, Nat.le_of_ble_eq_true rfl⟩ rfl rfl (Nat.le_of_ble_eq_true rfl) ⟨Nat.le_refl _, Nat.le_refl _⟩ rfl ?_
  refine E.if_eq dX12_agree_14 (fun h => ?_) (fun h => ?_)
  · have hf := e_ift hf h
    refine E.iconst (v := -1) dX12_agree_39 (by decide) ?_
    cases hf
    exact E.iret dX12_agree_40 (Nat.le_refl _) (Nat.le_refl _) (pD_rf _ _ _)
  · have hf := e_iff hf h
    refine E.iload_n 2 dX12_agree_17 rfl ?_
    refine E.i2l dX12_agree_18 ?_
    refine E.lconst (v := 0) dX12_agree_19 (by decide) ?_
    refine E.ldc2 dX12_agree_20 kX12_384 ?_
    obtain ⟨r2, hc2, hf⟩ := e_bind hf
    refine E.callSD [] dX12_agree_23 mlX12_134 (mX12_in hc2) ⟨Nat.le_of_ble_eq_true rfl, Nat.le_of_ble_eq_true rfl⟩ rfl rfl (Nat.le_of_ble_eq_true rfl) ⟨Nat.le_refl _, Nat.le_refl _⟩ rfl ?_
    refine E.if_eq dX12_agree_26 (fun h => ?_) (fun h => ?_)
    · have hf := e_ift hf h
      refine E.iconst (v := -1) dX12_agree_39 (by decide) ?_
      cases hf
      exact E.iret dX12_agree_40 (Nat.le_refl _) (Nat.le_refl _) (pD_rf _ _ _)
    · have hf := e_iff hf h
      refine E.iload_n 3 dX12_agree_29 rfl ?_
      refine E.i2l dX12_agree_30 ?_
      refine E.lconst (v := 0) dX12_agree_31 (by decide) ?_
      refine E.lconst (v := 1) dX12_agree_32 (by decide) ?_
      obtain ⟨r3, hc3, hf⟩ := e_bind hf
      refine E.callSD [] dX12_agree_33 mlX12_134 (mX12_in hc3) ⟨Nat.le_of_ble_eq_true rfl, Nat.le_of_ble_eq_true rfl⟩ rfl rfl (Nat.le_of_ble_eq_true rfl) ⟨Nat.le_refl _, Nat.le_refl _⟩ rfl ?_
      refine E.if_ne dX12_agree_36 (fun h => ?_) (fun h => ?_)
      · have hf := e_iff hf h
        refine E.iconst (v := 0) dX12_agree_41 (by decide) ?_
        refine E.istore (lv' := [(4, .int 0), (0, .ref (b + o)), (1, .int x1), (2, .int x2), (3, .int x3)]) dX12_agree_42 (by decide) rfl ?_
        refine E.iconst (v := 0) dX12_agree_44 (by decide) ?_
        refine E.istore (lv' := [(5, .int 0), (4, .int 0), (0, .ref (b + o)), (1, .int x1), (2, .int x2), (3, .int x3)]) dX12_agree_45 (by decide) rfl ?_
        refine E.locals [2, 3, 4, 5, 1, 0] rfl ?_
        exact tX12_agree_L47 hw _ hf
      · have hf := e_ift hf h
        refine E.iconst (v := -1) dX12_agree_39 (by decide) ?_
        cases hf
        exact E.iret dX12_agree_40 (Nat.le_refl _) (Nat.le_refl _) (pD_rf _ _ _)
set_option maxRecDepth 100000 in
theorem mX12_agree {G : GT} {b : Nat} {o : Nat} {c0 : Hp} {n : Nat} (hw : e_wf (kM o) n) {v_status : Int32} {a_refusals : Nat → Int32} {a_images : Nat → Int32} {a_isKept : Nat → Int32} {a_tape : Nat → Int32} {v_taped : Int32} {v_from : Int32} {v_to : Int32} {v_sort : Int32} {v_worth : Int64} {v_fault : Int32} {v_bad : Int32} {v_nClauses : Int32} {a_nClause : Nat → Int32} {v_nCode : Int32} {a_nOp : Nat → Int32} {a_nArg : Nat → Int32} {v_nLeaves : Int32} {a_pile : Nat → Int32} {a_pileAt : Nat → Int32} {v_piled : Int32} {v_opened : Int32} {a_words : Nat → Int64} {a_headWords : Nat → Int64} {v_law : Int32} {a_set : Nat → Int64} {a_rest : Nat → Int64} {v_broken : Int32} {v_value : Int64} {v_sum : Int64} {a_chances : Nat → Int32} {a_votes : Nat → Int64} {a_costs : Nat → Int32} {a_table : Nat → Int64} {a_prices : Nat → Int32} {v_surely : Int64} {a_mostBy : Nat → Int64} {a_leastBy : Nat → Int64} {v_between : Int64} {v_steadyWays : Int32} {v_quashed : Int32} {v_but : Int32} {a_figures : Nat → Int32} {a_all : Nat → Int32} {a_lies : Nat → Int32} {a_since : Nat → Int32} {v_last : Int32} {v_state : Int64} {Fu : Nat} {v_thrown : Int32} {a_row : Nat → Int32} {x1 : Int32} {x2 : Int32} {x3 : Int32} {R : Int32 × Int32} (hf : fX12_agree Fu v_thrown a_row x1 x2 x3 = some R) : e_C G b yX12_agree cX12_agree 9 (some .int) 1 0 0 [.ref (b + o), .int x1, .int x2, .int x3] (e_ov (kM o) (wM G b o v_thrown v_status a_refusals a_row a_images a_isKept a_tape v_taped v_from v_to v_sort v_worth v_fault v_bad v_nClauses a_nClause v_nCode a_nOp a_nArg v_nLeaves a_pile a_pileAt v_piled v_opened a_words a_headWords v_law a_set a_rest v_broken v_value v_sum a_chances a_votes a_costs a_table a_prices v_surely a_mostBy a_leastBy v_between v_steadyWays v_quashed v_but a_figures a_all a_lies a_since v_last v_state) c0) n (pD (some (.int R.1)) (e_ov (kM o) (wM G b o R.2 v_status a_refusals a_row a_images a_isKept a_tape v_taped v_from v_to v_sort v_worth v_fault v_bad v_nClauses a_nClause v_nCode a_nOp a_nArg v_nLeaves a_pile a_pileAt v_piled v_opened a_words a_headWords v_law a_set a_rest v_broken v_value v_sum a_chances a_votes a_costs a_table a_prices v_surely a_mostBy a_leastBy v_between v_steadyWays v_quashed v_but a_figures a_all a_lies a_since v_last v_state) c0) n) := e_C.of (by decide) (Nat.le_of_ble_eq_true rfl) (tX12_agree hw hf)
