def fX12_power_L4 (Fu : Nat) : Nat → Int32 → Int64 → Int32 → Option (Int64)
  | 0, _, _, _ => none
  | k + 1, x0, x1, x3 => if (x0 : Int32) ≤ (x3 : Int32) then (some (x1)) else ((fX12_power_L4 Fu k) x0 (x1 * 100) (x3 + 1))
set_option maxHeartbeats 4000000 in
set_option maxRecDepth 100000 in
theorem tX12_power_L4 {G : GT} {b : Nat} {c : Hp} {n : Nat} {Fu : Nat} : ∀ (k : Nat) {x0 : Int32} {x1 : Int64} {x3 : Int32} {R : Int64}, fX12_power_L4 Fu k x0 x1 x3 = some R → E G b yX12_power cX12_power 4 (some .long) (e_rm 0 0 0) e_X0 (e_Z G b (pD (some (.long R)) c n) 0 0) 4 [(0, .int x0), (1, .long x1), (3, .int x3)] [] c n 0 0 := by
  intro k
  induction k with
  | zero =>
    intro _ _ _ _ hf
    have hf : (none : Option (Int64)) = some _ := hf
    cases hf
  | succ k ih =>
    intro x0 x1 x3 R hf
    rw [fX12_power_L4] at hf
    refine E.iload_n 2 dX12_power_4 rfl ?_
    refine E.iload_n 0 dX12_power_5 rfl ?_
    refine E.icmp_ge dX12_power_6 (fun h => ?_) (fun h => ?_)
    · have hf := e_ift hf h
      refine E.lload_n 1 dX12_power_21 rfl ?_
      cases hf
      exact E.lret dX12_power_22 (Nat.le_refl _) (Nat.le_refl _) (pD_rf _ _ _)
    · have hf := e_iff hf h
      refine E.lload_n 1 dX12_power_9 rfl ?_
      refine E.ldc2 dX12_power_10 kX12_179 ?_
      refine E.lmul dX12_power_13 ?_
      refine E.lstore_n (lv' := [(1, .long (x1 * 100)), (0, .int x0), (3, .int x3)]) dX12_power_14 (by decide) rfl ?_
      refine E.iinc (q := 2) (v := (x3 + 1)) (lv' := [(3, .int (x3 + 1)), (1, .long (x1 * 100)), (0, .int x0)]) dX12_power_15 rfl rfl (by decide) rfl ?_
      refine E.goto dX12_power_18 ?_
      refine E.locals [2, 1, 0] rfl ?_
      exact ih hf
def fX12_power (Fu : Nat) (x0 : Int32) : Option (Int64) := fX12_power_L4 Fu Fu x0 1 0
set_option maxHeartbeats 4000000 in
set_option maxRecDepth 100000 in
theorem tX12_power {G : GT} {b : Nat} {c : Hp} {n : Nat} {Fu : Nat} {x0 : Int32} {R : Int64} (hf : fX12_power Fu x0 = some R) : E G b yX12_power cX12_power 4 (some .long) (e_rm 0 0 0) e_X0 (e_Z G b (pD (some (.long R)) c n) 0 0) 0 [(0, .int x0)] [] c n 0 0 := by
  unfold fX12_power at hf
  refine E.lconst (v := 1) dX12_power_0 (by decide) ?_
  refine E.lstore_n (lv' := [(1, .long 1), (0, .int x0)]) dX12_power_1 (by decide) rfl ?_
  refine E.iconst (v := 0) dX12_power_2 (by decide) ?_
  refine E.istore_n (lv' := [(3, .int 0), (1, .long 1), (0, .int x0)]) dX12_power_3 (by decide) rfl ?_
  refine E.locals [2, 1, 0] rfl ?_
  exact tX12_power_L4 _ hf
set_option maxRecDepth 100000 in
theorem mX12_power {G : GT} {b : Nat} {c : Hp} {n : Nat} {Fu : Nat} {x0 : Int32} {R : Int64} (hf : fX12_power Fu x0 = some R) : e_C G b yX12_power cX12_power 4 (some .long) 0 0 0 [.int x0] c n (pD (some (.long R)) c n) := e_C.of (by decide) (Nat.le_of_ble_eq_true rfl) (tX12_power hf)
def fX12_countVotes_L156 (Fu : Nat) (k36 : (Nat → Int32) → (Nat → Int32) → (Nat → Int64) → Int32 → Int32 → Int32 → Int32 → Option ((Nat → Int64))) (k109 : (Nat → Int32) → (Nat → Int32) → (Nat → Int64) → Int32 → Int32 → Int32 → Int32 → Int32 → Int32 → Option ((Nat → Int64))) (a_row : Nat → Int32) (a_chances : Nat → Int32) (a_votes : Nat → Int64) (x1 : Int32) (x2 : Int32) (x3 : Int32) (x4 : Int32) (x6 : Int32) (x7 : Int32) (s0 : Int64) (s1 : Int64) (s2 : Int32) : Option ((Nat → Int64)) := gd s2 10 (k109 a_row a_chances (va_up a_votes (s2 : Int32).toNatClampNeg (s1 + s0)) x1 x2 x3 x4 x6 (x7 + (-1 : Int32)))
set_option maxHeartbeats 4000000 in
set_option maxRecDepth 100000 in
theorem tX12_countVotes_L156 {G : GT} {b : Nat} {o : Nat} {c0 : Hp} {n : Nat} (hw : e_wf (kM o) n) {v_thrown : Int32} {v_status : Int32} {a_refusals : Nat → Int32} {a_images : Nat → Int32} {a_isKept : Nat → Int32} {a_tape : Nat → Int32} {v_taped : Int32} {v_from : Int32} {v_to : Int32} {v_sort : Int32} {v_worth : Int64} {v_fault : Int32} {v_bad : Int32} {v_nClauses : Int32} {a_nClause : Nat → Int32} {v_nCode : Int32} {a_nOp : Nat → Int32} {a_nArg : Nat → Int32} {v_nLeaves : Int32} {a_pile : Nat → Int32} {a_pileAt : Nat → Int32} {v_piled : Int32} {v_opened : Int32} {a_words : Nat → Int64} {a_headWords : Nat → Int64} {v_law : Int32} {a_set : Nat → Int64} {a_rest : Nat → Int64} {v_broken : Int32} {v_value : Int64} {v_sum : Int64} {a_costs : Nat → Int32} {a_table : Nat → Int64} {a_prices : Nat → Int32} {v_surely : Int64} {a_mostBy : Nat → Int64} {a_leastBy : Nat → Int64} {v_between : Int64} {v_steadyWays : Int32} {v_quashed : Int32} {v_but : Int32} {a_figures : Nat → Int32} {a_all : Nat → Int32} {a_lies : Nat → Int32} {a_since : Nat → Int32} {v_last : Int32} {v_state : Int64} {Fu : Nat} {k36 : (Nat → Int32) → (Nat → Int32) → (Nat → Int64) → Int32 → Int32 → Int32 → Int32 → Option ((Nat → Int64))} {k109 : (Nat → Int32) → (Nat → Int32) → (Nat → Int64) → Int32 → Int32 → Int32 → Int32 → Int32 → Int32 → Option ((Nat → Int64))} (hk36 : ∀ {a_row : Nat → Int32} {a_chances : Nat → Int32} {a_votes : Nat → Int64} {x1 : Int32} {x2 : Int32} {x3 : Int32} {x4 : Int32} {R : (Nat → Int64)}, k36 a_row a_chances a_votes x1 x2 x3 x4 = some R → E G b yX12_countVotes cX12_countVotes 8 none (e_rm 1 0 0) e_X0 (e_Z G b (pD none (e_ov (kM o) (wM G b o v_thrown v_status a_refusals a_row a_images a_isKept a_tape v_taped v_from v_to v_sort v_worth v_fault v_bad v_nClauses a_nClause v_nCode a_nOp a_nArg v_nLeaves a_pile a_pileAt v_piled v_opened a_words a_headWords v_law a_set a_rest v_broken v_value v_sum a_chances R a_costs a_table a_prices v_surely a_mostBy a_leastBy v_between v_steadyWays v_quashed v_but a_figures a_all a_lies a_since v_last v_state) c0) n) 0 0) 36 [(0, .ref (b + o)), (1, .int x1), (2, .int x2), (3, .int x3), (4, .int x4)] [] (e_ov (kM o) (wM G b o v_thrown v_status a_refusals a_row a_images a_isKept a_tape v_taped v_from v_to v_sort v_worth v_fault v_bad v_nClauses a_nClause v_nCode a_nOp a_nArg v_nLeaves a_pile a_pileAt v_piled v_opened a_words a_headWords v_law a_set a_rest v_broken v_value v_sum a_chances a_votes a_costs a_table a_prices v_surely a_mostBy a_leastBy v_between v_steadyWays v_quashed v_but a_figures a_all a_lies a_since v_last v_state) c0) n 0 0) (hk109 : ∀ {a_row : Nat → Int32} {a_chances : Nat → Int32} {a_votes : Nat → Int64} {x1 : Int32} {x2 : Int32} {x3 : Int32} {x4 : Int32} {x6 : Int32} {x7 : Int32} {R : (Nat → Int64)}, k109 a_row a_chances a_votes x1 x2 x3 x4 x6 x7 = some R → E G b yX12_countVotes cX12_countVotes 8 none (e_rm 1 0 0) e_X0 (e_Z G b (pD none (e_ov (kM o) (wM G b o v_thrown v_status a_refusals a_row a_images a_isKept a_tape v_taped v_from v_to v_sort v_worth v_fault v_bad v_nClauses a_nClause v_nCode a_nOp a_nArg v_nLeaves a_pile a_pileAt v_piled v_opened a_words a_headWords v_law a_set a_rest v_broken v_value v_sum a_chances R a_costs a_table a_prices v_surely a_mostBy a_leastBy v_between v_steadyWays v_quashed v_but a_figures a_all a_lies a_since v_last v_state) c0) n) 0 0) 109 [(0, .ref (b + o)), (1, .int x1), (2, .int x2), (3, .int x3), (4, .int x4), (6, .int x6), (7, .int x7)] [] (e_ov (kM o) (wM G b o v_thrown v_status a_refusals a_row a_images a_isKept a_tape v_taped v_from v_to v_sort v_worth v_fault v_bad v_nClauses a_nClause v_nCode a_nOp a_nArg v_nLeaves a_pile a_pileAt v_piled v_opened a_words a_headWords v_law a_set a_rest v_broken v_value v_sum a_chances a_votes a_costs a_table a_prices v_surely a_mostBy a_leastBy v_between v_steadyWays v_quashed v_but a_figures a_all a_lies a_since v_last v_state) c0) n 0 0) {a_row : Nat → Int32} {a_chances : Nat → Int32} {a_votes : Nat → Int64} {x1 : Int32} {x2 : Int32} {x3 : Int32} {x4 : Int32} {x6 : Int32} {x7 : Int32} {s0 : Int64} {s1 : Int64} {s2 : Int32} {R : (Nat → Int64)} (hf : fX12_countVotes_L156 Fu k36 k109 a_row a_chances a_votes x1 x2 x3 x4 x6 x7 s0 s1 s2 = some R) : E G b yX12_countVotes cX12_countVotes 8 none (e_rm 1 0 0) e_X0 (e_Z G b (pD none (e_ov (kM o) (wM G b o v_thrown v_status a_refusals a_row a_images a_isKept a_tape v_taped v_from v_to v_sort v_worth v_fault v_bad v_nClauses a_nClause v_nCode a_nOp a_nArg v_nLeaves a_pile a_pileAt v_piled v_opened a_words a_headWords v_law a_set a_rest v_broken v_value v_sum a_chances R a_costs a_table a_prices v_surely a_mostBy a_leastBy v_between v_steadyWays v_quashed v_but a_figures a_all a_lies a_since v_last v_state) c0) n) 0 0) 156 [(0, .ref (b + o)), (1, .int x1), (2, .int x2), (3, .int x3), (4, .int x4), (6, .int x6), (7, .int x7)] [.long s0, .long s1, .int s2, .ref (b + (o + 16))] (e_ov (kM o) (wM G b o v_thrown v_status a_refusals a_row a_images a_isKept a_tape v_taped v_from v_to v_sort v_worth v_fault v_bad v_nClauses a_nClause v_nCode a_nOp a_nArg v_nLeaves a_pile a_pileAt v_piled v_opened a_words a_headWords v_law a_set a_rest v_broken v_value v_sum a_chances a_votes a_costs a_table a_prices v_surely a_mostBy a_leastBy v_between v_steadyWays v_quashed v_but a_figures a_all a_lies a_since v_last v_state) c0) n 0 0 := by
  unfold fX12_countVotes_L156 at hf
  refine E.ladd dX12_countVotes_156 ?_
  obtain ⟨g8, hf⟩ := gd_some hf
  refine E.last (es' := (wM G b o v_thrown v_status a_refusals a_row a_images a_isKept a_tape v_taped v_from v_to v_sort v_worth v_fault v_bad v_nClauses a_nClause v_nCode a_nOp a_nArg v_nLeaves a_pile a_pileAt v_piled v_opened a_words a_headWords v_law a_set a_rest v_broken v_value v_sum a_chances (va_up a_votes (s2 : Int32).toNatClampNeg (s1 + s0)) a_costs a_table a_prices v_surely a_mostBy a_leastBy v_between v_steadyWays v_quashed v_but a_figures a_all a_lies a_since v_last v_state)) hw 16 (o + 16) dX12_countVotes_157 rfl rfl g8 rfl ?_
  refine E.iinc (q := 6) (v := (x7 + (-1 : Int32))) (lv' := [(7, .int (x7 + (-1 : Int32))), (0, .ref (b + o)), (1, .int x1), (2, .int x2), (3, .int x3), (4, .int x4), (6, .int x6)]) dX12_countVotes_158 rfl rfl (by decide) rfl ?_
  refine E.goto dX12_countVotes_161 ?_
  refine E.locals [1, 2, 3, 4, 5, 6, 0] rfl ?_
  exact hk109 hf
def fX12_countVotes_L109 (Fu : Nat) (k36 : (Nat → Int32) → (Nat → Int32) → (Nat → Int64) → Int32 → Int32 → Int32 → Int32 → Option ((Nat → Int64))) : Nat → (Nat → Int32) → (Nat → Int32) → (Nat → Int64) → Int32 → Int32 → Int32 → Int32 → Int32 → Int32 → Option ((Nat → Int64))
  | 0, _, _, _, _, _, _, _, _, _ => none
  | k + 1, a_row, a_chances, a_votes, x1, x2, x3, x4, x6, x7 => if (x7 : Int32) < 0 then (k36 a_row a_chances a_votes x1 x2 x3 (x4 + 1)) else (gd x7 10 (if (x7 : Int32) ≤ 0 then (fX12_countVotes_L156 Fu k36 (fX12_countVotes_L109 Fu k36 k) a_row a_chances a_votes x1 x2 x3 x4 x6 x7 0 ((a_votes (x7 : Int32).toNatClampNeg) * (((100 - x6) : Int32).toInt64)) x7) else (gd (x7 - 1) 10 (fX12_countVotes_L156 Fu k36 (fX12_countVotes_L109 Fu k36 k) a_row a_chances a_votes x1 x2 x3 x4 x6 x7 ((a_votes ((x7 - 1) : Int32).toNatClampNeg) * ((x6 : Int32).toInt64)) ((a_votes (x7 : Int32).toNatClampNeg) * (((100 - x6) : Int32).toInt64)) x7))))
set_option maxHeartbeats 4000000 in
set_option maxRecDepth 100000 in
theorem tX12_countVotes_L109 {G : GT} {b : Nat} {o : Nat} {c0 : Hp} {n : Nat} (hw : e_wf (kM o) n) {v_thrown : Int32} {v_status : Int32} {a_refusals : Nat → Int32} {a_images : Nat → Int32} {a_isKept : Nat → Int32} {a_tape : Nat → Int32} {v_taped : Int32} {v_from : Int32} {v_to : Int32} {v_sort : Int32} {v_worth : Int64} {v_fault : Int32} {v_bad : Int32} {v_nClauses : Int32} {a_nClause : Nat → Int32} {v_nCode : Int32} {a_nOp : Nat → Int32} {a_nArg : Nat → Int32} {v_nLeaves : Int32} {a_pile : Nat → Int32} {a_pileAt : Nat → Int32} {v_piled : Int32} {v_opened : Int32} {a_words : Nat → Int64} {a_headWords : Nat → Int64} {v_law : Int32} {a_set : Nat → Int64} {a_rest : Nat → Int64} {v_broken : Int32} {v_value : Int64} {v_sum : Int64} {a_costs : Nat → Int32} {a_table : Nat → Int64} {a_prices : Nat → Int32} {v_surely : Int64} {a_mostBy : Nat → Int64} {a_leastBy : Nat → Int64} {v_between : Int64} {v_steadyWays : Int32} {v_quashed : Int32} {v_but : Int32} {a_figures : Nat → Int32} {a_all : Nat → Int32} {a_lies : Nat → Int32} {a_since : Nat → Int32} {v_last : Int32} {v_state : Int64} {Fu : Nat} {k36 : (Nat → Int32) → (Nat → Int32) → (Nat → Int64) → Int32 → Int32 → Int32 → Int32 → Option ((Nat → Int64))} (hk36 : ∀ {a_row : Nat → Int32} {a_chances : Nat → Int32} {a_votes : Nat → Int64} {x1 : Int32} {x2 : Int32} {x3 : Int32} {x4 : Int32} {R : (Nat → Int64)}, k36 a_row a_chances a_votes x1 x2 x3 x4 = some R → E G b yX12_countVotes cX12_countVotes 8 none (e_rm 1 0 0) e_X0 (e_Z G b (pD none (e_ov (kM o) (wM G b o v_thrown v_status a_refusals a_row a_images a_isKept a_tape v_taped v_from v_to v_sort v_worth v_fault v_bad v_nClauses a_nClause v_nCode a_nOp a_nArg v_nLeaves a_pile a_pileAt v_piled v_opened a_words a_headWords v_law a_set a_rest v_broken v_value v_sum a_chances R a_costs a_table a_prices v_surely a_mostBy a_leastBy v_between v_steadyWays v_quashed v_but a_figures a_all a_lies a_since v_last v_state) c0) n) 0 0) 36 [(0, .ref (b + o)), (1, .int x1), (2, .int x2), (3, .int x3), (4, .int x4)] [] (e_ov (kM o) (wM G b o v_thrown v_status a_refusals a_row a_images a_isKept a_tape v_taped v_from v_to v_sort v_worth v_fault v_bad v_nClauses a_nClause v_nCode a_nOp a_nArg v_nLeaves a_pile a_pileAt v_piled v_opened a_words a_headWords v_law a_set a_rest v_broken v_value v_sum a_chances a_votes a_costs a_table a_prices v_surely a_mostBy a_leastBy v_between v_steadyWays v_quashed v_but a_figures a_all a_lies a_since v_last v_state) c0) n 0 0) : ∀ (k : Nat) {a_row : Nat → Int32} {a_chances : Nat → Int32} {a_votes : Nat → Int64} {x1 : Int32} {x2 : Int32} {x3 : Int32} {x4 : Int32} {x6 : Int32} {x7 : Int32} {R : (Nat → Int64)}, fX12_countVotes_L109 Fu k36 k a_row a_chances a_votes x1 x2 x3 x4 x6 x7 = some R → E G b yX12_countVotes cX12_countVotes 8 none (e_rm 1 0 0) e_X0 (e_Z G b (pD none (e_ov (kM o) (wM G b o v_thrown v_status a_refusals a_row a_images a_isKept a_tape v_taped v_from v_to v_sort v_worth v_fault v_bad v_nClauses a_nClause v_nCode a_nOp a_nArg v_nLeaves a_pile a_pileAt v_piled v_opened a_words a_headWords v_law a_set a_rest v_broken v_value v_sum a_chances R a_costs a_table a_prices v_surely a_mostBy a_leastBy v_between v_steadyWays v_quashed v_but a_figures a_all a_lies a_since v_last v_state) c0) n) 0 0) 109 [(0, .ref (b + o)), (1, .int x1), (2, .int x2), (3, .int x3), (4, .int x4), (6, .int x6), (7, .int x7)] [] (e_ov (kM o) (wM G b o v_thrown v_status a_refusals a_row a_images a_isKept a_tape v_taped v_from v_to v_sort v_worth v_fault v_bad v_nClauses a_nClause v_nCode a_nOp a_nArg v_nLeaves a_pile a_pileAt v_piled v_opened a_words a_headWords v_law a_set a_rest v_broken v_value v_sum a_chances a_votes a_costs a_table a_prices v_surely a_mostBy a_leastBy v_between v_steadyWays v_quashed v_but a_figures a_all a_lies a_since v_last v_state) c0) n 0 0 := by
  intro k
  induction k with
  | zero =>
    intro _ _ _ _ _ _ _ _ _ _ hf
    have hf : (none : Option ((Nat → Int64))) = some _ := hf
    cases hf
  | succ k ih =>
    intro a_row a_chances a_votes x1 x2 x3 x4 x6 x7 R hf
    rw [fX12_countVotes_L109] at hf
    refine E.iload 6 dX12_countVotes_109 rfl ?_
    refine E.if_lt dX12_countVotes_111 (fun h => ?_) (fun h => ?_)
    · have hf := e_ift hf h
      refine E.iinc (q := 4) (v := (x4 + 1)) (lv' := [(4, .int (x4 + 1)), (0, .ref (b + o)), (1, .int x1), (2, .int x2), (3, .int x3), (6, .int x6), (7, .int x7)]) dX12_countVotes_164 rfl rfl (by decide) rfl ?_
      refine E.goto dX12_countVotes_167 ?_
      refine E.locals [1, 2, 3, 4, 0] rfl ?_
      exact hk36 hf
    · have hf := e_iff hf h
      refine E.aload_n 0 dX12_countVotes_114 rfl ?_
      refine E.get hw 0 o dX12_countVotes_115 flX12_87 rfl rfl rfl rfl ?_
      refine E.iload 6 dX12_countVotes_118 rfl ?_
      refine E.aload_n 0 dX12_countVotes_120 rfl ?_
      refine E.get hw 0 o dX12_countVotes_121 flX12_87 rfl rfl rfl rfl ?_
      refine E.iload 6 dX12_countVotes_124 rfl ?_
      obtain ⟨g6, hf⟩ := gd_some hf
      refine E.lald hw 16 (o + 16) dX12_countVotes_126 rfl rfl g6 ?_
      refine E.bipush (v := 100) dX12_countVotes_127 (by decide) ?_
      refine E.iload 5 dX12_countVotes_129 rfl ?_
      refine E.isub dX12_countVotes_131 ?_
      refine E.i2l dX12_countVotes_132 ?_
      refine E.lmul dX12_countVotes_133 ?_
      refine E.iload 6 dX12_countVotes_134 rfl ?_
      refine E.if_le dX12_countVotes_136 (fun h => ?_) (fun h => ?_)
      · have hf := e_ift hf h
        refine E.lconst (v := 0) dX12_countVotes_155 (by decide) ?_
        exact tX12_countVotes_L156 hw hk36 ih hf
      · have hf := e_iff hf h
        refine E.aload_n 0 dX12_countVotes_139 rfl ?_
        refine E.get hw 0 o dX12_countVotes_140 flX12_87 rfl rfl rfl rfl ?_
        refine E.iload 6 dX12_countVotes_143 rfl ?_
        refine E.iconst (v := 1) dX12_countVotes_145 (by decide) ?_
        refine E.isub dX12_countVotes_146 ?_
        obtain ⟨g7, hf⟩ := gd_some hf
        refine E.lald hw 16 (o + 16) dX12_countVotes_147 rfl rfl g7 ?_
        refine E.iload 5 dX12_countVotes_148 rfl ?_
        refine E.i2l dX12_countVotes_150 ?_
        refine E.lmul dX12_countVotes_151 ?_
        refine E.goto dX12_countVotes_152 ?_
        exact tX12_countVotes_L156 hw hk36 ih hf
def fX12_countVotes_L88 (Fu : Nat) (k36 : (Nat → Int32) → (Nat → Int32) → (Nat → Int64) → Int32 → Int32 → Int32 → Int32 → Option ((Nat → Int64))) (a_row : Nat → Int32) (a_chances : Nat → Int32) (a_votes : Nat → Int64) (x1 : Int32) (x2 : Int32) (x3 : Int32) (x4 : Int32) (s0 : Int32) (s1 : Int32) : Option ((Nat → Int64)) := gd ((4 * x4) + (s1 ||| s0)) 32 (fX12_countVotes_L109 Fu k36 Fu a_row a_chances a_votes x1 x2 x3 x4 (a_chances (((4 * x4) + (s1 ||| s0)) : Int32).toNatClampNeg) 8)
set_option maxHeartbeats 4000000 in
set_option maxRecDepth 100000 in
theorem tX12_countVotes_L88 {G : GT} {b : Nat} {o : Nat} {c0 : Hp} {n : Nat} (hw : e_wf (kM o) n) {v_thrown : Int32} {v_status : Int32} {a_refusals : Nat → Int32} {a_images : Nat → Int32} {a_isKept : Nat → Int32} {a_tape : Nat → Int32} {v_taped : Int32} {v_from : Int32} {v_to : Int32} {v_sort : Int32} {v_worth : Int64} {v_fault : Int32} {v_bad : Int32} {v_nClauses : Int32} {a_nClause : Nat → Int32} {v_nCode : Int32} {a_nOp : Nat → Int32} {a_nArg : Nat → Int32} {v_nLeaves : Int32} {a_pile : Nat → Int32} {a_pileAt : Nat → Int32} {v_piled : Int32} {v_opened : Int32} {a_words : Nat → Int64} {a_headWords : Nat → Int64} {v_law : Int32} {a_set : Nat → Int64} {a_rest : Nat → Int64} {v_broken : Int32} {v_value : Int64} {v_sum : Int64} {a_costs : Nat → Int32} {a_table : Nat → Int64} {a_prices : Nat → Int32} {v_surely : Int64} {a_mostBy : Nat → Int64} {a_leastBy : Nat → Int64} {v_between : Int64} {v_steadyWays : Int32} {v_quashed : Int32} {v_but : Int32} {a_figures : Nat → Int32} {a_all : Nat → Int32} {a_lies : Nat → Int32} {a_since : Nat → Int32} {v_last : Int32} {v_state : Int64} {Fu : Nat} {k36 : (Nat → Int32) → (Nat → Int32) → (Nat → Int64) → Int32 → Int32 → Int32 → Int32 → Option ((Nat → Int64))} (hk36 : ∀ {a_row : Nat → Int32} {a_chances : Nat → Int32} {a_votes : Nat → Int64} {x1 : Int32} {x2 : Int32} {x3 : Int32} {x4 : Int32} {R : (Nat → Int64)}, k36 a_row a_chances a_votes x1 x2 x3 x4 = some R → E G b yX12_countVotes cX12_countVotes 8 none (e_rm 1 0 0) e_X0 (e_Z G b (pD none (e_ov (kM o) (wM G b o v_thrown v_status a_refusals a_row a_images a_isKept a_tape v_taped v_from v_to v_sort v_worth v_fault v_bad v_nClauses a_nClause v_nCode a_nOp a_nArg v_nLeaves a_pile a_pileAt v_piled v_opened a_words a_headWords v_law a_set a_rest v_broken v_value v_sum a_chances R a_costs a_table a_prices v_surely a_mostBy a_leastBy v_between v_steadyWays v_quashed v_but a_figures a_all a_lies a_since v_last v_state) c0) n) 0 0) 36 [(0, .ref (b + o)), (1, .int x1), (2, .int x2), (3, .int x3), (4, .int x4)] [] (e_ov (kM o) (wM G b o v_thrown v_status a_refusals a_row a_images a_isKept a_tape v_taped v_from v_to v_sort v_worth v_fault v_bad v_nClauses a_nClause v_nCode a_nOp a_nArg v_nLeaves a_pile a_pileAt v_piled v_opened a_words a_headWords v_law a_set a_rest v_broken v_value v_sum a_chances a_votes a_costs a_table a_prices v_surely a_mostBy a_leastBy v_between v_steadyWays v_quashed v_but a_figures a_all a_lies a_since v_last v_state) c0) n 0 0) {a_row : Nat → Int32} {a_chances : Nat → Int32} {a_votes : Nat → Int64} {x1 : Int32} {x2 : Int32} {x3 : Int32} {x4 : Int32} {s0 : Int32} {s1 : Int32} {R : (Nat → Int64)} (hf : fX12_countVotes_L88 Fu k36 a_row a_chances a_votes x1 x2 x3 x4 s0 s1 = some R) : E G b yX12_countVotes cX12_countVotes 8 none (e_rm 1 0 0) e_X0 (e_Z G b (pD none (e_ov (kM o) (wM G b o v_thrown v_status a_refusals a_row a_images a_isKept a_tape v_taped v_from v_to v_sort v_worth v_fault v_bad v_nClauses a_nClause v_nCode a_nOp a_nArg v_nLeaves a_pile a_pileAt v_piled v_opened a_words a_headWords v_law a_set a_rest v_broken v_value v_sum a_chances R a_costs a_table a_prices v_surely a_mostBy a_leastBy v_between v_steadyWays v_quashed v_but a_figures a_all a_lies a_since v_last v_state) c0) n) 0 0) 88 [(0, .ref (b + o)), (1, .int x1), (2, .int x2), (3, .int x3), (4, .int x4)] [.int s0, .int s1] (e_ov (kM o) (wM G b o v_thrown v_status a_refusals a_row a_images a_isKept a_tape v_taped v_from v_to v_sort v_worth v_fault v_bad v_nClauses a_nClause v_nCode a_nOp a_nArg v_nLeaves a_pile a_pileAt v_piled v_opened a_words a_headWords v_law a_set a_rest v_broken v_value v_sum a_chances a_votes a_costs a_table a_prices v_surely a_mostBy a_leastBy v_between v_steadyWays v_quashed v_but a_figures a_all a_lies a_since v_last v_state) c0) n 0 0 := by
  unfold fX12_countVotes_L88 at hf
  refine E.ior dX12_countVotes_88 ?_
  refine E.istore (lv' := [(5, .int (s1 ||| s0)), (0, .ref (b + o)), (1, .int x1), (2, .int x2), (3, .int x3), (4, .int x4)]) dX12_countVotes_89 (by decide) rfl ?_
  refine E.aload_n 1 dX12_countVotes_91 rfl ?_
  refine E.get hw 0 o dX12_countVotes_92 flX12_84 rfl rfl rfl rfl ?_
  refine E.iconst (v := 4) dX12_countVotes_95 (by decide) ?_
  refine E.iload 5 dX12_countVotes_96 rfl ?_
  refine E.imul dX12_countVotes_98 ?_
  refine E.iload 0 dX12_countVotes_99 rfl ?_
  refine E.iadd dX12_countVotes_101 ?_
  obtain ⟨g5, hf⟩ := gd_some hf
  refine E.iald hw 15 (o + 15) dX12_countVotes_102 rfl rfl g5 ?_
  refine E.istore (lv' := [(6, .int (a_chances (((4 * x4) + (s1 ||| s0)) : Int32).toNatClampNeg)), (5, .int (s1 ||| s0)), (0, .ref (b + o)), (1, .int x1), (2, .int x2), (3, .int x3), (4, .int x4)]) dX12_countVotes_103 (by decide) rfl ?_
  refine E.bipush (v := 8) dX12_countVotes_105 (by decide) ?_
  refine E.istore (lv' := [(7, .int 8), (6, .int (a_chances (((4 * x4) + (s1 ||| s0)) : Int32).toNatClampNeg)), (5, .int (s1 ||| s0)), (0, .ref (b + o)), (1, .int x1), (2, .int x2), (3, .int x3), (4, .int x4)]) dX12_countVotes_107 (by decide) rfl ?_
  refine E.locals [3, 4, 5, 6, 7, 1, 0] rfl ?_
  exact tX12_countVotes_L109 hw hk36 _ hf
def fX12_countVotes_L73 (Fu : Nat) (k36 : (Nat → Int32) → (Nat → Int32) → (Nat → Int64) → Int32 → Int32 → Int32 → Int32 → Option ((Nat → Int64))) (a_row : Nat → Int32) (a_chances : Nat → Int32) (a_votes : Nat → Int64) (x1 : Int32) (x2 : Int32) (x3 : Int32) (x4 : Int32) (s0 : Int32) (s1 : Int32) : Option ((Nat → Int64)) := (fX12_is x3 x4).bind fun r4 => (if (r4 : Int32) = 0 then (fX12_countVotes_L88 Fu k36 a_row a_chances a_votes x1 x2 x3 x4 0 (s1 ||| s0)) else (fX12_countVotes_L88 Fu k36 a_row a_chances a_votes x1 x2 x3 x4 2 (s1 ||| s0)))
set_option maxHeartbeats 4000000 in
set_option maxRecDepth 100000 in
theorem tX12_countVotes_L73 {G : GT} {b : Nat} {o : Nat} {c0 : Hp} {n : Nat} (hw : e_wf (kM o) n) {v_thrown : Int32} {v_status : Int32} {a_refusals : Nat → Int32} {a_images : Nat → Int32} {a_isKept : Nat → Int32} {a_tape : Nat → Int32} {v_taped : Int32} {v_from : Int32} {v_to : Int32} {v_sort : Int32} {v_worth : Int64} {v_fault : Int32} {v_bad : Int32} {v_nClauses : Int32} {a_nClause : Nat → Int32} {v_nCode : Int32} {a_nOp : Nat → Int32} {a_nArg : Nat → Int32} {v_nLeaves : Int32} {a_pile : Nat → Int32} {a_pileAt : Nat → Int32} {v_piled : Int32} {v_opened : Int32} {a_words : Nat → Int64} {a_headWords : Nat → Int64} {v_law : Int32} {a_set : Nat → Int64} {a_rest : Nat → Int64} {v_broken : Int32} {v_value : Int64} {v_sum : Int64} {a_costs : Nat → Int32} {a_table : Nat → Int64} {a_prices : Nat → Int32} {v_surely : Int64} {a_mostBy : Nat → Int64} {a_leastBy : Nat → Int64} {v_between : Int64} {v_steadyWays : Int32} {v_quashed : Int32} {v_but : Int32} {a_figures : Nat → Int32} {a_all : Nat → Int32} {a_lies : Nat → Int32} {a_since : Nat → Int32} {v_last : Int32} {v_state : Int64} {Fu : Nat} {k36 : (Nat → Int32) → (Nat → Int32) → (Nat → Int64) → Int32 → Int32 → Int32 → Int32 → Option ((Nat → Int64))} (hk36 : ∀ {a_row : Nat → Int32} {a_chances : Nat → Int32} {a_votes : Nat → Int64} {x1 : Int32} {x2 : Int32} {x3 : Int32} {x4 : Int32} {R : (Nat → Int64)}, k36 a_row a_chances a_votes x1 x2 x3 x4 = some R → E G b yX12_countVotes cX12_countVotes 8 none (e_rm 1 0 0) e_X0 (e_Z G b (pD none (e_ov (kM o) (wM G b o v_thrown v_status a_refusals a_row a_images a_isKept a_tape v_taped v_from v_to v_sort v_worth v_fault v_bad v_nClauses a_nClause v_nCode a_nOp a_nArg v_nLeaves a_pile a_pileAt v_piled v_opened a_words a_headWords v_law a_set a_rest v_broken v_value v_sum a_chances R a_costs a_table a_prices v_surely a_mostBy a_leastBy v_between v_steadyWays v_quashed v_but a_figures a_all a_lies a_since v_last v_state) c0) n) 0 0) 36 [(0, .ref (b + o)), (1, .int x1), (2, .int x2), (3, .int x3), (4, .int x4)] [] (e_ov (kM o) (wM G b o v_thrown v_status a_refusals a_row a_images a_isKept a_tape v_taped v_from v_to v_sort v_worth v_fault v_bad v_nClauses a_nClause v_nCode a_nOp a_nArg v_nLeaves a_pile a_pileAt v_piled v_opened a_words a_headWords v_law a_set a_rest v_broken v_value v_sum a_chances a_votes a_costs a_table a_prices v_surely a_mostBy a_leastBy v_between v_steadyWays v_quashed v_but a_figures a_all a_lies a_since v_last v_state) c0) n 0 0) {a_row : Nat → Int32} {a_chances : Nat → Int32} {a_votes : Nat → Int64} {x1 : Int32} {x2 : Int32} {x3 : Int32} {x4 : Int32} {s0 : Int32} {s1 : Int32} {R : (Nat → Int64)} (hf : fX12_countVotes_L73 Fu k36 a_row a_chances a_votes x1 x2 x3 x4 s0 s1 = some R) : E G b yX12_countVotes cX12_countVotes 8 none (e_rm 1 0 0) e_X0 (e_Z G b (pD none (e_ov (kM o) (wM G b o v_thrown v_status a_refusals a_row a_images a_isKept a_tape v_taped v_from v_to v_sort v_worth v_fault v_bad v_nClauses a_nClause v_nCode a_nOp a_nArg v_nLeaves a_pile a_pileAt v_piled v_opened a_words a_headWords v_law a_set a_rest v_broken v_value v_sum a_chances R a_costs a_table a_prices v_surely a_mostBy a_leastBy v_between v_steadyWays v_quashed v_but a_figures a_all a_lies a_since v_last v_state) c0) n) 0 0) 73 [(0, .ref (b + o)), (1, .int x1), (2, .int x2), (3, .int x3), (4, .int x4)] [.int s0, .int s1] (e_ov (kM o) (wM G b o v_thrown v_status a_refusals a_row a_images a_isKept a_tape v_taped v_from v_to v_sort v_worth v_fault v_bad v_nClauses a_nClause v_nCode a_nOp a_nArg v_nLeaves a_pile a_pileAt v_piled v_opened a_words a_headWords v_law a_set a_rest v_broken v_value v_sum a_chances a_votes a_costs a_table a_prices v_surely a_mostBy a_leastBy v_between v_steadyWays v_quashed v_but a_figures a_all a_lies a_since v_last v_state) c0) n 0 0 := by
  unfold fX12_countVotes_L73 at hf
  refine E.ior dX12_countVotes_73 ?_
  refine E.iload_n 3 dX12_countVotes_74 rfl ?_
  refine E.iload 4 dX12_countVotes_75 rfl ?_
  obtain ⟨r4, hc4, hf⟩ := e_bind hf
  refine E.callSD [.int (s1 ||| s0)] dX12_countVotes_77 mlX12_364 (mX12_is hc4) ⟨Nat.le_of_ble_eq_true rfl, Nat.le_of_ble_eq_true rfl⟩ rfl rfl (Nat.le_of_ble_eq_true rfl) ⟨Nat.le_refl _, Nat.le_refl _⟩ rfl ?_
  refine E.if_eq dX12_countVotes_80 (fun h => ?_) (fun h => ?_)
  · have hf := e_ift hf h
    refine E.iconst (v := 0) dX12_countVotes_87 (by decide) ?_
    exact tX12_countVotes_L88 hw hk36 hf
  · have hf := e_iff hf h
    refine E.iconst (v := 2) dX12_countVotes_83 (by decide) ?_
    refine E.goto dX12_countVotes_84 ?_
    exact tX12_countVotes_L88 hw hk36 hf
def fX12_countVotes_L36 (Fu : Nat) : Nat → (Nat → Int32) → (Nat → Int32) → (Nat → Int64) → Int32 → Int32 → Int32 → Int32 → Option ((Nat → Int64))
  | 0, _, _, _, _, _, _, _ => none
  | k + 1, a_row, a_chances, a_votes, x1, x2, x3, x4 => if (8 : Int32) ≤ (x4 : Int32) then (some (a_votes)) else ((fX12_is x1 x4).bind fun r1 => (if (r1 : Int32) = 0 then ((fX12_countVotes_L36 Fu k) a_row a_chances a_votes x1 x2 x3 (x4 + 1)) else ((fX12_ofBeast a_row x4 5).bind fun r2 => ((fX12_is x2 x4).bind fun r3 => (if (r3 : Int32) = 0 then (fX12_countVotes_L73 Fu (fX12_countVotes_L36 Fu k) a_row a_chances a_votes x1 x2 x3 x4 0 r2) else (fX12_countVotes_L73 Fu (fX12_countVotes_L36 Fu k) a_row a_chances a_votes x1 x2 x3 x4 1 r2))))))
set_option maxHeartbeats 4000000 in
set_option maxRecDepth 100000 in
theorem tX12_countVotes_L36 {G : GT} {b : Nat} {o : Nat} {c0 : Hp} {n : Nat} (hw : e_wf (kM o) n) {v_thrown : Int32} {v_status : Int32} {a_refusals : Nat → Int32} {a_images : Nat → Int32} {a_isKept : Nat → Int32} {a_tape : Nat → Int32} {v_taped : Int32} {v_from : Int32} {v_to : Int32} {v_sort : Int32} {v_worth : Int64} {v_fault : Int32} {v_bad : Int32} {v_nClauses : Int32} {a_nClause : Nat → Int32} {v_nCode : Int32} {a_nOp : Nat → Int32} {a_nArg : Nat → Int32} {v_nLeaves : Int32} {a_pile : Nat → Int32} {a_pileAt : Nat → Int32} {v_piled : Int32} {v_opened : Int32} {a_words : Nat → Int64} {a_headWords : Nat → Int64} {v_law : Int32} {a_set : Nat → Int64} {a_rest : Nat → Int64} {v_broken : Int32} {v_value : Int64} {v_sum : Int64} {a_costs : Nat → Int32} {a_table : Nat → Int64} {a_prices : Nat → Int32} {v_surely : Int64} {a_mostBy : Nat → Int64} {a_leastBy : Nat → Int64} {v_between : Int64} {v_steadyWays : Int32} {v_quashed : Int32} {v_but : Int32} {a_figures : Nat → Int32} {a_all : Nat → Int32} {a_lies : Nat → Int32} {a_since : Nat → Int32} {v_last : Int32} {v_state : Int64} {Fu : Nat} : ∀ (k : Nat) {a_row : Nat → Int32} {a_chances : Nat → Int32} {a_votes : Nat → Int64} {x1 : Int32} {x2 : Int32} {x3 : Int32} {x4 : Int32} {R : (Nat → Int64)}, fX12_countVotes_L36 Fu k a_row a_chances a_votes x1 x2 x3 x4 = some R → E G b yX12_countVotes cX12_countVotes 8 none (e_rm 1 0 0) e_X0 (e_Z G b (pD none (e_ov (kM o) (wM G b o v_thrown v_status a_refusals a_row a_images a_isKept a_tape v_taped v_from v_to v_sort v_worth v_fault v_bad v_nClauses a_nClause v_nCode a_nOp a_nArg v_nLeaves a_pile a_pileAt v_piled v_opened a_words a_headWords v_law a_set a_rest v_broken v_value v_sum a_chances R a_costs a_table a_prices v_surely a_mostBy a_leastBy v_between v_steadyWays v_quashed v_but a_figures a_all a_lies a_since v_last v_state) c0) n) 0 0) 36 [(0, .ref (b + o)), (1, .int x1), (2, .int x2), (3, .int x3), (4, .int x4)] [] (e_ov (kM o) (wM G b o v_thrown v_status a_refusals a_row a_images a_isKept a_tape v_taped v_from v_to v_sort v_worth v_fault v_bad v_nClauses a_nClause v_nCode a_nOp a_nArg v_nLeaves a_pile a_pileAt v_piled v_opened a_words a_headWords v_law a_set a_rest v_broken v_value v_sum a_chances a_votes a_costs a_table a_prices v_surely a_mostBy a_leastBy v_between v_steadyWays v_quashed v_but a_figures a_all a_lies a_since v_last v_state) c0) n 0 0 := by
  intro k
  induction k with
  | zero =>
    intro _ _ _ _ _ _ _ _ hf
    have hf : (none : Option ((Nat → Int64))) = some _ := hf
    cases hf
  | succ k ih =>
    intro a_row a_chances a_votes x1 x2 x3 x4 R hf
    rw [fX12_countVotes_L36] at hf
    refine E.iload 4 dX12_countVotes_36 rfl ?_
    refine E.bipush (v := 8) dX12_countVotes_38 (by decide) ?_
    refine E.icmp_ge dX12_countVotes_40 (fun h => ?_) (fun h => ?_)
    · have hf := e_ift hf h
      cases hf
      exact E.vret dX12_countVotes_170 (Nat.le_refl _) (Nat.le_refl _) (pD_rf _ _ _)
    · have hf := e_iff hf h
      refine E.iload_n 1 dX12_countVotes_43 rfl ?_
      refine E.iload 4 dX12_countVotes_44 rfl ?_
      obtain ⟨r1, hc1, hf⟩ := e_bind hf
      refine E.callSD [] dX12_countVotes_46 mlX12_364 (mX12_is hc1) ⟨Nat.le_of_ble_eq_true rfl, Nat.le_of_ble_eq_true rfl⟩ rfl rfl (Nat.le_of_ble_eq_true rfl) ⟨Nat.le_refl _, Nat.le_refl _⟩ rfl ?_
      refine E.if_eq dX12_countVotes_49 (fun h => ?_) (fun h => ?_)
      · have hf := e_ift hf h
        refine E.iinc (q := 4) (v := (x4 + 1)) (lv' := [(4, .int (x4 + 1)), (0, .ref (b + o)), (1, .int x1), (2, .int x2), (3, .int x3)]) dX12_countVotes_164 rfl rfl (by decide) rfl ?_
        refine E.goto dX12_countVotes_167 ?_
        refine E.locals [1, 2, 3, 4, 0] rfl ?_
        exact ih hf
      · have hf := e_iff hf h
        refine E.aload_n 0 dX12_countVotes_52 rfl ?_
        refine E.iload 4 dX12_countVotes_53 rfl ?_
        refine E.iconst (v := 5) dX12_countVotes_55 (by decide) ?_
        obtain ⟨r2, hc2, hf⟩ := e_bind hf
        refine E.callVD [] dX12_countVotes_56 mlX12_163 ⟨hw.sub (p := 0) rfl, e_ov_get hw.1 (p := 0) rfl rfl⟩ rfl rfl (mX12_ofBeast hw hc2) ⟨Nat.le_of_ble_eq_true rfl, Nat.le_of_ble_eq_true rfl⟩ rfl rfl (Nat.le_of_ble_eq_true rfl) ⟨Nat.le_refl _, Nat.le_refl _⟩ rfl ?_
        refine E.iload_n 2 dX12_countVotes_59 rfl ?_
        refine E.iload 4 dX12_countVotes_60 rfl ?_
        obtain ⟨r3, hc3, hf⟩ := e_bind hf
        refine E.callSD [.int r2] dX12_countVotes_62 mlX12_364 (mX12_is hc3) ⟨Nat.le_of_ble_eq_true rfl, Nat.le_of_ble_eq_true rfl⟩ rfl rfl (Nat.le_of_ble_eq_true rfl) ⟨Nat.le_refl _, Nat.le_refl _⟩ rfl ?_
        refine E.if_eq dX12_countVotes_65 (fun h => ?_) (fun h => ?_)
        · have hf := e_ift hf h
          refine E.iconst (v := 0) dX12_countVotes_72 (by decide) ?_
          exact tX12_countVotes_L73 hw ih hf
        · have hf := e_iff hf h
          refine E.iconst (v := 1) dX12_countVotes_68 (by decide) ?_
          refine E.goto dX12_countVotes_69 ?_
          exact tX12_countVotes_L73 hw ih hf
def fX12_countVotes_L26 (Fu : Nat) (k3 : (Nat → Int32) → (Nat → Int32) → (Nat → Int64) → Int32 → Int32 → Int32 → Int32 → Option ((Nat → Int64))) (a_row : Nat → Int32) (a_chances : Nat → Int32) (a_votes : Nat → Int64) (x1 : Int32) (x2 : Int32) (x3 : Int32) (x4 : Int32) (s0 : Int64) (s1 : Int32) : Option ((Nat → Int64)) := gd s1 10 (k3 a_row a_chances (va_up a_votes (s1 : Int32).toNatClampNeg s0) x1 x2 x3 (x4 + 1))
set_option maxHeartbeats 4000000 in
set_option maxRecDepth 100000 in
theorem tX12_countVotes_L26 {G : GT} {b : Nat} {o : Nat} {c0 : Hp} {n : Nat} (hw : e_wf (kM o) n) {v_thrown : Int32} {v_status : Int32} {a_refusals : Nat → Int32} {a_images : Nat → Int32} {a_isKept : Nat → Int32} {a_tape : Nat → Int32} {v_taped : Int32} {v_from : Int32} {v_to : Int32} {v_sort : Int32} {v_worth : Int64} {v_fault : Int32} {v_bad : Int32} {v_nClauses : Int32} {a_nClause : Nat → Int32} {v_nCode : Int32} {a_nOp : Nat → Int32} {a_nArg : Nat → Int32} {v_nLeaves : Int32} {a_pile : Nat → Int32} {a_pileAt : Nat → Int32} {v_piled : Int32} {v_opened : Int32} {a_words : Nat → Int64} {a_headWords : Nat → Int64} {v_law : Int32} {a_set : Nat → Int64} {a_rest : Nat → Int64} {v_broken : Int32} {v_value : Int64} {v_sum : Int64} {a_costs : Nat → Int32} {a_table : Nat → Int64} {a_prices : Nat → Int32} {v_surely : Int64} {a_mostBy : Nat → Int64} {a_leastBy : Nat → Int64} {v_between : Int64} {v_steadyWays : Int32} {v_quashed : Int32} {v_but : Int32} {a_figures : Nat → Int32} {a_all : Nat → Int32} {a_lies : Nat → Int32} {a_since : Nat → Int32} {v_last : Int32} {v_state : Int64} {Fu : Nat} {k3 : (Nat → Int32) → (Nat → Int32) → (Nat → Int64) → Int32 → Int32 → Int32 → Int32 → Option ((Nat → Int64))} (hk3 : ∀ {a_row : Nat → Int32} {a_chances : Nat → Int32} {a_votes : Nat → Int64} {x1 : Int32} {x2 : Int32} {x3 : Int32} {x4 : Int32} {R : (Nat → Int64)}, k3 a_row a_chances a_votes x1 x2 x3 x4 = some R → E G b yX12_countVotes cX12_countVotes 8 none (e_rm 1 0 0) e_X0 (e_Z G b (pD none (e_ov (kM o) (wM G b o v_thrown v_status a_refusals a_row a_images a_isKept a_tape v_taped v_from v_to v_sort v_worth v_fault v_bad v_nClauses a_nClause v_nCode a_nOp a_nArg v_nLeaves a_pile a_pileAt v_piled v_opened a_words a_headWords v_law a_set a_rest v_broken v_value v_sum a_chances R a_costs a_table a_prices v_surely a_mostBy a_leastBy v_between v_steadyWays v_quashed v_but a_figures a_all a_lies a_since v_last v_state) c0) n) 0 0) 3 [(0, .ref (b + o)), (1, .int x1), (2, .int x2), (3, .int x3), (4, .int x4)] [] (e_ov (kM o) (wM G b o v_thrown v_status a_refusals a_row a_images a_isKept a_tape v_taped v_from v_to v_sort v_worth v_fault v_bad v_nClauses a_nClause v_nCode a_nOp a_nArg v_nLeaves a_pile a_pileAt v_piled v_opened a_words a_headWords v_law a_set a_rest v_broken v_value v_sum a_chances a_votes a_costs a_table a_prices v_surely a_mostBy a_leastBy v_between v_steadyWays v_quashed v_but a_figures a_all a_lies a_since v_last v_state) c0) n 0 0) {a_row : Nat → Int32} {a_chances : Nat → Int32} {a_votes : Nat → Int64} {x1 : Int32} {x2 : Int32} {x3 : Int32} {x4 : Int32} {s0 : Int64} {s1 : Int32} {R : (Nat → Int64)} (hf : fX12_countVotes_L26 Fu k3 a_row a_chances a_votes x1 x2 x3 x4 s0 s1 = some R) : E G b yX12_countVotes cX12_countVotes 8 none (e_rm 1 0 0) e_X0 (e_Z G b (pD none (e_ov (kM o) (wM G b o v_thrown v_status a_refusals a_row a_images a_isKept a_tape v_taped v_from v_to v_sort v_worth v_fault v_bad v_nClauses a_nClause v_nCode a_nOp a_nArg v_nLeaves a_pile a_pileAt v_piled v_opened a_words a_headWords v_law a_set a_rest v_broken v_value v_sum a_chances R a_costs a_table a_prices v_surely a_mostBy a_leastBy v_between v_steadyWays v_quashed v_but a_figures a_all a_lies a_since v_last v_state) c0) n) 0 0) 26 [(0, .ref (b + o)), (1, .int x1), (2, .int x2), (3, .int x3), (4, .int x4)] [.long s0, .int s1, .ref (b + (o + 16))] (e_ov (kM o) (wM G b o v_thrown v_status a_refusals a_row a_images a_isKept a_tape v_taped v_from v_to v_sort v_worth v_fault v_bad v_nClauses a_nClause v_nCode a_nOp a_nArg v_nLeaves a_pile a_pileAt v_piled v_opened a_words a_headWords v_law a_set a_rest v_broken v_value v_sum a_chances a_votes a_costs a_table a_prices v_surely a_mostBy a_leastBy v_between v_steadyWays v_quashed v_but a_figures a_all a_lies a_since v_last v_state) c0) n 0 0 := by
  unfold fX12_countVotes_L26 at hf
  obtain ⟨g9, hf⟩ := gd_some hf
  refine E.last (es' := (wM G b o v_thrown v_status a_refusals a_row a_images a_isKept a_tape v_taped v_from v_to v_sort v_worth v_fault v_bad v_nClauses a_nClause v_nCode a_nOp a_nArg v_nLeaves a_pile a_pileAt v_piled v_opened a_words a_headWords v_law a_set a_rest v_broken v_value v_sum a_chances (va_up a_votes (s1 : Int32).toNatClampNeg s0) a_costs a_table a_prices v_surely a_mostBy a_leastBy v_between v_steadyWays v_quashed v_but a_figures a_all a_lies a_since v_last v_state)) hw 16 (o + 16) dX12_countVotes_26 rfl rfl g9 rfl ?_
  refine E.iinc (q := 4) (v := (x4 + 1)) (lv' := [(4, .int (x4 + 1)), (0, .ref (b + o)), (1, .int x1), (2, .int x2), (3, .int x3)]) dX12_countVotes_27 rfl rfl (by decide) rfl ?_
  refine E.goto dX12_countVotes_30 ?_
  refine E.locals [1, 2, 3, 4, 0] rfl ?_
  exact hk3 hf
def fX12_countVotes_L3 (Fu : Nat) : Nat → (Nat → Int32) → (Nat → Int32) → (Nat → Int64) → Int32 → Int32 → Int32 → Int32 → Option ((Nat → Int64))
  | 0, _, _, _, _, _, _, _ => none
  | k + 1, a_row, a_chances, a_votes, x1, x2, x3, x4 => if (10 : Int32) ≤ (x4 : Int32) then (fX12_countVotes_L36 Fu Fu a_row a_chances a_votes x1 x2 x3 0) else (if (x4 : Int32) = 0 then (fX12_countVotes_L26 Fu (fX12_countVotes_L3 Fu k) a_row a_chances a_votes x1 x2 x3 x4 1 x4) else (fX12_countVotes_L26 Fu (fX12_countVotes_L3 Fu k) a_row a_chances a_votes x1 x2 x3 x4 0 x4))
set_option maxHeartbeats 4000000 in
set_option maxRecDepth 100000 in
theorem tX12_countVotes_L3 {G : GT} {b : Nat} {o : Nat} {c0 : Hp} {n : Nat} (hw : e_wf (kM o) n) {v_thrown : Int32} {v_status : Int32} {a_refusals : Nat → Int32} {a_images : Nat → Int32} {a_isKept : Nat → Int32} {a_tape : Nat → Int32} {v_taped : Int32} {v_from : Int32} {v_to : Int32} {v_sort : Int32} {v_worth : Int64} {v_fault : Int32} {v_bad : Int32} {v_nClauses : Int32} {a_nClause : Nat → Int32} {v_nCode : Int32} {a_nOp : Nat → Int32} {a_nArg : Nat → Int32} {v_nLeaves : Int32} {a_pile : Nat → Int32} {a_pileAt : Nat → Int32} {v_piled : Int32} {v_opened : Int32} {a_words : Nat → Int64} {a_headWords : Nat → Int64} {v_law : Int32} {a_set : Nat → Int64} {a_rest : Nat → Int64} {v_broken : Int32} {v_value : Int64} {v_sum : Int64} {a_costs : Nat → Int32} {a_table : Nat → Int64} {a_prices : Nat → Int32} {v_surely : Int64} {a_mostBy : Nat → Int64} {a_leastBy : Nat → Int64} {v_between : Int64} {v_steadyWays : Int32} {v_quashed : Int32} {v_but : Int32} {a_figures : Nat → Int32} {a_all : Nat → Int32} {a_lies : Nat → Int32} {a_since : Nat → Int32} {v_last : Int32} {v_state : Int64} {Fu : Nat} : ∀ (k : Nat) {a_row : Nat → Int32} {a_chances : Nat → Int32} {a_votes : Nat → Int64} {x1 : Int32} {x2 : Int32} {x3 : Int32} {x4 : Int32} {R : (Nat → Int64)}, fX12_countVotes_L3 Fu k a_row a_chances a_votes x1 x2 x3 x4 = some R → E G b yX12_countVotes cX12_countVotes 8 none (e_rm 1 0 0) e_X0 (e_Z G b (pD none (e_ov (kM o) (wM G b o v_thrown v_status a_refusals a_row a_images a_isKept a_tape v_taped v_from v_to v_sort v_worth v_fault v_bad v_nClauses a_nClause v_nCode a_nOp a_nArg v_nLeaves a_pile a_pileAt v_piled v_opened a_words a_headWords v_law a_set a_rest v_broken v_value v_sum a_chances R a_costs a_table a_prices v_surely a_mostBy a_leastBy v_between v_steadyWays v_quashed v_but a_figures a_all a_lies a_since v_last v_state) c0) n) 0 0) 3 [(0, .ref (b + o)), (1, .int x1), (2, .int x2), (3, .int x3), (4, .int x4)] [] (e_ov (kM o) (wM G b o v_thrown v_status a_refusals a_row a_images a_isKept a_tape v_taped v_from v_to v_sort v_worth v_fault v_bad v_nClauses a_nClause v_nCode a_nOp a_nArg v_nLeaves a_pile a_pileAt v_piled v_opened a_words a_headWords v_law a_set a_rest v_broken v_value v_sum a_chances a_votes a_costs a_table a_prices v_surely a_mostBy a_leastBy v_between v_steadyWays v_quashed v_but a_figures a_all a_lies a_since v_last v_state) c0) n 0 0 := by
  intro k
  induction k with
  | zero =>
    intro _ _ _ _ _ _ _ _ hf
    have hf : (none : Option ((Nat → Int64))) = some _ := hf
    cases hf
  | succ k ih =>
    intro a_row a_chances a_votes x1 x2 x3 x4 R hf
    rw [fX12_countVotes_L3] at hf
    refine E.iload 4 dX12_countVotes_3 rfl ?_
    refine E.bipush (v := 10) dX12_countVotes_5 (by decide) ?_
    refine E.icmp_ge dX12_countVotes_7 (fun h => ?_) (fun h => ?_)
    · have hf := e_ift hf h
      refine E.iconst (v := 0) dX12_countVotes_33 (by decide) ?_
      refine E.istore (lv' := [(4, .int 0), (0, .ref (b + o)), (1, .int x1), (2, .int x2), (3, .int x3)]) dX12_countVotes_34 (by decide) rfl ?_
      refine E.locals [1, 2, 3, 4, 0] rfl ?_
      exact tX12_countVotes_L36 hw _ hf
    · have hf := e_iff hf h
      refine E.aload_n 0 dX12_countVotes_10 rfl ?_
      refine E.get hw 0 o dX12_countVotes_11 flX12_87 rfl rfl rfl rfl ?_
      refine E.iload 4 dX12_countVotes_14 rfl ?_
      refine E.iload 4 dX12_countVotes_16 rfl ?_
      refine E.if_ne dX12_countVotes_18 (fun h => ?_) (fun h => ?_)
      · have hf := e_iff hf h
        refine E.lconst (v := 0) dX12_countVotes_25 (by decide) ?_
        exact tX12_countVotes_L26 hw ih hf
      · have hf := e_ift hf h
        refine E.lconst (v := 1) dX12_countVotes_21 (by decide) ?_
        refine E.goto dX12_countVotes_22 ?_
        exact tX12_countVotes_L26 hw ih hf
def fX12_countVotes (Fu : Nat) (a_row : Nat → Int32) (a_chances : Nat → Int32) (a_votes : Nat → Int64) (x1 : Int32) (x2 : Int32) (x3 : Int32) : Option ((Nat → Int64)) := fX12_countVotes_L3 Fu Fu a_row a_chances a_votes x1 x2 x3 0
set_option maxHeartbeats 4000000 in
set_option maxRecDepth 100000 in
theorem tX12_countVotes {G : GT} {b : Nat} {o : Nat} {c0 : Hp} {n : Nat} (hw : e_wf (kM o) n) {v_thrown : Int32} {v_status : Int32} {a_refusals : Nat → Int32} {a_images : Nat → Int32} {a_isKept : Nat → Int32} {a_tape : Nat → Int32} {v_taped : Int32} {v_from : Int32} {v_to : Int32} {v_sort : Int32} {v_worth : Int64} {v_fault : Int32} {v_bad : Int32} {v_nClauses : Int32} {a_nClause : Nat → Int32} {v_nCode : Int32} {a_nOp : Nat → Int32} {a_nArg : Nat → Int32} {v_nLeaves : Int32} {a_pile : Nat → Int32} {a_pileAt : Nat → Int32} {v_piled : Int32} {v_opened : Int32} {a_words : Nat → Int64} {a_headWords : Nat → Int64} {v_law : Int32} {a_set : Nat → Int64} {a_rest : Nat → Int64} {v_broken : Int32} {v_value : Int64} {v_sum : Int64} {a_costs : Nat → Int32} {a_table : Nat → Int64} {a_prices : Nat → Int32} {v_surely : Int64} {a_mostBy : Nat → Int64} {a_leastBy : Nat → Int64} {v_between : Int64} {v_steadyWays : Int32} {v_quashed : Int32} {v_but : Int32} {a_figures : Nat → Int32} {a_all : Nat → Int32} {a_lies : Nat → Int32} {a_since : Nat → Int32} {v_last : Int32} {v_state : Int64} {Fu : Nat} {a_row : Nat → Int32} {a_chances : Nat → Int32} {a_votes : Nat → Int64} {x1 : Int32} {x2 : Int32} {x3 : Int32} {R : (Nat → Int64)} (hf : fX12_countVotes Fu a_row a_chances a_votes x1 x2 x3 = some R) : E G b yX12_countVotes cX12_countVotes 8 none (e_rm 1 0 0) e_X0 (e_Z G b (pD none (e_ov (kM o) (wM G b o v_thrown v_status a_refusals a_row a_images a_isKept a_tape v_taped v_from v_to v_sort v_worth v_fault v_bad v_nClauses a_nClause v_nCode a_nOp a_nArg v_nLeaves a_pile a_pileAt v_piled v_opened a_words a_headWords v_law a_set a_rest v_broken v_value v_sum a_chances R a_costs a_table a_prices v_surely a_mostBy a_leastBy v_between v_steadyWays v_quashed v_but a_figures a_all a_lies a_since v_last v_state) c0) n) 0 0) 0 [(0, .ref (b + o)), (1, .int x1), (2, .int x2), (3, .int x3)] [] (e_ov (kM o) (wM G b o v_thrown v_status a_refusals a_row a_images a_isKept a_tape v_taped v_from v_to v_sort v_worth v_fault v_bad v_nClauses a_nClause v_nCode a_nOp a_nArg v_nLeaves a_pile a_pileAt v_piled v_opened a_words a_headWords v_law a_set a_rest v_broken v_value v_sum a_chances a_votes a_costs a_table a_prices v_surely a_mostBy a_leastBy v_between v_steadyWays v_quashed v_but a_figures a_all a_lies a_since v_last v_state) c0) n 0 0 := by
  unfold fX12_countVotes at hf
  refine E.iconst (v := 0) dX12_countVotes_0 (by decide) ?_
  refine E.istore (lv' := [(4, .int 0), (0, .ref (b + o)), (1, .int x1), (2, .int x2), (3, .int x3)]) dX12_countVotes_1 (by decide) rfl ?_
  refine E.locals [1, 2, 3, 4, 0] rfl ?_
  exact tX12_countVotes_L3 hw _ hf
set_option maxRecDepth 100000 in
theorem mX12_countVotes {G : GT} {b : Nat} {o : Nat} {c0 : Hp} {n : Nat} (hw : e_wf (kM o) n) {v_thrown : Int32} {v_status : Int32} {a_refusals : Nat → Int32} {a_images : Nat → Int32} {a_isKept : Nat → Int32} {a_tape : Nat → Int32} {v_taped : Int32} {v_from : Int32} {v_to : Int32} {v_sort : Int32} {v_worth : Int64} {v_fault : Int32} {v_bad : Int32} {v_nClauses : Int32} {a_nClause : Nat → Int32} {v_nCode : Int32} {a_nOp : Nat → Int32} {a_nArg : Nat → Int32} {v_nLeaves : Int32} {a_pile : Nat → Int32} {a_pileAt : Nat → Int32} {v_piled : Int32} {v_opened : Int32} {a_words : Nat → Int64} {a_headWords : Nat → Int64} {v_law : Int32} {a_set : Nat → Int64} {a_rest : Nat → Int64} {v_broken : Int32} {v_value : Int64} {v_sum : Int64} {a_costs : Nat → Int32} {a_table : Nat → Int64} {a_prices : Nat → Int32} {v_surely : Int64} {a_mostBy : Nat → Int64} {a_leastBy : Nat → Int64} {v_between : Int64} {v_steadyWays : Int32} {v_quashed : Int32} {v_but : Int32} {a_figures : Nat → Int32} {a_all : Nat → Int32} {a_lies : Nat → Int32} {a_since : Nat → Int32} {v_last : Int32} {v_state : Int64} {Fu : Nat} {a_row : Nat → Int32} {a_chances : Nat → Int32} {a_votes : Nat → Int64} {x1 : Int32} {x2 : Int32} {x3 : Int32} {R : (Nat → Int64)} (hf : fX12_countVotes Fu a_row a_chances a_votes x1 x2 x3 = some R) : e_C G b yX12_countVotes cX12_countVotes 8 none 1 0 0 [.ref (b + o), .int x1, .int x2, .int x3] (e_ov (kM o) (wM G b o v_thrown v_status a_refusals a_row a_images a_isKept a_tape v_taped v_from v_to v_sort v_worth v_fault v_bad v_nClauses a_nClause v_nCode a_nOp a_nArg v_nLeaves a_pile a_pileAt v_piled v_opened a_words a_headWords v_law a_set a_rest v_broken v_value v_sum a_chances a_votes a_costs a_table a_prices v_surely a_mostBy a_leastBy v_between v_steadyWays v_quashed v_but a_figures a_all a_lies a_since v_last v_state) c0) n (pD none (e_ov (kM o) (wM G b o v_thrown v_status a_refusals a_row a_images a_isKept a_tape v_taped v_from v_to v_sort v_worth v_fault v_bad v_nClauses a_nClause v_nCode a_nOp a_nArg v_nLeaves a_pile a_pileAt v_piled v_opened a_words a_headWords v_law a_set a_rest v_broken v_value v_sum a_chances R a_costs a_table a_prices v_surely a_mostBy a_leastBy v_between v_steadyWays v_quashed v_but a_figures a_all a_lies a_since v_last v_state) c0) n) := e_C.of (by decide) (Nat.le_of_ble_eq_true rfl) (tX12_countVotes hw hf)
def fX12_wins_L14 (Fu : Nat) : Nat → (Nat → Int32) → (Nat → Int32) → (Nat → Int64) → Int64 → Int32 → Option (Int64 × (Nat → Int64))
  | 0, _, _, _, _, _ => none
  | k + 1, a_row, a_chances, a_votes, x5, x7 => if (9 : Int32) ≤ (x7 : Int32) then (some (x5, a_votes)) else (gd x7 10 ((fX12_wins_L14 Fu k) a_row a_chances a_votes (x5 + (a_votes (x7 : Int32).toNatClampNeg)) (x7 + 1)))
set_option maxHeartbeats 4000000 in
set_option maxRecDepth 100000 in
theorem tX12_wins_L14 {G : GT} {b : Nat} {o : Nat} {c0 : Hp} {n : Nat} (hw : e_wf (kM o) n) {v_thrown : Int32} {v_status : Int32} {a_refusals : Nat → Int32} {a_images : Nat → Int32} {a_isKept : Nat → Int32} {a_tape : Nat → Int32} {v_taped : Int32} {v_from : Int32} {v_to : Int32} {v_sort : Int32} {v_worth : Int64} {v_fault : Int32} {v_bad : Int32} {v_nClauses : Int32} {a_nClause : Nat → Int32} {v_nCode : Int32} {a_nOp : Nat → Int32} {a_nArg : Nat → Int32} {v_nLeaves : Int32} {a_pile : Nat → Int32} {a_pileAt : Nat → Int32} {v_piled : Int32} {v_opened : Int32} {a_words : Nat → Int64} {a_headWords : Nat → Int64} {v_law : Int32} {a_set : Nat → Int64} {a_rest : Nat → Int64} {v_broken : Int32} {v_value : Int64} {v_sum : Int64} {a_costs : Nat → Int32} {a_table : Nat → Int64} {a_prices : Nat → Int32} {v_surely : Int64} {a_mostBy : Nat → Int64} {a_leastBy : Nat → Int64} {v_between : Int64} {v_steadyWays : Int32} {v_quashed : Int32} {v_but : Int32} {a_figures : Nat → Int32} {a_all : Nat → Int32} {a_lies : Nat → Int32} {a_since : Nat → Int32} {v_last : Int32} {v_state : Int64} {Fu : Nat} : ∀ (k : Nat) {a_row : Nat → Int32} {a_chances : Nat → Int32} {a_votes : Nat → Int64} {x5 : Int64} {x7 : Int32} {R : Int64 × (Nat → Int64)}, fX12_wins_L14 Fu k a_row a_chances a_votes x5 x7 = some R → E G b yX12_wins cX12_wins 8 (some .long) (e_rm 2 0 0) e_X0 (e_Z G b (pD (some (.long R.1)) (e_ov (kM o) (wM G b o v_thrown v_status a_refusals a_row a_images a_isKept a_tape v_taped v_from v_to v_sort v_worth v_fault v_bad v_nClauses a_nClause v_nCode a_nOp a_nArg v_nLeaves a_pile a_pileAt v_piled v_opened a_words a_headWords v_law a_set a_rest v_broken v_value v_sum a_chances R.2 a_costs a_table a_prices v_surely a_mostBy a_leastBy v_between v_steadyWays v_quashed v_but a_figures a_all a_lies a_since v_last v_state) c0) n) 0 0) 14 [(0, .ref (b + o)), (5, .long x5), (7, .int x7)] [] (e_ov (kM o) (wM G b o v_thrown v_status a_refusals a_row a_images a_isKept a_tape v_taped v_from v_to v_sort v_worth v_fault v_bad v_nClauses a_nClause v_nCode a_nOp a_nArg v_nLeaves a_pile a_pileAt v_piled v_opened a_words a_headWords v_law a_set a_rest v_broken v_value v_sum a_chances a_votes a_costs a_table a_prices v_surely a_mostBy a_leastBy v_between v_steadyWays v_quashed v_but a_figures a_all a_lies a_since v_last v_state) c0) n 0 0 := by
  intro k
  induction k with
  | zero =>
    intro _ _ _ _ _ _ hf
    have hf : (none : Option (Int64 × (Nat → Int64))) = some _ := hf
    cases hf
  | succ k ih =>
    intro a_row a_chances a_votes x5 x7 R hf
    rw [fX12_wins_L14] at hf
    refine E.iload 2 dX12_wins_14 rfl ?_
    refine E.bipush (v := 9) dX12_wins_16 (by decide) ?_
    refine E.icmp_ge dX12_wins_18 (fun h => ?_) (fun h => ?_)
    · have hf := e_ift hf h
      refine E.lload 1 dX12_wins_39 rfl ?_
      cases hf
      exact E.lret dX12_wins_41 (Nat.le_refl _) (Nat.le_refl _) (pD_rf _ _ _)
    · have hf := e_iff hf h
      refine E.lload 1 dX12_wins_21 rfl ?_
      refine E.aload_n 0 dX12_wins_23 rfl ?_
      refine E.get hw 0 o dX12_wins_24 flX12_87 rfl rfl rfl rfl ?_
      refine E.iload 2 dX12_wins_27 rfl ?_
      obtain ⟨g2, hf⟩ := gd_some hf
      refine E.lald hw 16 (o + 16) dX12_wins_29 rfl rfl g2 ?_
      refine E.ladd dX12_wins_30 ?_
      refine E.lstore (lv' := [(5, .long (x5 + (a_votes (x7 : Int32).toNatClampNeg))), (0, .ref (b + o)), (7, .int x7)]) dX12_wins_31 (by decide) rfl ?_
      refine E.iinc (q := 2) (v := (x7 + 1)) (lv' := [(7, .int (x7 + 1)), (5, .long (x5 + (a_votes (x7 : Int32).toNatClampNeg))), (0, .ref (b + o))]) dX12_wins_33 rfl rfl (by decide) rfl ?_
      refine E.goto dX12_wins_36 ?_
      refine E.locals [2, 1, 0] rfl ?_
      exact ih hf
def fX12_wins (Fu : Nat) (a_row : Nat → Int32) (a_chances : Nat → Int32) (a_votes : Nat → Int64) (x1 : Int32) (x2 : Int32) (x3 : Int32) (x4 : Int32) : Option (Int64 × (Nat → Int64)) := (fX12_countVotes Fu a_row a_chances a_votes x1 x2 x3).bind fun r1 => (fX12_wins_L14 Fu Fu a_row a_chances r1 0 x4)
set_option maxHeartbeats 4000000 in
set_option maxRecDepth 100000 in
theorem tX12_wins {G : GT} {b : Nat} {o : Nat} {c0 : Hp} {n : Nat} (hw : e_wf (kM o) n) {v_thrown : Int32} {v_status : Int32} {a_refusals : Nat → Int32} {a_images : Nat → Int32} {a_isKept : Nat → Int32} {a_tape : Nat → Int32} {v_taped : Int32} {v_from : Int32} {v_to : Int32} {v_sort : Int32} {v_worth : Int64} {v_fault : Int32} {v_bad : Int32} {v_nClauses : Int32} {a_nClause : Nat → Int32} {v_nCode : Int32} {a_nOp : Nat → Int32} {a_nArg : Nat → Int32} {v_nLeaves : Int32} {a_pile : Nat → Int32} {a_pileAt : Nat → Int32} {v_piled : Int32} {v_opened : Int32} {a_words : Nat → Int64} {a_headWords : Nat → Int64} {v_law : Int32} {a_set : Nat → Int64} {a_rest : Nat → Int64} {v_broken : Int32} {v_value : Int64} {v_sum : Int64} {a_costs : Nat → Int32} {a_table : Nat → Int64} {a_prices : Nat → Int32} {v_surely : Int64} {a_mostBy : Nat → Int64} {a_leastBy : Nat → Int64} {v_between : Int64} {v_steadyWays : Int32} {v_quashed : Int32} {v_but : Int32} {a_figures : Nat → Int32} {a_all : Nat → Int32} {a_lies : Nat → Int32} {a_since : Nat → Int32} {v_last : Int32} {v_state : Int64} {Fu : Nat} {a_row : Nat → Int32} {a_chances : Nat → Int32} {a_votes : Nat → Int64} {x1 : Int32} {x2 : Int32} {x3 : Int32} {x4 : Int32} {R : Int64 × (Nat → Int64)} (hf : fX12_wins Fu a_row a_chances a_votes x1 x2 x3 x4 = some R) : E G b yX12_wins cX12_wins 8 (some .long) (e_rm 2 0 0) e_X0 (e_Z G b (pD (some (.long R.1)) (e_ov (kM o) (wM G b o v_thrown v_status a_refusals a_row a_images a_isKept a_tape v_taped v_from v_to v_sort v_worth v_fault v_bad v_nClauses a_nClause v_nCode a_nOp a_nArg v_nLeaves a_pile a_pileAt v_piled v_opened a_words a_headWords v_law a_set a_rest v_broken v_value v_sum a_chances R.2 a_costs a_table a_prices v_surely a_mostBy a_leastBy v_between v_steadyWays v_quashed v_but a_figures a_all a_lies a_since v_last v_state) c0) n) 0 0) 0 [(0, .ref (b + o)), (1, .int x1), (2, .int x2), (3, .int x3), (4, .int x4)] [] (e_ov (kM o) (wM G b o v_thrown v_status a_refusals a_row a_images a_isKept a_tape v_taped v_from v_to v_sort v_worth v_fault v_bad v_nClauses a_nClause v_nCode a_nOp a_nArg v_nLeaves a_pile a_pileAt v_piled v_opened a_words a_headWords v_law a_set a_rest v_broken v_value v_sum a_chances a_votes a_costs a_table a_prices v_surely a_mostBy a_leastBy v_between v_steadyWays v_quashed v_but a_figures a_all a_lies a_since v_last v_state) c0) n 0 0 := by
  unfold fX12_wins at hf
  refine E.aload_n 0 dX12_wins_0 rfl ?_
  refine E.iload_n 1 dX12_wins_1 rfl ?_
  refine E.iload_n 2 dX12_wins_2 rfl ?_
  refine E.iload_n 3 dX12_wins_3 rfl ?_
  obtain ⟨r1, hc1, hf⟩ := e_bind hf
  refine E.callVD [] dX12_wins_4 mlX12_367 ⟨hw.sub (p := 0) rfl, e_ov_get hw.1 (p := 0) rfl rfl⟩ rfl rfl (mX12_countVotes hw hc1) ⟨Nat.le_of_ble_eq_true rfl, Nat.le_of_ble_eq_true rfl⟩ rfl rfl (Nat.le_of_ble_eq_true rfl) ⟨Nat.le_refl _, Nat.le_refl _⟩ rfl ?_
  refine E.lconst (v := 0) dX12_wins_7 (by decide) ?_
  refine E.lstore (lv' := [(5, .long 0), (0, .ref (b + o)), (1, .int x1), (2, .int x2), (3, .int x3), (4, .int x4)]) dX12_wins_8 (by decide) rfl ?_
  refine E.iload 5 dX12_wins_10 rfl ?_
  refine E.istore (lv' := [(7, .int x4), (5, .long 0), (0, .ref (b + o)), (1, .int x1), (2, .int x2), (3, .int x3), (4, .int x4)]) dX12_wins_12 (by decide) rfl ?_
  refine E.locals [2, 1, 0] rfl ?_
  exact tX12_wins_L14 hw _ hf
set_option maxRecDepth 100000 in
theorem mX12_wins {G : GT} {b : Nat} {o : Nat} {c0 : Hp} {n : Nat} (hw : e_wf (kM o) n) {v_thrown : Int32} {v_status : Int32} {a_refusals : Nat → Int32} {a_images : Nat → Int32} {a_isKept : Nat → Int32} {a_tape : Nat → Int32} {v_taped : Int32} {v_from : Int32} {v_to : Int32} {v_sort : Int32} {v_worth : Int64} {v_fault : Int32} {v_bad : Int32} {v_nClauses : Int32} {a_nClause : Nat → Int32} {v_nCode : Int32} {a_nOp : Nat → Int32} {a_nArg : Nat → Int32} {v_nLeaves : Int32} {a_pile : Nat → Int32} {a_pileAt : Nat → Int32} {v_piled : Int32} {v_opened : Int32} {a_words : Nat → Int64} {a_headWords : Nat → Int64} {v_law : Int32} {a_set : Nat → Int64} {a_rest : Nat → Int64} {v_broken : Int32} {v_value : Int64} {v_sum : Int64} {a_costs : Nat → Int32} {a_table : Nat → Int64} {a_prices : Nat → Int32} {v_surely : Int64} {a_mostBy : Nat → Int64} {a_leastBy : Nat → Int64} {v_between : Int64} {v_steadyWays : Int32} {v_quashed : Int32} {v_but : Int32} {a_figures : Nat → Int32} {a_all : Nat → Int32} {a_lies : Nat → Int32} {a_since : Nat → Int32} {v_last : Int32} {v_state : Int64} {Fu : Nat} {a_row : Nat → Int32} {a_chances : Nat → Int32} {a_votes : Nat → Int64} {x1 : Int32} {x2 : Int32} {x3 : Int32} {x4 : Int32} {R : Int64 × (Nat → Int64)} (hf : fX12_wins Fu a_row a_chances a_votes x1 x2 x3 x4 = some R) : e_C G b yX12_wins cX12_wins 8 (some .long) 2 0 0 [.ref (b + o), .int x1, .int x2, .int x3, .int x4] (e_ov (kM o) (wM G b o v_thrown v_status a_refusals a_row a_images a_isKept a_tape v_taped v_from v_to v_sort v_worth v_fault v_bad v_nClauses a_nClause v_nCode a_nOp a_nArg v_nLeaves a_pile a_pileAt v_piled v_opened a_words a_headWords v_law a_set a_rest v_broken v_value v_sum a_chances a_votes a_costs a_table a_prices v_surely a_mostBy a_leastBy v_between v_steadyWays v_quashed v_but a_figures a_all a_lies a_since v_last v_state) c0) n (pD (some (.long R.1)) (e_ov (kM o) (wM G b o v_thrown v_status a_refusals a_row a_images a_isKept a_tape v_taped v_from v_to v_sort v_worth v_fault v_bad v_nClauses a_nClause v_nCode a_nOp a_nArg v_nLeaves a_pile a_pileAt v_piled v_opened a_words a_headWords v_law a_set a_rest v_broken v_value v_sum a_chances R.2 a_costs a_table a_prices v_surely a_mostBy a_leastBy v_between v_steadyWays v_quashed v_but a_figures a_all a_lies a_since v_last v_state) c0) n) := e_C.of (by decide) (Nat.le_of_ble_eq_true rfl) (tX12_wins hw hf)
def fX12_layNow (Fu : Nat) (a_row : Nat → Int32) (v_law : Int32) (a_set : Nat → Int64) (a_rest : Nat → Int64) (v_broken : Int32) (v_value : Int64) (v_sum : Int64) (a_chances : Nat → Int32) : Option (Int32 × (Nat → Int64) × (Nat → Int64) × Int32 × Int64 × Int64 × (Nat → Int32)) := gd 6 5570 ((fX12_layChances Fu a_row v_law a_set a_rest v_broken v_value v_sum a_chances (a_row (6 : Int32).toNatClampNeg)).bind fun r2 => (some (r2.1, r2.2.1, r2.2.2.1, r2.2.2.2.1, r2.2.2.2.2.1, r2.2.2.2.2.2.1, r2.2.2.2.2.2.2)))
set_option maxHeartbeats 4000000 in
set_option maxRecDepth 100000 in
theorem tX12_layNow {G : GT} {b : Nat} {o : Nat} {c0 : Hp} {n : Nat} (hw : e_wf (kM o) n) {v_thrown : Int32} {v_status : Int32} {a_refusals : Nat → Int32} {a_images : Nat → Int32} {a_isKept : Nat → Int32} {a_tape : Nat → Int32} {v_taped : Int32} {v_from : Int32} {v_to : Int32} {v_sort : Int32} {v_worth : Int64} {v_fault : Int32} {v_bad : Int32} {v_nClauses : Int32} {a_nClause : Nat → Int32} {v_nCode : Int32} {a_nOp : Nat → Int32} {a_nArg : Nat → Int32} {v_nLeaves : Int32} {a_pile : Nat → Int32} {a_pileAt : Nat → Int32} {v_piled : Int32} {v_opened : Int32} {a_words : Nat → Int64} {a_headWords : Nat → Int64} {a_votes : Nat → Int64} {a_costs : Nat → Int32} {a_table : Nat → Int64} {a_prices : Nat → Int32} {v_surely : Int64} {a_mostBy : Nat → Int64} {a_leastBy : Nat → Int64} {v_between : Int64} {v_steadyWays : Int32} {v_quashed : Int32} {v_but : Int32} {a_figures : Nat → Int32} {a_all : Nat → Int32} {a_lies : Nat → Int32} {a_since : Nat → Int32} {v_last : Int32} {v_state : Int64} {Fu : Nat} {a_row : Nat → Int32} {v_law : Int32} {a_set : Nat → Int64} {a_rest : Nat → Int64} {v_broken : Int32} {v_value : Int64} {v_sum : Int64} {a_chances : Nat → Int32} {R : Int32 × (Nat → Int64) × (Nat → Int64) × Int32 × Int64 × Int64 × (Nat → Int32)} (hf : fX12_layNow Fu a_row v_law a_set a_rest v_broken v_value v_sum a_chances = some R) : E G b yX12_layNow cX12_layNow 1 none (e_rm 6 0 0) e_X0 (e_Z G b (pD none (e_ov (kM o) (wM G b o v_thrown v_status a_refusals a_row a_images a_isKept a_tape v_taped v_from v_to v_sort v_worth v_fault v_bad v_nClauses a_nClause v_nCode a_nOp a_nArg v_nLeaves a_pile a_pileAt v_piled v_opened a_words a_headWords R.1 R.2.1 R.2.2.1 R.2.2.2.1 R.2.2.2.2.1 R.2.2.2.2.2.1 R.2.2.2.2.2.2 a_votes a_costs a_table a_prices v_surely a_mostBy a_leastBy v_between v_steadyWays v_quashed v_but a_figures a_all a_lies a_since v_last v_state) c0) n) 0 0) 0 [(0, .ref (b + o))] [] (e_ov (kM o) (wM G b o v_thrown v_status a_refusals a_row a_images a_isKept a_tape v_taped v_from v_to v_sort v_worth v_fault v_bad v_nClauses a_nClause v_nCode a_nOp a_nArg v_nLeaves a_pile a_pileAt v_piled v_opened a_words a_headWords v_law a_set a_rest v_broken v_value v_sum a_chances a_votes a_costs a_table a_prices v_surely a_mostBy a_leastBy v_between v_steadyWays v_quashed v_but a_figures a_all a_lies a_since v_last v_state) c0) n 0 0 := by
  unfold fX12_layNow at hf
  refine E.aload_n 0 dX12_layNow_0 rfl ?_
  refine E.aload_n 0 dX12_layNow_1 rfl ?_
  refine E.get hw 0 o dX12_layNow_2 flX12_13 rfl rfl rfl rfl ?_
  refine E.bipush (v := 6) dX12_layNow_5 (by decide) ?_
  obtain ⟨g1, hf⟩ := gd_some hf
  refine E.iald hw 2 (o + 2) dX12_layNow_7 rfl rfl g1 ?_
  obtain ⟨r2, hc2, hf⟩ := e_bind hf
  refine E.callVD [] dX12_layNow_8 mlX12_371 ⟨hw.sub (p := 0) rfl, e_ov_get hw.1 (p := 0) rfl rfl⟩ rfl rfl (mX12_layChances hw hc2) ⟨Nat.le_of_ble_eq_true rfl, Nat.le_of_ble_eq_true rfl⟩ rfl rfl (Nat.le_of_ble_eq_true rfl) ⟨Nat.le_refl _, Nat.le_refl _⟩ rfl ?_
  cases hf
  exact E.vret dX12_layNow_11 (Nat.le_refl _) (Nat.le_refl _) (pD_rf _ _ _)
set_option maxRecDepth 100000 in
theorem mX12_layNow {G : GT} {b : Nat} {o : Nat} {c0 : Hp} {n : Nat} (hw : e_wf (kM o) n) {v_thrown : Int32} {v_status : Int32} {a_refusals : Nat → Int32} {a_images : Nat → Int32} {a_isKept : Nat → Int32} {a_tape : Nat → Int32} {v_taped : Int32} {v_from : Int32} {v_to : Int32} {v_sort : Int32} {v_worth : Int64} {v_fault : Int32} {v_bad : Int32} {v_nClauses : Int32} {a_nClause : Nat → Int32} {v_nCode : Int32} {a_nOp : Nat → Int32} {a_nArg : Nat → Int32} {v_nLeaves : Int32} {a_pile : Nat → Int32} {a_pileAt : Nat → Int32} {v_piled : Int32} {v_opened : Int32} {a_words : Nat → Int64} {a_headWords : Nat → Int64} {a_votes : Nat → Int64} {a_costs : Nat → Int32} {a_table : Nat → Int64} {a_prices : Nat → Int32} {v_surely : Int64} {a_mostBy : Nat → Int64} {a_leastBy : Nat → Int64} {v_between : Int64} {v_steadyWays : Int32} {v_quashed : Int32} {v_but : Int32} {a_figures : Nat → Int32} {a_all : Nat → Int32} {a_lies : Nat → Int32} {a_since : Nat → Int32} {v_last : Int32} {v_state : Int64} {Fu : Nat} {a_row : Nat → Int32} {v_law : Int32} {a_set : Nat → Int64} {a_rest : Nat → Int64} {v_broken : Int32} {v_value : Int64} {v_sum : Int64} {a_chances : Nat → Int32} {R : Int32 × (Nat → Int64) × (Nat → Int64) × Int32 × Int64 × Int64 × (Nat → Int32)} (hf : fX12_layNow Fu a_row v_law a_set a_rest v_broken v_value v_sum a_chances = some R) : e_C G b yX12_layNow cX12_layNow 1 none 6 0 0 [.ref (b + o)] (e_ov (kM o) (wM G b o v_thrown v_status a_refusals a_row a_images a_isKept a_tape v_taped v_from v_to v_sort v_worth v_fault v_bad v_nClauses a_nClause v_nCode a_nOp a_nArg v_nLeaves a_pile a_pileAt v_piled v_opened a_words a_headWords v_law a_set a_rest v_broken v_value v_sum a_chances a_votes a_costs a_table a_prices v_surely a_mostBy a_leastBy v_between v_steadyWays v_quashed v_but a_figures a_all a_lies a_since v_last v_state) c0) n (pD none (e_ov (kM o) (wM G b o v_thrown v_status a_refusals a_row a_images a_isKept a_tape v_taped v_from v_to v_sort v_worth v_fault v_bad v_nClauses a_nClause v_nCode a_nOp a_nArg v_nLeaves a_pile a_pileAt v_piled v_opened a_words a_headWords R.1 R.2.1 R.2.2.1 R.2.2.2.1 R.2.2.2.2.1 R.2.2.2.2.2.1 R.2.2.2.2.2.2 a_votes a_costs a_table a_prices v_surely a_mostBy a_leastBy v_between v_steadyWays v_quashed v_but a_figures a_all a_lies a_since v_last v_state) c0) n) := e_C.of (by decide) (Nat.le_of_ble_eq_true rfl) (tX12_layNow hw hf)
def fX12_quota (a_row : Nat → Int32) : Option (Int32) := gd 5 5570 (some ((a_row (5 : Int32).toNatClampNeg)))
set_option maxHeartbeats 4000000 in
set_option maxRecDepth 100000 in
theorem tX12_quota {G : GT} {b : Nat} {o : Nat} {c0 : Hp} {n : Nat} (hw : e_wf (kM o) n) {v_thrown : Int32} {v_status : Int32} {a_refusals : Nat → Int32} {a_images : Nat → Int32} {a_isKept : Nat → Int32} {a_tape : Nat → Int32} {v_taped : Int32} {v_from : Int32} {v_to : Int32} {v_sort : Int32} {v_worth : Int64} {v_fault : Int32} {v_bad : Int32} {v_nClauses : Int32} {a_nClause : Nat → Int32} {v_nCode : Int32} {a_nOp : Nat → Int32} {a_nArg : Nat → Int32} {v_nLeaves : Int32} {a_pile : Nat → Int32} {a_pileAt : Nat → Int32} {v_piled : Int32} {v_opened : Int32} {a_words : Nat → Int64} {a_headWords : Nat → Int64} {v_law : Int32} {a_set : Nat → Int64} {a_rest : Nat → Int64} {v_broken : Int32} {v_value : Int64} {v_sum : Int64} {a_chances : Nat → Int32} {a_votes : Nat → Int64} {a_costs : Nat → Int32} {a_table : Nat → Int64} {a_prices : Nat → Int32} {v_surely : Int64} {a_mostBy : Nat → Int64} {a_leastBy : Nat → Int64} {v_between : Int64} {v_steadyWays : Int32} {v_quashed : Int32} {v_but : Int32} {a_figures : Nat → Int32} {a_all : Nat → Int32} {a_lies : Nat → Int32} {a_since : Nat → Int32} {v_last : Int32} {v_state : Int64} {a_row : Nat → Int32} {R : Int32} (hf : fX12_quota a_row = some R) : E G b yX12_quota cX12_quota 1 (some .int) (e_rm 0 0 0) e_X0 (e_Z G b (pD (some (.int R)) (e_ov (kM o) (wM G b o v_thrown v_status a_refusals a_row a_images a_isKept a_tape v_taped v_from v_to v_sort v_worth v_fault v_bad v_nClauses a_nClause v_nCode a_nOp a_nArg v_nLeaves a_pile a_pileAt v_piled v_opened a_words a_headWords v_law a_set a_rest v_broken v_value v_sum a_chances a_votes a_costs a_table a_prices v_surely a_mostBy a_leastBy v_between v_steadyWays v_quashed v_but a_figures a_all a_lies a_since v_last v_state) c0) n) 0 0) 0 [(0, .ref (b + o))] [] (e_ov (kM o) (wM G b o v_thrown v_status a_refusals a_row a_images a_isKept a_tape v_taped v_from v_to v_sort v_worth v_fault v_bad v_nClauses a_nClause v_nCode a_nOp a_nArg v_nLeaves a_pile a_pileAt v_piled v_opened a_words a_headWords v_law a_set a_rest v_broken v_value v_sum a_chances a_votes a_costs a_table a_prices v_surely a_mostBy a_leastBy v_between v_steadyWays v_quashed v_but a_figures a_all a_lies a_since v_last v_state) c0) n 0 0 := by
  unfold fX12_quota at hf
  refine E.aload_n 0 dX12_quota_0 rfl ?_
  refine E.get hw 0 o dX12_quota_1 flX12_13 rfl rfl rfl rfl ?_
  refine E.iconst (v := 5) dX12_quota_4 (by decide) ?_
  obtain ⟨g1, hf⟩ := gd_some hf
  refine E.iald hw 2 (o + 2) dX12_quota_5 rfl rfl g1 ?_
  cases hf
  exact E.iret dX12_quota_6 (Nat.le_refl _) (Nat.le_refl _) (pD_rf _ _ _)
set_option maxRecDepth 100000 in
theorem mX12_quota {G : GT} {b : Nat} {o : Nat} {c0 : Hp} {n : Nat} (hw : e_wf (kM o) n) {v_thrown : Int32} {v_status : Int32} {a_refusals : Nat → Int32} {a_images : Nat → Int32} {a_isKept : Nat → Int32} {a_tape : Nat → Int32} {v_taped : Int32} {v_from : Int32} {v_to : Int32} {v_sort : Int32} {v_worth : Int64} {v_fault : Int32} {v_bad : Int32} {v_nClauses : Int32} {a_nClause : Nat → Int32} {v_nCode : Int32} {a_nOp : Nat → Int32} {a_nArg : Nat → Int32} {v_nLeaves : Int32} {a_pile : Nat → Int32} {a_pileAt : Nat → Int32} {v_piled : Int32} {v_opened : Int32} {a_words : Nat → Int64} {a_headWords : Nat → Int64} {v_law : Int32} {a_set : Nat → Int64} {a_rest : Nat → Int64} {v_broken : Int32} {v_value : Int64} {v_sum : Int64} {a_chances : Nat → Int32} {a_votes : Nat → Int64} {a_costs : Nat → Int32} {a_table : Nat → Int64} {a_prices : Nat → Int32} {v_surely : Int64} {a_mostBy : Nat → Int64} {a_leastBy : Nat → Int64} {v_between : Int64} {v_steadyWays : Int32} {v_quashed : Int32} {v_but : Int32} {a_figures : Nat → Int32} {a_all : Nat → Int32} {a_lies : Nat → Int32} {a_since : Nat → Int32} {v_last : Int32} {v_state : Int64} {a_row : Nat → Int32} {R : Int32} (hf : fX12_quota a_row = some R) : e_C G b yX12_quota cX12_quota 1 (some .int) 0 0 0 [.ref (b + o)] (e_ov (kM o) (wM G b o v_thrown v_status a_refusals a_row a_images a_isKept a_tape v_taped v_from v_to v_sort v_worth v_fault v_bad v_nClauses a_nClause v_nCode a_nOp a_nArg v_nLeaves a_pile a_pileAt v_piled v_opened a_words a_headWords v_law a_set a_rest v_broken v_value v_sum a_chances a_votes a_costs a_table a_prices v_surely a_mostBy a_leastBy v_between v_steadyWays v_quashed v_but a_figures a_all a_lies a_since v_last v_state) c0) n (pD (some (.int R)) (e_ov (kM o) (wM G b o v_thrown v_status a_refusals a_row a_images a_isKept a_tape v_taped v_from v_to v_sort v_worth v_fault v_bad v_nClauses a_nClause v_nCode a_nOp a_nArg v_nLeaves a_pile a_pileAt v_piled v_opened a_words a_headWords v_law a_set a_rest v_broken v_value v_sum a_chances a_votes a_costs a_table a_prices v_surely a_mostBy a_leastBy v_between v_steadyWays v_quashed v_but a_figures a_all a_lies a_since v_last v_state) c0) n) := e_C.of (by decide) (Nat.le_of_ble_eq_true rfl) (tX12_quota hw hf)
def fX12_odds (Fu : Nat) (v_thrown : Int32) (a_row : Nat → Int32) (v_law : Int32) (a_set : Nat → Int64) (a_rest : Nat → Int64) (v_broken : Int32) (v_value : Int64) (v_sum : Int64) (a_chances : Nat → Int32) (a_votes : Nat → Int64) (x1 : Int32) : Option (Int64 × Int32 × Int32 × (Nat → Int64) × (Nat → Int64) × Int32 × Int64 × Int64 × (Nat → Int32) × (Nat → Int64)) := (fX12_in ((x1 : Int32).toInt64) (-1 : Int64) 8).bind fun r1 => (if (r1 : Int32) = 0 then (some ((-1 : Int64), 0, v_law, a_set, a_rest, v_broken, v_value, v_sum, a_chances, a_votes)) else ((fX12_layNow Fu a_row v_law a_set a_rest v_broken v_value v_sum a_chances).bind fun r2 => (gd 4 5570 ((fX12_quota a_row).bind fun r4 => ((fX12_wins Fu a_row r2.2.2.2.2.2.2 a_votes (a_row (4 : Int32).toNatClampNeg) 0 0 r4).bind fun r5 => (if (x1 : Int32) = ((-1 : Int32) : Int32) then (some (r5.1, 0, r2.1, r2.2.1, r2.2.2.1, r2.2.2.2.1, r2.2.2.2.2.1, r2.2.2.2.2.2.1, r2.2.2.2.2.2.2, r5.2)) else (gd x1 10 (some ((r5.2 (x1 : Int32).toNatClampNeg), 0, r2.1, r2.2.1, r2.2.2.1, r2.2.2.2.1, r2.2.2.2.2.1, r2.2.2.2.2.2.1, r2.2.2.2.2.2.2, r5.2)))))))))
set_option maxHeartbeats 4000000 in
set_option maxRecDepth 100000 in
theorem tX12_odds {G : GT} {b : Nat} {o : Nat} {c0 : Hp} {n : Nat} (hw : e_wf (kM o) n) {v_status : Int32} {a_refusals : Nat → Int32} {a_images : Nat → Int32} {a_isKept : Nat → Int32} {a_tape : Nat → Int32} {v_taped : Int32} {v_from : Int32} {v_to : Int32} {v_sort : Int32} {v_worth : Int64} {v_fault : Int32} {v_bad : Int32} {v_nClauses : Int32} {a_nClause : Nat → Int32} {v_nCode : Int32} {a_nOp : Nat → Int32} {a_nArg : Nat → Int32} {v_nLeaves : Int32} {a_pile : Nat → Int32} {a_pileAt : Nat → Int32} {v_piled : Int32} {v_opened : Int32} {a_words : Nat → Int64} {a_headWords : Nat → Int64} {a_costs : Nat → Int32} {a_table : Nat → Int64} {a_prices : Nat → Int32} {v_surely : Int64} {a_mostBy : Nat → Int64} {a_leastBy : Nat → Int64} {v_between : Int64} {v_steadyWays : Int32} {v_quashed : Int32} {v_but : Int32} {a_figures : Nat → Int32} {a_all : Nat → Int32} {a_lies : Nat → Int32} {a_since : Nat → Int32} {v_last : Int32} {v_state : Int64} {Fu : Nat} {v_thrown : Int32} {a_row : Nat → Int32} {v_law : Int32} {a_set : Nat → Int64} {a_rest : Nat → Int64} {v_broken : Int32} {v_value : Int64} {v_sum : Int64} {a_chances : Nat → Int32} {a_votes : Nat → Int64} {x1 : Int32} {R : Int64 × Int32 × Int32 × (Nat → Int64) × (Nat → Int64) × Int32 × Int64 × Int64 × (Nat → Int32) × (Nat → Int64)} (hf : fX12_odds Fu v_thrown a_row v_law a_set a_rest v_broken v_value v_sum a_chances a_votes x1 = some R) : E G b yX12_odds cX12_odds 4 (some .long) (e_rm 7 0 0) e_X0 (e_Z G b (pD (some (.long R.1)) (e_ov (kM o) (wM G b o R.2.1 v_status a_refusals a_row a_images a_isKept a_tape v_taped v_from v_to v_sort v_worth v_fault v_bad v_nClauses a_nClause v_nCode a_nOp a_nArg v_nLeaves a_pile a_pileAt v_piled v_opened a_words a_headWords R.2.2.1 R.2.2.2.1 R.2.2.2.2.1 R.2.2.2.2.2.1 R.2.2.2.2.2.2.1 R.2.2.2.2.2.2.2.1 R.2.2.2.2.2.2.2.2.1 R.2.2.2.2.2.2.2.2.2 a_costs a_table a_prices v_surely a_mostBy a_leastBy v_between v_steadyWays v_quashed v_but a_figures a_all a_lies a_since v_last v_state) c0) n) 0 0) 0 [(0, .ref (b + o)), (1, .int x1)] [] (e_ov (kM o) (wM G b o v_thrown v_status a_refusals a_row a_images a_isKept a_tape v_taped v_from v_to v_sort v_worth v_fault v_bad v_nClauses a_nClause v_nCode a_nOp a_nArg v_nLeaves a_pile a_pileAt v_piled v_opened a_words a_headWords v_law a_set a_rest v_broken v_value v_sum a_chances a_votes a_costs a_table a_prices v_surely a_mostBy a_leastBy v_between v_steadyWays v_quashed v_but a_figures a_all a_lies a_since v_last v_state) c0) n 0 0 := by
  unfold fX12_odds at hf
  refine E.aload_n 0 dX12_odds_0 rfl ?_
  refine E.iconst (v := 0) dX12_odds_1 (by decide) ?_
  refine E.put (es' := (wM G b o 0 v_status a_refusals a_row a_images a_isKept a_tape v_taped v_from v_to v_sort v_worth v_fault v_bad v_nClauses a_nClause v_nCode a_nOp a_nArg v_nLeaves a_pile a_pileAt v_piled v_opened a_words a_headWords v_law a_set a_rest v_broken v_value v_sum a_chances a_votes a_costs a_table a_prices v_surely a_mostBy a_leastBy v_between v_steadyWays v_quashed v_but a_figures a_all a_lies a_since v_last v_state)) hw 0 o dX12_odds_2 flX12_124 ftX12 rfl rfl rfl rfl rfl rfl (Nat.le_of_ble_eq_true rfl) rfl ?_
  refine E.iload_n 1 dX12_odds_5 rfl ?_
  refine E.i2l dX12_odds_6 ?_
  refine E.ldc2 dX12_odds_7 kX12_221 ?_
  refine E.ldc2 dX12_odds_10 kX12_175 ?_
  obtain ⟨r1, hc1, hf⟩ := e_bind hf
  refine E.callSD [] dX12_odds_13 mlX12_134 (mX12_in hc1) ⟨Nat.le_of_ble_eq_true rfl, Nat.le_of_ble_eq_true rfl⟩ rfl rfl (Nat.le_of_ble_eq_true rfl) ⟨Nat.le_refl _, Nat.le_refl _⟩ rfl ?_
  refine E.if_ne dX12_odds_16 (fun h => ?_) (fun h => ?_)
  · have hf := e_iff hf h
    refine E.aload_n 0 dX12_odds_23 rfl ?_
    obtain ⟨r2, hc2, hf⟩ := e_bind hf
    refine E.callVD [] dX12_odds_24 mlX12_374 ⟨hw.sub (p := 0) rfl, e_ov_get hw.1 (p := 0) rfl rfl⟩ rfl rfl (mX12_layNow hw hc2) ⟨Nat.le_of_ble_eq_true rfl, Nat.le_of_ble_eq_true rfl⟩ rfl rfl (Nat.le_of_ble_eq_true rfl) ⟨Nat.le_refl _, Nat.le_refl _⟩ rfl ?_
    refine E.aload_n 0 dX12_odds_27 rfl ?_
    refine E.aload_n 0 dX12_odds_28 rfl ?_
    refine E.get hw 0 o dX12_odds_29 flX12_13 rfl rfl rfl rfl ?_
    refine E.iconst (v := 4) dX12_odds_32 (by decide) ?_
    obtain ⟨g3, hf⟩ := gd_some hf
    refine E.iald hw 2 (o + 2) dX12_odds_33 rfl rfl g3 ?_
    refine E.iconst (v := 0) dX12_odds_34 (by decide) ?_
    refine E.iconst (v := 0) dX12_odds_35 (by decide) ?_
    refine E.aload_n 0 dX12_odds_36 rfl ?_
    obtain ⟨r4, hc4, hf⟩ := e_bind hf
    refine E.callVD [.int 0, .int 0, .int (a_row (4 : Int32).toNatClampNeg), .ref (b + o)] dX12_odds_37 mlX12_377 ⟨hw.sub (p := 0) rfl, e_ov_get hw.1 (p := 0) rfl rfl⟩ rfl rfl (mX12_quota hw hc4) ⟨Nat.le_of_ble_eq_true rfl, Nat.le_of_ble_eq_true rfl⟩ rfl rfl (Nat.le_of_ble_eq_true rfl) ⟨Nat.le_refl _, Nat.le_refl _⟩ rfl ?_
    obtain ⟨r5, hc5, hf⟩ := e_bind hf
    refine E.callVD [] dX12_odds_40 mlX12_380 ⟨hw.sub (p := 0) rfl, e_ov_get hw.1 (p := 0) rfl rfl⟩ rfl rfl (mX12_wins hw hc5) ⟨Nat.le_of_ble_eq_true rfl, Nat.le_of_ble_eq_true rfl⟩ rfl rfl (Nat.le_of_ble_eq_true rfl) ⟨Nat.le_refl _, Nat.le_refl _⟩ rfl ?_
    refine E.lstore_n (lv' := [(2, .long r5.1), (0, .ref (b + o)), (1, .int x1)]) dX12_odds_43 (by decide) rfl ?_
    refine E.iload_n 2 dX12_odds_44 rfl ?_
    refine E.iconst (v := -1) dX12_odds_45 (by decide) ?_
    refine E.icmp_ne dX12_odds_46 (fun h => ?_) (fun h => ?_)
    · have hf := e_iff hf h
      refine E.aload_n 1 dX12_odds_53 rfl ?_
      refine E.get hw 0 o dX12_odds_54 flX12_87 rfl rfl rfl rfl ?_
      refine E.iload_n 2 dX12_odds_57 rfl ?_
      obtain ⟨g6, hf⟩ := gd_some hf
      refine E.lald hw 16 (o + 16) dX12_odds_58 rfl rfl g6 ?_
      cases hf
      exact E.lret dX12_odds_59 (Nat.le_refl _) (Nat.le_refl _) (pD_rf _ _ _)
    · have hf := e_ift hf h
      refine E.lload_n 0 dX12_odds_49 rfl ?_
      refine E.goto dX12_odds_50 ?_
      cases hf
      exact E.lret dX12_odds_59 (Nat.le_refl _) (Nat.le_refl _) (pD_rf _ _ _)
  · have hf := e_ift hf h
    refine E.ldc2 dX12_odds_19 kX12_221 ?_
    cases hf
    exact E.lret dX12_odds_22 (Nat.le_refl _) (Nat.le_refl _) (pD_rf _ _ _)
set_option maxRecDepth 100000 in
theorem mX12_odds {G : GT} {b : Nat} {o : Nat} {c0 : Hp} {n : Nat} (hw : e_wf (kM o) n) {v_status : Int32} {a_refusals : Nat → Int32} {a_images : Nat → Int32} {a_isKept : Nat → Int32} {a_tape : Nat → Int32} {v_taped : Int32} {v_from : Int32} {v_to : Int32} {v_sort : Int32} {v_worth : Int64} {v_fault : Int32} {v_bad : Int32} {v_nClauses : Int32} {a_nClause : Nat → Int32} {v_nCode : Int32} {a_nOp : Nat → Int32} {a_nArg : Nat → Int32} {v_nLeaves : Int32} {a_pile : Nat → Int32} {a_pileAt : Nat → Int32} {v_piled : Int32} {v_opened : Int32} {a_words : Nat → Int64} {a_headWords : Nat → Int64} {a_costs : Nat → Int32} {a_table : Nat → Int64} {a_prices : Nat → Int32} {v_surely : Int64} {a_mostBy : Nat → Int64} {a_leastBy : Nat → Int64} {v_between : Int64} {v_steadyWays : Int32} {v_quashed : Int32} {v_but : Int32} {a_figures : Nat → Int32} {a_all : Nat → Int32} {a_lies : Nat → Int32} {a_since : Nat → Int32} {v_last : Int32} {v_state : Int64} {Fu : Nat} {v_thrown : Int32} {a_row : Nat → Int32} {v_law : Int32} {a_set : Nat → Int64} {a_rest : Nat → Int64} {v_broken : Int32} {v_value : Int64} {v_sum : Int64} {a_chances : Nat → Int32} {a_votes : Nat → Int64} {x1 : Int32} {R : Int64 × Int32 × Int32 × (Nat → Int64) × (Nat → Int64) × Int32 × Int64 × Int64 × (Nat → Int32) × (Nat → Int64)} (hf : fX12_odds Fu v_thrown a_row v_law a_set a_rest v_broken v_value v_sum a_chances a_votes x1 = some R) : e_C G b yX12_odds cX12_odds 4 (some .long) 7 0 0 [.ref (b + o), .int x1] (e_ov (kM o) (wM G b o v_thrown v_status a_refusals a_row a_images a_isKept a_tape v_taped v_from v_to v_sort v_worth v_fault v_bad v_nClauses a_nClause v_nCode a_nOp a_nArg v_nLeaves a_pile a_pileAt v_piled v_opened a_words a_headWords v_law a_set a_rest v_broken v_value v_sum a_chances a_votes a_costs a_table a_prices v_surely a_mostBy a_leastBy v_between v_steadyWays v_quashed v_but a_figures a_all a_lies a_since v_last v_state) c0) n (pD (some (.long R.1)) (e_ov (kM o) (wM G b o R.2.1 v_status a_refusals a_row a_images a_isKept a_tape v_taped v_from v_to v_sort v_worth v_fault v_bad v_nClauses a_nClause v_nCode a_nOp a_nArg v_nLeaves a_pile a_pileAt v_piled v_opened a_words a_headWords R.2.2.1 R.2.2.2.1 R.2.2.2.2.1 R.2.2.2.2.2.1 R.2.2.2.2.2.2.1 R.2.2.2.2.2.2.2.1 R.2.2.2.2.2.2.2.2.1 R.2.2.2.2.2.2.2.2.2 a_costs a_table a_prices v_surely a_mostBy a_leastBy v_between v_steadyWays v_quashed v_but a_figures a_all a_lies a_since v_last v_state) c0) n) := e_C.of (by decide) (Nat.le_of_ble_eq_true rfl) (tX12_odds hw hf)
def fX12_tips (Fu : Nat) (v_thrown : Int32) (a_row : Nat → Int32) (v_law : Int32) (a_set : Nat → Int64) (a_rest : Nat → Int64) (v_broken : Int32) (v_value : Int64) (v_sum : Int64) (a_chances : Nat → Int32) (a_votes : Nat → Int64) (x1 : Int32) : Option (Int64 × Int32 × Int32 × (Nat → Int64) × (Nat → Int64) × Int32 × Int64 × Int64 × (Nat → Int32) × (Nat → Int64)) := (fX12_in ((x1 : Int32).toInt64) 0 7).bind fun r1 => (if (r1 : Int32) = 0 then (some ((-1 : Int64), 0, v_law, a_set, a_rest, v_broken, v_value, v_sum, a_chances, a_votes)) else (gd 4 5570 ((fX12_is (a_row (4 : Int32).toNatClampNeg) x1).bind fun r3 => (if (r3 : Int32) = 0 then (some ((-1 : Int64), 0, v_law, a_set, a_rest, v_broken, v_value, v_sum, a_chances, a_votes)) else ((fX12_layNow Fu a_row v_law a_set a_rest v_broken v_value v_sum a_chances).bind fun r4 => (gd 4 5570 ((fX12_countVotes Fu a_row r4.2.2.2.2.2.2 a_votes ((a_row (4 : Int32).toNatClampNeg) &&& ((1 <<< (x1 &&& 31)) ^^^ (-1 : Int32))) 0 0).bind fun r6 => ((fX12_quota a_row).bind fun r7 => (gd (r7 - 1) 10 (some ((r6 ((r7 - 1) : Int32).toNatClampNeg), 0, r4.1, r4.2.1, r4.2.2.1, r4.2.2.2.1, r4.2.2.2.2.1, r4.2.2.2.2.2.1, r4.2.2.2.2.2.2, r6)))))))))))
set_option maxHeartbeats 4000000 in
set_option maxRecDepth 100000 in
theorem tX12_tips {G : GT} {b : Nat} {o : Nat} {c0 : Hp} {n : Nat} (hw : e_wf (kM o) n) {v_status : Int32} {a_refusals : Nat → Int32} {a_images : Nat → Int32} {a_isKept : Nat → Int32} {a_tape : Nat → Int32} {v_taped : Int32} {v_from : Int32} {v_to : Int32} {v_sort : Int32} {v_worth : Int64} {v_fault : Int32} {v_bad : Int32} {v_nClauses : Int32} {a_nClause : Nat → Int32} {v_nCode : Int32} {a_nOp : Nat → Int32} {a_nArg : Nat → Int32} {v_nLeaves : Int32} {a_pile : Nat → Int32} {a_pileAt : Nat → Int32} {v_piled : Int32} {v_opened : Int32} {a_words : Nat → Int64} {a_headWords : Nat → Int64} {a_costs : Nat → Int32} {a_table : Nat → Int64} {a_prices : Nat → Int32} {v_surely : Int64} {a_mostBy : Nat → Int64} {a_leastBy : Nat → Int64} {v_between : Int64} {v_steadyWays : Int32} {v_quashed : Int32} {v_but : Int32} {a_figures : Nat → Int32} {a_all : Nat → Int32} {a_lies : Nat → Int32} {a_since : Nat → Int32} {v_last : Int32} {v_state : Int64} {Fu : Nat} {v_thrown : Int32} {a_row : Nat → Int32} {v_law : Int32} {a_set : Nat → Int64} {a_rest : Nat → Int64} {v_broken : Int32} {v_value : Int64} {v_sum : Int64} {a_chances : Nat → Int32} {a_votes : Nat → Int64} {x1 : Int32} {R : Int64 × Int32 × Int32 × (Nat → Int64) × (Nat → Int64) × Int32 × Int64 × Int64 × (Nat → Int32) × (Nat → Int64)} (hf : fX12_tips Fu v_thrown a_row v_law a_set a_rest v_broken v_value v_sum a_chances a_votes x1 = some R) : E G b yX12_tips cX12_tips 2 (some .long) (e_rm 7 0 0) e_X0 (e_Z G b (pD (some (.long R.1)) (e_ov (kM o) (wM G b o R.2.1 v_status a_refusals a_row a_images a_isKept a_tape v_taped v_from v_to v_sort v_worth v_fault v_bad v_nClauses a_nClause v_nCode a_nOp a_nArg v_nLeaves a_pile a_pileAt v_piled v_opened a_words a_headWords R.2.2.1 R.2.2.2.1 R.2.2.2.2.1 R.2.2.2.2.2.1 R.2.2.2.2.2.2.1 R.2.2.2.2.2.2.2.1 R.2.2.2.2.2.2.2.2.1 R.2.2.2.2.2.2.2.2.2 a_costs a_table a_prices v_surely a_mostBy a_leastBy v_between v_steadyWays v_quashed v_but a_figures a_all a_lies a_since v_last v_state) c0) n) 0 0) 0 [(0, .ref (b + o)), (1, .int x1)] [] (e_ov (kM o) (wM G b o v_thrown v_status a_refusals a_row a_images a_isKept a_tape v_taped v_from v_to v_sort v_worth v_fault v_bad v_nClauses a_nClause v_nCode a_nOp a_nArg v_nLeaves a_pile a_pileAt v_piled v_opened a_words a_headWords v_law a_set a_rest v_broken v_value v_sum a_chances a_votes a_costs a_table a_prices v_surely a_mostBy a_leastBy v_between v_steadyWays v_quashed v_but a_figures a_all a_lies a_since v_last v_state) c0) n 0 0 := by
  unfold fX12_tips at hf
  refine E.aload_n 0 dX12_tips_0 rfl ?_
  refine E.iconst (v := 0) dX12_tips_1 (by decide) ?_
  refine E.put (es' := (wM G b o 0 v_status a_refusals a_row a_images a_isKept a_tape v_taped v_from v_to v_sort v_worth v_fault v_bad v_nClauses a_nClause v_nCode a_nOp a_nArg v_nLeaves a_pile a_pileAt v_piled v_opened a_words a_headWords v_law a_set a_rest v_broken v_value v_sum a_chances a_votes a_costs a_table a_prices v_surely a_mostBy a_leastBy v_between v_steadyWays v_quashed v_but a_figures a_all a_lies a_since v_last v_state)) hw 0 o dX12_tips_2 flX12_124 ftX12 rfl rfl rfl rfl rfl rfl (Nat.le_of_ble_eq_true rfl) rfl ?_
  refine E.iload_n 1 dX12_tips_5 rfl ?_
  refine E.i2l dX12_tips_6 ?_
  refine E.lconst (v := 0) dX12_tips_7 (by decide) ?_
  refine E.ldc2 dX12_tips_8 kX12_384 ?_
  obtain ⟨r1, hc1, hf⟩ := e_bind hf
  refine E.callSD [] dX12_tips_11 mlX12_134 (mX12_in hc1) ⟨Nat.le_of_ble_eq_true rfl, Nat.le_of_ble_eq_true rfl⟩ rfl rfl (Nat.le_of_ble_eq_true rfl) ⟨Nat.le_refl _, Nat.le_refl _⟩ rfl ?_
  refine E.if_eq dX12_tips_14 (fun h => ?_) (fun h => ?_)
  · have hf := e_ift hf h
    refine E.ldc2 dX12_tips_30 kX12_221 ?_
    cases hf
    exact E.lret dX12_tips_33 (Nat.le_refl _) (Nat.le_refl _) (pD_rf _ _ _)
  · have hf := e_iff hf h
    refine E.aload_n 0 dX12_tips_17 rfl ?_
    refine E.get hw 0 o dX12_tips_18 flX12_13 rfl rfl rfl rfl ?_
    refine E.iconst (v := 4) dX12_tips_21 (by decide) ?_
    obtain ⟨g2, hf⟩ := gd_some hf
    refine E.iald hw 2 (o + 2) dX12_tips_22 rfl rfl g2 ?_
    refine E.iload_n 1 dX12_tips_23 rfl ?_
    obtain ⟨r3, hc3, hf⟩ := e_bind hf
    refine E.callSD [] dX12_tips_24 mlX12_364 (mX12_is hc3) ⟨Nat.le_of_ble_eq_true rfl, Nat.le_of_ble_eq_true rfl⟩ rfl rfl (Nat.le_of_ble_eq_true rfl) ⟨Nat.le_refl _, Nat.le_refl _⟩ rfl ?_
    refine E.if_ne dX12_tips_27 (fun h => ?_) (fun h => ?_)
    · have hf := e_iff hf h
      refine E.aload_n 0 dX12_tips_34 rfl ?_
      obtain ⟨r4, hc4, hf⟩ := e_bind hf
      refine E.callVD [] dX12_tips_35 mlX12_374 ⟨hw.sub (p := 0) rfl, e_ov_get hw.1 (p := 0) rfl rfl⟩ rfl rfl (mX12_layNow hw hc4) ⟨Nat.le_of_ble_eq_true rfl, Nat.le_of_ble_eq_true rfl⟩ rfl rfl (Nat.le_of_ble_eq_true rfl) ⟨Nat.le_refl _, Nat.le_refl _⟩ rfl ?_
      refine E.aload_n 0 dX12_tips_38 rfl ?_
      refine E.aload_n 0 dX12_tips_39 rfl ?_
      refine E.get hw 0 o dX12_tips_40 flX12_13 rfl rfl rfl rfl ?_
      refine E.iconst (v := 4) dX12_tips_43 (by decide) ?_
      obtain ⟨g5, hf⟩ := gd_some hf
      refine E.iald hw 2 (o + 2) dX12_tips_44 rfl rfl g5 ?_
      refine E.iconst (v := 1) dX12_tips_45 (by decide) ?_
      refine E.iload_n 1 dX12_tips_46 rfl ?_
      refine E.ishl dX12_tips_47 ?_
      refine E.iconst (v := -1) dX12_tips_48 (by decide) ?_
      refine E.ixor dX12_tips_49 ?_
      refine E.iand dX12_tips_50 ?_
      refine E.iconst (v := 0) dX12_tips_51 (by decide) ?_
      refine E.iconst (v := 0) dX12_tips_52 (by decide) ?_
      obtain ⟨r6, hc6, hf⟩ := e_bind hf
      refine E.callVD [] dX12_tips_53 mlX12_367 ⟨hw.sub (p := 0) rfl, e_ov_get hw.1 (p := 0) rfl rfl⟩ rfl rfl (mX12_countVotes hw hc6) ⟨Nat.le_of_ble_eq_true rfl, Nat.le_of_ble_eq_true rfl⟩ rfl rfl (Nat.le_of_ble_eq_true rfl) ⟨Nat.le_refl _, Nat.le_refl _⟩ rfl ?_
      refine E.aload_n 0 dX12_tips_56 rfl ?_
      refine E.get hw 0 o dX12_tips_57 flX12_87 rfl rfl rfl rfl ?_
      refine E.aload_n 0 dX12_tips_60 rfl ?_
      obtain ⟨r7, hc7, hf⟩ := e_bind hf
      refine E.callVD [.ref (b + (o + 16))] dX12_tips_61 mlX12_377 ⟨hw.sub (p := 0) rfl, e_ov_get hw.1 (p := 0) rfl rfl⟩ rfl rfl (mX12_quota hw hc7) ⟨Nat.le_of_ble_eq_true rfl, Nat.le_of_ble_eq_true rfl⟩ rfl rfl (Nat.le_of_ble_eq_true rfl) ⟨Nat.le_refl _, Nat.le_refl _⟩ rfl ?_
      refine E.iconst (v := 1) dX12_tips_64 (by decide) ?_
      refine E.isub dX12_tips_65 ?_
      obtain ⟨g8, hf⟩ := gd_some hf
      refine E.lald hw 16 (o + 16) dX12_tips_66 rfl rfl g8 ?_
      cases hf
      exact E.lret dX12_tips_67 (Nat.le_refl _) (Nat.le_refl _) (pD_rf _ _ _)
    · have hf := e_ift hf h
      refine E.ldc2 dX12_tips_30 kX12_221 ?_
      cases hf
      exact E.lret dX12_tips_33 (Nat.le_refl _) (Nat.le_refl _) (pD_rf _ _ _)
set_option maxRecDepth 100000 in
theorem mX12_tips {G : GT} {b : Nat} {o : Nat} {c0 : Hp} {n : Nat} (hw : e_wf (kM o) n) {v_status : Int32} {a_refusals : Nat → Int32} {a_images : Nat → Int32} {a_isKept : Nat → Int32} {a_tape : Nat → Int32} {v_taped : Int32} {v_from : Int32} {v_to : Int32} {v_sort : Int32} {v_worth : Int64} {v_fault : Int32} {v_bad : Int32} {v_nClauses : Int32} {a_nClause : Nat → Int32} {v_nCode : Int32} {a_nOp : Nat → Int32} {a_nArg : Nat → Int32} {v_nLeaves : Int32} {a_pile : Nat → Int32} {a_pileAt : Nat → Int32} {v_piled : Int32} {v_opened : Int32} {a_words : Nat → Int64} {a_headWords : Nat → Int64} {a_costs : Nat → Int32} {a_table : Nat → Int64} {a_prices : Nat → Int32} {v_surely : Int64} {a_mostBy : Nat → Int64} {a_leastBy : Nat → Int64} {v_between : Int64} {v_steadyWays : Int32} {v_quashed : Int32} {v_but : Int32} {a_figures : Nat → Int32} {a_all : Nat → Int32} {a_lies : Nat → Int32} {a_since : Nat → Int32} {v_last : Int32} {v_state : Int64} {Fu : Nat} {v_thrown : Int32} {a_row : Nat → Int32} {v_law : Int32} {a_set : Nat → Int64} {a_rest : Nat → Int64} {v_broken : Int32} {v_value : Int64} {v_sum : Int64} {a_chances : Nat → Int32} {a_votes : Nat → Int64} {x1 : Int32} {R : Int64 × Int32 × Int32 × (Nat → Int64) × (Nat → Int64) × Int32 × Int64 × Int64 × (Nat → Int32) × (Nat → Int64)} (hf : fX12_tips Fu v_thrown a_row v_law a_set a_rest v_broken v_value v_sum a_chances a_votes x1 = some R) : e_C G b yX12_tips cX12_tips 2 (some .long) 7 0 0 [.ref (b + o), .int x1] (e_ov (kM o) (wM G b o v_thrown v_status a_refusals a_row a_images a_isKept a_tape v_taped v_from v_to v_sort v_worth v_fault v_bad v_nClauses a_nClause v_nCode a_nOp a_nArg v_nLeaves a_pile a_pileAt v_piled v_opened a_words a_headWords v_law a_set a_rest v_broken v_value v_sum a_chances a_votes a_costs a_table a_prices v_surely a_mostBy a_leastBy v_between v_steadyWays v_quashed v_but a_figures a_all a_lies a_since v_last v_state) c0) n (pD (some (.long R.1)) (e_ov (kM o) (wM G b o R.2.1 v_status a_refusals a_row a_images a_isKept a_tape v_taped v_from v_to v_sort v_worth v_fault v_bad v_nClauses a_nClause v_nCode a_nOp a_nArg v_nLeaves a_pile a_pileAt v_piled v_opened a_words a_headWords R.2.2.1 R.2.2.2.1 R.2.2.2.2.1 R.2.2.2.2.2.1 R.2.2.2.2.2.2.1 R.2.2.2.2.2.2.2.1 R.2.2.2.2.2.2.2.2.1 R.2.2.2.2.2.2.2.2.2 a_costs a_table a_prices v_surely a_mostBy a_leastBy v_between v_steadyWays v_quashed v_but a_figures a_all a_lies a_since v_last v_state) c0) n) := e_C.of (by decide) (Nat.le_of_ble_eq_true rfl) (tX12_tips hw hf)
def fX12_priceAt (a_prices : Nat → Int32) (x1 : Int32) (x2 : Int32) : Option (Int32) := gd ((8 * x1) + x2) 16 (some ((a_prices (((8 * x1) + x2) : Int32).toNatClampNeg)))
set_option maxHeartbeats 4000000 in
set_option maxRecDepth 100000 in
theorem tX12_priceAt {G : GT} {b : Nat} {o : Nat} {c0 : Hp} {n : Nat} (hw : e_wf (kM o) n) {v_thrown : Int32} {v_status : Int32} {a_refusals : Nat → Int32} {a_row : Nat → Int32} {a_images : Nat → Int32} {a_isKept : Nat → Int32} {a_tape : Nat → Int32} {v_taped : Int32} {v_from : Int32} {v_to : Int32} {v_sort : Int32} {v_worth : Int64} {v_fault : Int32} {v_bad : Int32} {v_nClauses : Int32} {a_nClause : Nat → Int32} {v_nCode : Int32} {a_nOp : Nat → Int32} {a_nArg : Nat → Int32} {v_nLeaves : Int32} {a_pile : Nat → Int32} {a_pileAt : Nat → Int32} {v_piled : Int32} {v_opened : Int32} {a_words : Nat → Int64} {a_headWords : Nat → Int64} {v_law : Int32} {a_set : Nat → Int64} {a_rest : Nat → Int64} {v_broken : Int32} {v_value : Int64} {v_sum : Int64} {a_chances : Nat → Int32} {a_votes : Nat → Int64} {a_costs : Nat → Int32} {a_table : Nat → Int64} {v_surely : Int64} {a_mostBy : Nat → Int64} {a_leastBy : Nat → Int64} {v_between : Int64} {v_steadyWays : Int32} {v_quashed : Int32} {v_but : Int32} {a_figures : Nat → Int32} {a_all : Nat → Int32} {a_lies : Nat → Int32} {a_since : Nat → Int32} {v_last : Int32} {v_state : Int64} {a_prices : Nat → Int32} {x1 : Int32} {x2 : Int32} {R : Int32} (hf : fX12_priceAt a_prices x1 x2 = some R) : E G b yX12_priceAt cX12_priceAt 3 (some .int) (e_rm 0 0 0) e_X0 (e_Z G b (pD (some (.int R)) (e_ov (kM o) (wM G b o v_thrown v_status a_refusals a_row a_images a_isKept a_tape v_taped v_from v_to v_sort v_worth v_fault v_bad v_nClauses a_nClause v_nCode a_nOp a_nArg v_nLeaves a_pile a_pileAt v_piled v_opened a_words a_headWords v_law a_set a_rest v_broken v_value v_sum a_chances a_votes a_costs a_table a_prices v_surely a_mostBy a_leastBy v_between v_steadyWays v_quashed v_but a_figures a_all a_lies a_since v_last v_state) c0) n) 0 0) 0 [(0, .ref (b + o)), (1, .int x1), (2, .int x2)] [] (e_ov (kM o) (wM G b o v_thrown v_status a_refusals a_row a_images a_isKept a_tape v_taped v_from v_to v_sort v_worth v_fault v_bad v_nClauses a_nClause v_nCode a_nOp a_nArg v_nLeaves a_pile a_pileAt v_piled v_opened a_words a_headWords v_law a_set a_rest v_broken v_value v_sum a_chances a_votes a_costs a_table a_prices v_surely a_mostBy a_leastBy v_between v_steadyWays v_quashed v_but a_figures a_all a_lies a_since v_last v_state) c0) n 0 0 := by
  unfold fX12_priceAt at hf
  refine E.aload_n 0 dX12_priceAt_0 rfl ?_
  refine E.get hw 0 o dX12_priceAt_1 flX12_97 rfl rfl rfl rfl ?_
  refine E.bipush (v := 8) dX12_priceAt_4 (by decide) ?_
  refine E.iload_n 1 dX12_priceAt_6 rfl ?_
  refine E.imul dX12_priceAt_7 ?_
  refine E.iload_n 2 dX12_priceAt_8 rfl ?_
  refine E.iadd dX12_priceAt_9 ?_
  obtain ⟨g1, hf⟩ := gd_some hf
  refine E.iald hw 19 (o + 19) dX12_priceAt_10 rfl rfl g1 ?_
  cases hf
  exact E.iret dX12_priceAt_11 (Nat.le_refl _) (Nat.le_refl _) (pD_rf _ _ _)
set_option maxRecDepth 100000 in
theorem mX12_priceAt {G : GT} {b : Nat} {o : Nat} {c0 : Hp} {n : Nat} (hw : e_wf (kM o) n) {v_thrown : Int32} {v_status : Int32} {a_refusals : Nat → Int32} {a_row : Nat → Int32} {a_images : Nat → Int32} {a_isKept : Nat → Int32} {a_tape : Nat → Int32} {v_taped : Int32} {v_from : Int32} {v_to : Int32} {v_sort : Int32} {v_worth : Int64} {v_fault : Int32} {v_bad : Int32} {v_nClauses : Int32} {a_nClause : Nat → Int32} {v_nCode : Int32} {a_nOp : Nat → Int32} {a_nArg : Nat → Int32} {v_nLeaves : Int32} {a_pile : Nat → Int32} {a_pileAt : Nat → Int32} {v_piled : Int32} {v_opened : Int32} {a_words : Nat → Int64} {a_headWords : Nat → Int64} {v_law : Int32} {a_set : Nat → Int64} {a_rest : Nat → Int64} {v_broken : Int32} {v_value : Int64} {v_sum : Int64} {a_chances : Nat → Int32} {a_votes : Nat → Int64} {a_costs : Nat → Int32} {a_table : Nat → Int64} {v_surely : Int64} {a_mostBy : Nat → Int64} {a_leastBy : Nat → Int64} {v_between : Int64} {v_steadyWays : Int32} {v_quashed : Int32} {v_but : Int32} {a_figures : Nat → Int32} {a_all : Nat → Int32} {a_lies : Nat → Int32} {a_since : Nat → Int32} {v_last : Int32} {v_state : Int64} {a_prices : Nat → Int32} {x1 : Int32} {x2 : Int32} {R : Int32} (hf : fX12_priceAt a_prices x1 x2 = some R) : e_C G b yX12_priceAt cX12_priceAt 3 (some .int) 0 0 0 [.ref (b + o), .int x1, .int x2] (e_ov (kM o) (wM G b o v_thrown v_status a_refusals a_row a_images a_isKept a_tape v_taped v_from v_to v_sort v_worth v_fault v_bad v_nClauses a_nClause v_nCode a_nOp a_nArg v_nLeaves a_pile a_pileAt v_piled v_opened a_words a_headWords v_law a_set a_rest v_broken v_value v_sum a_chances a_votes a_costs a_table a_prices v_surely a_mostBy a_leastBy v_between v_steadyWays v_quashed v_but a_figures a_all a_lies a_since v_last v_state) c0) n (pD (some (.int R)) (e_ov (kM o) (wM G b o v_thrown v_status a_refusals a_row a_images a_isKept a_tape v_taped v_from v_to v_sort v_worth v_fault v_bad v_nClauses a_nClause v_nCode a_nOp a_nArg v_nLeaves a_pile a_pileAt v_piled v_opened a_words a_headWords v_law a_set a_rest v_broken v_value v_sum a_chances a_votes a_costs a_table a_prices v_surely a_mostBy a_leastBy v_between v_steadyWays v_quashed v_but a_figures a_all a_lies a_since v_last v_state) c0) n) := e_C.of (by decide) (Nat.le_of_ble_eq_true rfl) (tX12_priceAt hw hf)
def fX12_layCosts_L21 (Fu : Nat) (k2 : (Nat → Int32) → (Nat → Int32) → (Nat → Int32) → Int32 → Option ((Nat → Int32))) (k9 : (Nat → Int32) → (Nat → Int32) → (Nat → Int32) → Int32 → Int32 → Option ((Nat → Int32))) : Nat → (Nat → Int32) → (Nat → Int32) → (Nat → Int32) → Int32 → Int32 → Int32 → Int32 → Option ((Nat → Int32))
  | 0, _, _, _, _, _, _, _ => none
  | k + 1, a_row, a_costs, a_prices, x1, x2, x3, x4 => gd 0 5570 (if ((a_row (0 : Int32).toNatClampNeg) : Int32) ≤ (x4 : Int32) then (gd ((256 * x1) + x2) 512 (k9 a_row (va_up a_costs (((256 * x1) + x2) : Int32).toNatClampNeg x3) a_prices x1 (x2 + 1))) else ((fX12_is x2 x4).bind fun r3 => (if (r3 : Int32) = 0 then ((fX12_layCosts_L21 Fu k2 k9 k) a_row a_costs a_prices x1 x2 (x3 + 0) (x4 + 1)) else ((fX12_priceAt a_prices x1 x4).bind fun r4 => ((fX12_layCosts_L21 Fu k2 k9 k) a_row a_costs a_prices x1 x2 (x3 + r4) (x4 + 1))))))
set_option maxHeartbeats 4000000 in
set_option maxRecDepth 100000 in
theorem tX12_layCosts_L21 {G : GT} {b : Nat} {o : Nat} {c0 : Hp} {n : Nat} (hw : e_wf (kM o) n) {v_thrown : Int32} {v_status : Int32} {a_refusals : Nat → Int32} {a_images : Nat → Int32} {a_isKept : Nat → Int32} {a_tape : Nat → Int32} {v_taped : Int32} {v_from : Int32} {v_to : Int32} {v_sort : Int32} {v_worth : Int64} {v_fault : Int32} {v_bad : Int32} {v_nClauses : Int32} {a_nClause : Nat → Int32} {v_nCode : Int32} {a_nOp : Nat → Int32} {a_nArg : Nat → Int32} {v_nLeaves : Int32} {a_pile : Nat → Int32} {a_pileAt : Nat → Int32} {v_piled : Int32} {v_opened : Int32} {a_words : Nat → Int64} {a_headWords : Nat → Int64} {v_law : Int32} {a_set : Nat → Int64} {a_rest : Nat → Int64} {v_broken : Int32} {v_value : Int64} {v_sum : Int64} {a_chances : Nat → Int32} {a_votes : Nat → Int64} {a_table : Nat → Int64} {v_surely : Int64} {a_mostBy : Nat → Int64} {a_leastBy : Nat → Int64} {v_between : Int64} {v_steadyWays : Int32} {v_quashed : Int32} {v_but : Int32} {a_figures : Nat → Int32} {a_all : Nat → Int32} {a_lies : Nat → Int32} {a_since : Nat → Int32} {v_last : Int32} {v_state : Int64} {Fu : Nat} {k2 : (Nat → Int32) → (Nat → Int32) → (Nat → Int32) → Int32 → Option ((Nat → Int32))} {k9 : (Nat → Int32) → (Nat → Int32) → (Nat → Int32) → Int32 → Int32 → Option ((Nat → Int32))} (hk2 : ∀ {a_row : Nat → Int32} {a_costs : Nat → Int32} {a_prices : Nat → Int32} {x1 : Int32} {R : (Nat → Int32)}, k2 a_row a_costs a_prices x1 = some R → E G b yX12_layCosts cX12_layCosts 5 none (e_rm 1 0 0) e_X0 (e_Z G b (pD none (e_ov (kM o) (wM G b o v_thrown v_status a_refusals a_row a_images a_isKept a_tape v_taped v_from v_to v_sort v_worth v_fault v_bad v_nClauses a_nClause v_nCode a_nOp a_nArg v_nLeaves a_pile a_pileAt v_piled v_opened a_words a_headWords v_law a_set a_rest v_broken v_value v_sum a_chances a_votes R a_table a_prices v_surely a_mostBy a_leastBy v_between v_steadyWays v_quashed v_but a_figures a_all a_lies a_since v_last v_state) c0) n) 0 0) 2 [(0, .ref (b + o)), (1, .int x1)] [] (e_ov (kM o) (wM G b o v_thrown v_status a_refusals a_row a_images a_isKept a_tape v_taped v_from v_to v_sort v_worth v_fault v_bad v_nClauses a_nClause v_nCode a_nOp a_nArg v_nLeaves a_pile a_pileAt v_piled v_opened a_words a_headWords v_law a_set a_rest v_broken v_value v_sum a_chances a_votes a_costs a_table a_prices v_surely a_mostBy a_leastBy v_between v_steadyWays v_quashed v_but a_figures a_all a_lies a_since v_last v_state) c0) n 0 0) (hk9 : ∀ {a_row : Nat → Int32} {a_costs : Nat → Int32} {a_prices : Nat → Int32} {x1 : Int32} {x2 : Int32} {R : (Nat → Int32)}, k9 a_row a_costs a_prices x1 x2 = some R → E G b yX12_layCosts cX12_layCosts 5 none (e_rm 1 0 0) e_X0 (e_Z G b (pD none (e_ov (kM o) (wM G b o v_thrown v_status a_refusals a_row a_images a_isKept a_tape v_taped v_from v_to v_sort v_worth v_fault v_bad v_nClauses a_nClause v_nCode a_nOp a_nArg v_nLeaves a_pile a_pileAt v_piled v_opened a_words a_headWords v_law a_set a_rest v_broken v_value v_sum a_chances a_votes R a_table a_prices v_surely a_mostBy a_leastBy v_between v_steadyWays v_quashed v_but a_figures a_all a_lies a_since v_last v_state) c0) n) 0 0) 9 [(0, .ref (b + o)), (1, .int x1), (2, .int x2)] [] (e_ov (kM o) (wM G b o v_thrown v_status a_refusals a_row a_images a_isKept a_tape v_taped v_from v_to v_sort v_worth v_fault v_bad v_nClauses a_nClause v_nCode a_nOp a_nArg v_nLeaves a_pile a_pileAt v_piled v_opened a_words a_headWords v_law a_set a_rest v_broken v_value v_sum a_chances a_votes a_costs a_table a_prices v_surely a_mostBy a_leastBy v_between v_steadyWays v_quashed v_but a_figures a_all a_lies a_since v_last v_state) c0) n 0 0) : ∀ (k : Nat) {a_row : Nat → Int32} {a_costs : Nat → Int32} {a_prices : Nat → Int32} {x1 : Int32} {x2 : Int32} {x3 : Int32} {x4 : Int32} {R : (Nat → Int32)}, fX12_layCosts_L21 Fu k2 k9 k a_row a_costs a_prices x1 x2 x3 x4 = some R → E G b yX12_layCosts cX12_layCosts 5 none (e_rm 1 0 0) e_X0 (e_Z G b (pD none (e_ov (kM o) (wM G b o v_thrown v_status a_refusals a_row a_images a_isKept a_tape v_taped v_from v_to v_sort v_worth v_fault v_bad v_nClauses a_nClause v_nCode a_nOp a_nArg v_nLeaves a_pile a_pileAt v_piled v_opened a_words a_headWords v_law a_set a_rest v_broken v_value v_sum a_chances a_votes R a_table a_prices v_surely a_mostBy a_leastBy v_between v_steadyWays v_quashed v_but a_figures a_all a_lies a_since v_last v_state) c0) n) 0 0) 21 [(0, .ref (b + o)), (1, .int x1), (2, .int x2), (3, .int x3), (4, .int x4)] [] (e_ov (kM o) (wM G b o v_thrown v_status a_refusals a_row a_images a_isKept a_tape v_taped v_from v_to v_sort v_worth v_fault v_bad v_nClauses a_nClause v_nCode a_nOp a_nArg v_nLeaves a_pile a_pileAt v_piled v_opened a_words a_headWords v_law a_set a_rest v_broken v_value v_sum a_chances a_votes a_costs a_table a_prices v_surely a_mostBy a_leastBy v_between v_steadyWays v_quashed v_but a_figures a_all a_lies a_since v_last v_state) c0) n 0 0 := by
  intro k
  induction k with
  | zero =>
    intro _ _ _ _ _ _ _ _ hf
    have hf : (none : Option ((Nat → Int32))) = some _ := hf
    cases hf
  | succ k ih =>
    intro a_row a_costs a_prices x1 x2 x3 x4 R hf
    rw [fX12_layCosts_L21] at hf
    refine E.iload 4 dX12_layCosts_21 rfl ?_
    refine E.aload_n 0 dX12_layCosts_23 rfl ?_
    refine E.get hw 0 o dX12_layCosts_24 flX12_13 rfl rfl rfl rfl ?_
    refine E.iconst (v := 0) dX12_layCosts_27 (by decide) ?_
    obtain ⟨g1, hf⟩ := gd_some hf
    refine E.iald hw 2 (o + 2) dX12_layCosts_28 rfl rfl g1 ?_
    refine E.icmp_ge dX12_layCosts_29 (fun h => ?_) (fun h => ?_)
    · have hf := e_ift hf h
      refine E.aload_n 0 dX12_layCosts_61 rfl ?_
      refine E.get hw 0 o dX12_layCosts_62 flX12_90 rfl rfl rfl rfl ?_
      refine E.sipush (v := 256) dX12_layCosts_65 (by decide) ?_
      refine E.iload_n 1 dX12_layCosts_68 rfl ?_
      refine E.imul dX12_layCosts_69 ?_
      refine E.iload_n 2 dX12_layCosts_70 rfl ?_
      refine E.iadd dX12_layCosts_71 ?_
      refine E.iload_n 3 dX12_layCosts_72 rfl ?_
      obtain ⟨g2, hf⟩ := gd_some hf
      refine E.iast (es' := (wM G b o v_thrown v_status a_refusals a_row a_images a_isKept a_tape v_taped v_from v_to v_sort v_worth v_fault v_bad v_nClauses a_nClause v_nCode a_nOp a_nArg v_nLeaves a_pile a_pileAt v_piled v_opened a_words a_headWords v_law a_set a_rest v_broken v_value v_sum a_chances a_votes (va_up a_costs (((256 * x1) + x2) : Int32).toNatClampNeg x3) a_table a_prices v_surely a_mostBy a_leastBy v_between v_steadyWays v_quashed v_but a_figures a_all a_lies a_since v_last v_state)) hw 17 (o + 17) dX12_layCosts_73 rfl rfl g2 rfl ?_
      refine E.iinc (q := 2) (v := (x2 + 1)) (lv' := [(2, .int (x2 + 1)), (0, .ref (b + o)), (1, .int x1), (3, .int x3), (4, .int x4)]) dX12_layCosts_74 rfl rfl (by decide) rfl ?_
      refine E.goto dX12_layCosts_77 ?_
      refine E.locals [1, 2, 0] rfl ?_
      exact hk9 hf
    · have hf := e_iff hf h
      refine E.iload_n 3 dX12_layCosts_32 rfl ?_
      refine E.iload_n 2 dX12_layCosts_33 rfl ?_
      refine E.iload 4 dX12_layCosts_34 rfl ?_
      obtain ⟨r3, hc3, hf⟩ := e_bind hf
      refine E.callSD [.int x3] dX12_layCosts_36 mlX12_364 (mX12_is hc3) ⟨Nat.le_of_ble_eq_true rfl, Nat.le_of_ble_eq_true rfl⟩ rfl rfl (Nat.le_of_ble_eq_true rfl) ⟨Nat.le_refl _, Nat.le_refl _⟩ rfl ?_
      refine E.if_eq dX12_layCosts_39 (fun h => ?_) (fun h => ?_)
      · have hf := e_ift hf h
        refine E.iconst (v := 0) dX12_layCosts_52 (by decide) ?_
        refine E.iadd dX12_layCosts_53 ?_
        refine E.istore_n (lv' := [(3, .int (x3 + 0)), (0, .ref (b + o)), (1, .int x1), (2, .int x2), (4, .int x4)]) dX12_layCosts_54 (by decide) rfl ?_
        refine E.iinc (q := 4) (v := (x4 + 1)) (lv' := [(4, .int (x4 + 1)), (3, .int (x3 + 0)), (0, .ref (b + o)), (1, .int x1), (2, .int x2)]) dX12_layCosts_55 rfl rfl (by decide) rfl ?_
        refine E.goto dX12_layCosts_58 ?_
        refine E.locals [2, 3, 4, 1, 0] rfl ?_
        exact ih hf
      · have hf := e_iff hf h
        refine E.aload_n 0 dX12_layCosts_42 rfl ?_
        refine E.iload_n 1 dX12_layCosts_43 rfl ?_
        refine E.iload 4 dX12_layCosts_44 rfl ?_
        obtain ⟨r4, hc4, hf⟩ := e_bind hf
        refine E.callVD [.int x3] dX12_layCosts_46 mlX12_386 ⟨hw.sub (p := 0) rfl, e_ov_get hw.1 (p := 0) rfl rfl⟩ rfl rfl (mX12_priceAt hw hc4) ⟨Nat.le_of_ble_eq_true rfl, Nat.le_of_ble_eq_true rfl⟩ rfl rfl (Nat.le_of_ble_eq_true rfl) ⟨Nat.le_refl _, Nat.le_refl _⟩ rfl ?_
        refine E.goto dX12_layCosts_49 ?_
        refine E.iadd dX12_layCosts_53 ?_
        refine E.istore_n (lv' := [(3, .int (x3 + r4)), (0, .ref (b + o)), (1, .int x1), (2, .int x2), (4, .int x4)]) dX12_layCosts_54 (by decide) rfl ?_
        refine E.iinc (q := 4) (v := (x4 + 1)) (lv' := [(4, .int (x4 + 1)), (3, .int (x3 + r4)), (0, .ref (b + o)), (1, .int x1), (2, .int x2)]) dX12_layCosts_55 rfl rfl (by decide) rfl ?_
        refine E.goto dX12_layCosts_58 ?_
        refine E.locals [2, 3, 4, 1, 0] rfl ?_
        exact ih hf
def fX12_layCosts_L9 (Fu : Nat) (k2 : (Nat → Int32) → (Nat → Int32) → (Nat → Int32) → Int32 → Option ((Nat → Int32))) : Nat → (Nat → Int32) → (Nat → Int32) → (Nat → Int32) → Int32 → Int32 → Option ((Nat → Int32))
  | 0, _, _, _, _, _ => none
  | k + 1, a_row, a_costs, a_prices, x1, x2 => if (256 : Int32) ≤ (x2 : Int32) then (k2 a_row a_costs a_prices (x1 + 1)) else (fX12_layCosts_L21 Fu k2 (fX12_layCosts_L9 Fu k2 k) Fu a_row a_costs a_prices x1 x2 0 0)
set_option maxHeartbeats 4000000 in
set_option maxRecDepth 100000 in
theorem tX12_layCosts_L9 {G : GT} {b : Nat} {o : Nat} {c0 : Hp} {n : Nat} (hw : e_wf (kM o) n) {v_thrown : Int32} {v_status : Int32} {a_refusals : Nat → Int32} {a_images : Nat → Int32} {a_isKept : Nat → Int32} {a_tape : Nat → Int32} {v_taped : Int32} {v_from : Int32} {v_to : Int32} {v_sort : Int32} {v_worth : Int64} {v_fault : Int32} {v_bad : Int32} {v_nClauses : Int32} {a_nClause : Nat → Int32} {v_nCode : Int32} {a_nOp : Nat → Int32} {a_nArg : Nat → Int32} {v_nLeaves : Int32} {a_pile : Nat → Int32} {a_pileAt : Nat → Int32} {v_piled : Int32} {v_opened : Int32} {a_words : Nat → Int64} {a_headWords : Nat → Int64} {v_law : Int32} {a_set : Nat → Int64} {a_rest : Nat → Int64} {v_broken : Int32} {v_value : Int64} {v_sum : Int64} {a_chances : Nat → Int32} {a_votes : Nat → Int64} {a_table : Nat → Int64} {v_surely : Int64} {a_mostBy : Nat → Int64} {a_leastBy : Nat → Int64} {v_between : Int64} {v_steadyWays : Int32} {v_quashed : Int32} {v_but : Int32} {a_figures : Nat → Int32} {a_all : Nat → Int32} {a_lies : Nat → Int32} {a_since : Nat → Int32} {v_last : Int32} {v_state : Int64} {Fu : Nat} {k2 : (Nat → Int32) → (Nat → Int32) → (Nat → Int32) → Int32 → Option ((Nat → Int32))} (hk2 : ∀ {a_row : Nat → Int32} {a_costs : Nat → Int32} {a_prices : Nat → Int32} {x1 : Int32} {R : (Nat → Int32)}, k2 a_row a_costs a_prices x1 = some R → E G b yX12_layCosts cX12_layCosts 5 none (e_rm 1 0 0) e_X0 (e_Z G b (pD none (e_ov (kM o) (wM G b o v_thrown v_status a_refusals a_row a_images a_isKept a_tape v_taped v_from v_to v_sort v_worth v_fault v_bad v_nClauses a_nClause v_nCode a_nOp a_nArg v_nLeaves a_pile a_pileAt v_piled v_opened a_words a_headWords v_law a_set a_rest v_broken v_value v_sum a_chances a_votes R a_table a_prices v_surely a_mostBy a_leastBy v_between v_steadyWays v_quashed v_but a_figures a_all a_lies a_since v_last v_state) c0) n) 0 0) 2 [(0, .ref (b + o)), (1, .int x1)] [] (e_ov (kM o) (wM G b o v_thrown v_status a_refusals a_row a_images a_isKept a_tape v_taped v_from v_to v_sort v_worth v_fault v_bad v_nClauses a_nClause v_nCode a_nOp a_nArg v_nLeaves a_pile a_pileAt v_piled v_opened a_words a_headWords v_law a_set a_rest v_broken v_value v_sum a_chances a_votes a_costs a_table a_prices v_surely a_mostBy a_leastBy v_between v_steadyWays v_quashed v_but a_figures a_all a_lies a_since v_last v_state) c0) n 0 0) : ∀ (k : Nat) {a_row : Nat → Int32} {a_costs : Nat → Int32} {a_prices : Nat → Int32} {x1 : Int32} {x2 : Int32} {R : (Nat → Int32)}, fX12_layCosts_L9 Fu k2 k a_row a_costs a_prices x1 x2 = some R → E G b yX12_layCosts cX12_layCosts 5 none (e_rm 1 0 0) e_X0 (e_Z G b (pD none (e_ov (kM o) (wM G b o v_thrown v_status a_refusals a_row a_images a_isKept a_tape v_taped v_from v_to v_sort v_worth v_fault v_bad v_nClauses a_nClause v_nCode a_nOp a_nArg v_nLeaves a_pile a_pileAt v_piled v_opened a_words a_headWords v_law a_set a_rest v_broken v_value v_sum a_chances a_votes R a_table a_prices v_surely a_mostBy a_leastBy v_between v_steadyWays v_quashed v_but a_figures a_all a_lies a_since v_last v_state) c0) n) 0 0) 9 [(0, .ref (b + o)), (1, .int x1), (2, .int x2)] [] (e_ov (kM o) (wM G b o v_thrown v_status a_refusals a_row a_images a_isKept a_tape v_taped v_from v_to v_sort v_worth v_fault v_bad v_nClauses a_nClause v_nCode a_nOp a_nArg v_nLeaves a_pile a_pileAt v_piled v_opened a_words a_headWords v_law a_set a_rest v_broken v_value v_sum a_chances a_votes a_costs a_table a_prices v_surely a_mostBy a_leastBy v_between v_steadyWays v_quashed v_but a_figures a_all a_lies a_since v_last v_state) c0) n 0 0 := by
  intro k
  induction k with
  | zero =>
    intro _ _ _ _ _ _ hf
    have hf : (none : Option ((Nat → Int32))) = some _ := hf
    cases hf
  | succ k ih =>
    intro a_row a_costs a_prices x1 x2 R hf
    rw [fX12_layCosts_L9] at hf
    refine E.iload_n 2 dX12_layCosts_9 rfl ?_
    refine E.sipush (v := 256) dX12_layCosts_10 (by decide) ?_
    refine E.icmp_ge dX12_layCosts_13 (fun h => ?_) (fun h => ?_)
    · have hf := e_ift hf h
      refine E.iinc (q := 1) (v := (x1 + 1)) (lv' := [(1, .int (x1 + 1)), (0, .ref (b + o)), (2, .int x2)]) dX12_layCosts_80 rfl rfl (by decide) rfl ?_
      refine E.goto dX12_layCosts_83 ?_
      refine E.locals [1, 0] rfl ?_
      exact hk2 hf
    · have hf := e_iff hf h
      refine E.iconst (v := 0) dX12_layCosts_16 (by decide) ?_
      refine E.istore_n (lv' := [(3, .int 0), (0, .ref (b + o)), (1, .int x1), (2, .int x2)]) dX12_layCosts_17 (by decide) rfl ?_
      refine E.iconst (v := 0) dX12_layCosts_18 (by decide) ?_
      refine E.istore (lv' := [(4, .int 0), (3, .int 0), (0, .ref (b + o)), (1, .int x1), (2, .int x2)]) dX12_layCosts_19 (by decide) rfl ?_
      refine E.locals [2, 3, 4, 1, 0] rfl ?_
      exact tX12_layCosts_L21 hw hk2 ih _ hf
def fX12_layCosts_L2 (Fu : Nat) : Nat → (Nat → Int32) → (Nat → Int32) → (Nat → Int32) → Int32 → Option ((Nat → Int32))
  | 0, _, _, _, _ => none
  | k + 1, a_row, a_costs, a_prices, x1 => if (2 : Int32) ≤ (x1 : Int32) then (some (a_costs)) else (fX12_layCosts_L9 Fu (fX12_layCosts_L2 Fu k) Fu a_row a_costs a_prices x1 0)
set_option maxHeartbeats 4000000 in
set_option maxRecDepth 100000 in
theorem tX12_layCosts_L2 {G : GT} {b : Nat} {o : Nat} {c0 : Hp} {n : Nat} (hw : e_wf (kM o) n) {v_thrown : Int32} {v_status : Int32} {a_refusals : Nat → Int32} {a_images : Nat → Int32} {a_isKept : Nat → Int32} {a_tape : Nat → Int32} {v_taped : Int32} {v_from : Int32} {v_to : Int32} {v_sort : Int32} {v_worth : Int64} {v_fault : Int32} {v_bad : Int32} {v_nClauses : Int32} {a_nClause : Nat → Int32} {v_nCode : Int32} {a_nOp : Nat → Int32} {a_nArg : Nat → Int32} {v_nLeaves : Int32} {a_pile : Nat → Int32} {a_pileAt : Nat → Int32} {v_piled : Int32} {v_opened : Int32} {a_words : Nat → Int64} {a_headWords : Nat → Int64} {v_law : Int32} {a_set : Nat → Int64} {a_rest : Nat → Int64} {v_broken : Int32} {v_value : Int64} {v_sum : Int64} {a_chances : Nat → Int32} {a_votes : Nat → Int64} {a_table : Nat → Int64} {v_surely : Int64} {a_mostBy : Nat → Int64} {a_leastBy : Nat → Int64} {v_between : Int64} {v_steadyWays : Int32} {v_quashed : Int32} {v_but : Int32} {a_figures : Nat → Int32} {a_all : Nat → Int32} {a_lies : Nat → Int32} {a_since : Nat → Int32} {v_last : Int32} {v_state : Int64} {Fu : Nat} : ∀ (k : Nat) {a_row : Nat → Int32} {a_costs : Nat → Int32} {a_prices : Nat → Int32} {x1 : Int32} {R : (Nat → Int32)}, fX12_layCosts_L2 Fu k a_row a_costs a_prices x1 = some R → E G b yX12_layCosts cX12_layCosts 5 none (e_rm 1 0 0) e_X0 (e_Z G b (pD none (e_ov (kM o) (wM G b o v_thrown v_status a_refusals a_row a_images a_isKept a_tape v_taped v_from v_to v_sort v_worth v_fault v_bad v_nClauses a_nClause v_nCode a_nOp a_nArg v_nLeaves a_pile a_pileAt v_piled v_opened a_words a_headWords v_law a_set a_rest v_broken v_value v_sum a_chances a_votes R a_table a_prices v_surely a_mostBy a_leastBy v_between v_steadyWays v_quashed v_but a_figures a_all a_lies a_since v_last v_state) c0) n) 0 0) 2 [(0, .ref (b + o)), (1, .int x1)] [] (e_ov (kM o) (wM G b o v_thrown v_status a_refusals a_row a_images a_isKept a_tape v_taped v_from v_to v_sort v_worth v_fault v_bad v_nClauses a_nClause v_nCode a_nOp a_nArg v_nLeaves a_pile a_pileAt v_piled v_opened a_words a_headWords v_law a_set a_rest v_broken v_value v_sum a_chances a_votes a_costs a_table a_prices v_surely a_mostBy a_leastBy v_between v_steadyWays v_quashed v_but a_figures a_all a_lies a_since v_last v_state) c0) n 0 0 := by
  intro k
  induction k with
  | zero =>
    intro _ _ _ _ _ hf
    have hf : (none : Option ((Nat → Int32))) = some _ := hf
    cases hf
  | succ k ih =>
    intro a_row a_costs a_prices x1 R hf
    rw [fX12_layCosts_L2] at hf
    refine E.iload_n 1 dX12_layCosts_2 rfl ?_
    refine E.iconst (v := 2) dX12_layCosts_3 (by decide) ?_
    refine E.icmp_ge dX12_layCosts_4 (fun h => ?_) (fun h => ?_)
    · have hf := e_ift hf h
      cases hf
      exact E.vret dX12_layCosts_86 (Nat.le_refl _) (Nat.le_refl _) (pD_rf _ _ _)
    · have hf := e_iff hf h
      refine E.iconst (v := 0) dX12_layCosts_7 (by decide) ?_
      refine E.istore_n (lv' := [(2, .int 0), (0, .ref (b + o)), (1, .int x1)]) dX12_layCosts_8 (by decide) rfl ?_
      refine E.locals [1, 2, 0] rfl ?_
      exact tX12_layCosts_L9 hw ih _ hf
def fX12_layCosts (Fu : Nat) (a_row : Nat → Int32) (a_costs : Nat → Int32) (a_prices : Nat → Int32) : Option ((Nat → Int32)) := fX12_layCosts_L2 Fu Fu a_row a_costs a_prices 0
set_option maxHeartbeats 4000000 in
set_option maxRecDepth 100000 in
theorem tX12_layCosts {G : GT} {b : Nat} {o : Nat} {c0 : Hp} {n : Nat} (hw : e_wf (kM o) n) {v_thrown : Int32} {v_status : Int32} {a_refusals : Nat → Int32} {a_images : Nat → Int32} {a_isKept : Nat → Int32} {a_tape : Nat → Int32} {v_taped : Int32} {v_from : Int32} {v_to : Int32} {v_sort : Int32} {v_worth : Int64} {v_fault : Int32} {v_bad : Int32} {v_nClauses : Int32} {a_nClause : Nat → Int32} {v_nCode : Int32} {a_nOp : Nat → Int32} {a_nArg : Nat → Int32} {v_nLeaves : Int32} {a_pile : Nat → Int32} {a_pileAt : Nat → Int32} {v_piled : Int32} {v_opened : Int32} {a_words : Nat → Int64} {a_headWords : Nat → Int64} {v_law : Int32} {a_set : Nat → Int64} {a_rest : Nat → Int64} {v_broken : Int32} {v_value : Int64} {v_sum : Int64} {a_chances : Nat → Int32} {a_votes : Nat → Int64} {a_table : Nat → Int64} {v_surely : Int64} {a_mostBy : Nat → Int64} {a_leastBy : Nat → Int64} {v_between : Int64} {v_steadyWays : Int32} {v_quashed : Int32} {v_but : Int32} {a_figures : Nat → Int32} {a_all : Nat → Int32} {a_lies : Nat → Int32} {a_since : Nat → Int32} {v_last : Int32} {v_state : Int64} {Fu : Nat} {a_row : Nat → Int32} {a_costs : Nat → Int32} {a_prices : Nat → Int32} {R : (Nat → Int32)} (hf : fX12_layCosts Fu a_row a_costs a_prices = some R) : E G b yX12_layCosts cX12_layCosts 5 none (e_rm 1 0 0) e_X0 (e_Z G b (pD none (e_ov (kM o) (wM G b o v_thrown v_status a_refusals a_row a_images a_isKept a_tape v_taped v_from v_to v_sort v_worth v_fault v_bad v_nClauses a_nClause v_nCode a_nOp a_nArg v_nLeaves a_pile a_pileAt v_piled v_opened a_words a_headWords v_law a_set a_rest v_broken v_value v_sum a_chances a_votes R a_table a_prices v_surely a_mostBy a_leastBy v_between v_steadyWays v_quashed v_but a_figures a_all a_lies a_since v_last v_state) c0) n) 0 0) 0 [(0, .ref (b + o))] [] (e_ov (kM o) (wM G b o v_thrown v_status a_refusals a_row a_images a_isKept a_tape v_taped v_from v_to v_sort v_worth v_fault v_bad v_nClauses a_nClause v_nCode a_nOp a_nArg v_nLeaves a_pile a_pileAt v_piled v_opened a_words a_headWords v_law a_set a_rest v_broken v_value v_sum a_chances a_votes a_costs a_table a_prices v_surely a_mostBy a_leastBy v_between v_steadyWays v_quashed v_but a_figures a_all a_lies a_since v_last v_state) c0) n 0 0 := by
  unfold fX12_layCosts at hf
  refine E.iconst (v := 0) dX12_layCosts_0 (by decide) ?_
  refine E.istore_n (lv' := [(1, .int 0), (0, .ref (b + o))]) dX12_layCosts_1 (by decide) rfl ?_
  refine E.locals [1, 0] rfl ?_
  exact tX12_layCosts_L2 hw _ hf
set_option maxRecDepth 100000 in
theorem mX12_layCosts {G : GT} {b : Nat} {o : Nat} {c0 : Hp} {n : Nat} (hw : e_wf (kM o) n) {v_thrown : Int32} {v_status : Int32} {a_refusals : Nat → Int32} {a_images : Nat → Int32} {a_isKept : Nat → Int32} {a_tape : Nat → Int32} {v_taped : Int32} {v_from : Int32} {v_to : Int32} {v_sort : Int32} {v_worth : Int64} {v_fault : Int32} {v_bad : Int32} {v_nClauses : Int32} {a_nClause : Nat → Int32} {v_nCode : Int32} {a_nOp : Nat → Int32} {a_nArg : Nat → Int32} {v_nLeaves : Int32} {a_pile : Nat → Int32} {a_pileAt : Nat → Int32} {v_piled : Int32} {v_opened : Int32} {a_words : Nat → Int64} {a_headWords : Nat → Int64} {v_law : Int32} {a_set : Nat → Int64} {a_rest : Nat → Int64} {v_broken : Int32} {v_value : Int64} {v_sum : Int64} {a_chances : Nat → Int32} {a_votes : Nat → Int64} {a_table : Nat → Int64} {v_surely : Int64} {a_mostBy : Nat → Int64} {a_leastBy : Nat → Int64} {v_between : Int64} {v_steadyWays : Int32} {v_quashed : Int32} {v_but : Int32} {a_figures : Nat → Int32} {a_all : Nat → Int32} {a_lies : Nat → Int32} {a_since : Nat → Int32} {v_last : Int32} {v_state : Int64} {Fu : Nat} {a_row : Nat → Int32} {a_costs : Nat → Int32} {a_prices : Nat → Int32} {R : (Nat → Int32)} (hf : fX12_layCosts Fu a_row a_costs a_prices = some R) : e_C G b yX12_layCosts cX12_layCosts 5 none 1 0 0 [.ref (b + o)] (e_ov (kM o) (wM G b o v_thrown v_status a_refusals a_row a_images a_isKept a_tape v_taped v_from v_to v_sort v_worth v_fault v_bad v_nClauses a_nClause v_nCode a_nOp a_nArg v_nLeaves a_pile a_pileAt v_piled v_opened a_words a_headWords v_law a_set a_rest v_broken v_value v_sum a_chances a_votes a_costs a_table a_prices v_surely a_mostBy a_leastBy v_between v_steadyWays v_quashed v_but a_figures a_all a_lies a_since v_last v_state) c0) n (pD none (e_ov (kM o) (wM G b o v_thrown v_status a_refusals a_row a_images a_isKept a_tape v_taped v_from v_to v_sort v_worth v_fault v_bad v_nClauses a_nClause v_nCode a_nOp a_nArg v_nLeaves a_pile a_pileAt v_piled v_opened a_words a_headWords v_law a_set a_rest v_broken v_value v_sum a_chances a_votes R a_table a_prices v_surely a_mostBy a_leastBy v_between v_steadyWays v_quashed v_but a_figures a_all a_lies a_since v_last v_state) c0) n) := e_C.of (by decide) (Nat.le_of_ble_eq_true rfl) (tX12_layCosts hw hf)
def fX12_layPrices_L9 (Fu : Nat) (k2 : (Nat → Int32) → Int32 → (Nat → Int64) → (Nat → Int64) → Int32 → Int64 → Int64 → (Nat → Int32) → (Nat → Int32) → Int32 → Option (Int32 × (Nat → Int64) × (Nat → Int64) × Int32 × Int64 × Int64 × (Nat → Int32) × (Nat → Int32))) : Nat → (Nat → Int32) → Int32 → (Nat → Int64) → (Nat → Int64) → Int32 → Int64 → Int64 → (Nat → Int32) → (Nat → Int32) → Int32 → Int32 → Option (Int32 × (Nat → Int64) × (Nat → Int64) × Int32 × Int64 × Int64 × (Nat → Int32) × (Nat → Int32))
  | 0, _, _, _, _, _, _, _, _, _, _, _ => none
  | k + 1, a_row, v_law, a_set, a_rest, v_broken, v_value, v_sum, a_costs, a_prices, x1, x2 => gd 0 5570 (if ((a_row (0 : Int32).toNatClampNeg) : Int32) ≤ (x2 : Int32) then (k2 a_row v_law a_set a_rest v_broken v_value v_sum a_costs a_prices (x1 + 1)) else ((fX12_priceOf Fu a_row v_law a_set a_rest v_broken v_value v_sum x2 x1).bind fun r3 => (gd ((8 * x1) + x2) 16 ((fX12_layPrices_L9 Fu k2 k) a_row r3.2.1 r3.2.2.1 r3.2.2.2.1 r3.2.2.2.2.1 r3.2.2.2.2.2.1 r3.2.2.2.2.2.2 a_costs (va_up a_prices (((8 * x1) + x2) : Int32).toNatClampNeg r3.1) x1 (x2 + 1)))))
set_option maxHeartbeats 4000000 in
set_option maxRecDepth 100000 in
theorem tX12_layPrices_L9 {G : GT} {b : Nat} {o : Nat} {c0 : Hp} {n : Nat} (hw : e_wf (kM o) n) {v_thrown : Int32} {v_status : Int32} {a_refusals : Nat → Int32} {a_images : Nat → Int32} {a_isKept : Nat → Int32} {a_tape : Nat → Int32} {v_taped : Int32} {v_from : Int32} {v_to : Int32} {v_sort : Int32} {v_worth : Int64} {v_fault : Int32} {v_bad : Int32} {v_nClauses : Int32} {a_nClause : Nat → Int32} {v_nCode : Int32} {a_nOp : Nat → Int32} {a_nArg : Nat → Int32} {v_nLeaves : Int32} {a_pile : Nat → Int32} {a_pileAt : Nat → Int32} {v_piled : Int32} {v_opened : Int32} {a_words : Nat → Int64} {a_headWords : Nat → Int64} {a_chances : Nat → Int32} {a_votes : Nat → Int64} {a_table : Nat → Int64} {v_surely : Int64} {a_mostBy : Nat → Int64} {a_leastBy : Nat → Int64} {v_between : Int64} {v_steadyWays : Int32} {v_quashed : Int32} {v_but : Int32} {a_figures : Nat → Int32} {a_all : Nat → Int32} {a_lies : Nat → Int32} {a_since : Nat → Int32} {v_last : Int32} {v_state : Int64} {Fu : Nat} {k2 : (Nat → Int32) → Int32 → (Nat → Int64) → (Nat → Int64) → Int32 → Int64 → Int64 → (Nat → Int32) → (Nat → Int32) → Int32 → Option (Int32 × (Nat → Int64) × (Nat → Int64) × Int32 × Int64 × Int64 × (Nat → Int32) × (Nat → Int32))} (hk2 : ∀ {a_row : Nat → Int32} {v_law : Int32} {a_set : Nat → Int64} {a_rest : Nat → Int64} {v_broken : Int32} {v_value : Int64} {v_sum : Int64} {a_costs : Nat → Int32} {a_prices : Nat → Int32} {x1 : Int32} {R : Int32 × (Nat → Int64) × (Nat → Int64) × Int32 × Int64 × Int64 × (Nat → Int32) × (Nat → Int32)}, k2 a_row v_law a_set a_rest v_broken v_value v_sum a_costs a_prices x1 = some R → E G b yX12_layPrices cX12_layPrices 3 none (e_rm 5 0 0) e_X0 (e_Z G b (pD none (e_ov (kM o) (wM G b o v_thrown v_status a_refusals a_row a_images a_isKept a_tape v_taped v_from v_to v_sort v_worth v_fault v_bad v_nClauses a_nClause v_nCode a_nOp a_nArg v_nLeaves a_pile a_pileAt v_piled v_opened a_words a_headWords R.1 R.2.1 R.2.2.1 R.2.2.2.1 R.2.2.2.2.1 R.2.2.2.2.2.1 a_chances a_votes R.2.2.2.2.2.2.1 a_table R.2.2.2.2.2.2.2 v_surely a_mostBy a_leastBy v_between v_steadyWays v_quashed v_but a_figures a_all a_lies a_since v_last v_state) c0) n) 0 0) 2 [(0, .ref (b + o)), (1, .int x1)] [] (e_ov (kM o) (wM G b o v_thrown v_status a_refusals a_row a_images a_isKept a_tape v_taped v_from v_to v_sort v_worth v_fault v_bad v_nClauses a_nClause v_nCode a_nOp a_nArg v_nLeaves a_pile a_pileAt v_piled v_opened a_words a_headWords v_law a_set a_rest v_broken v_value v_sum a_chances a_votes a_costs a_table a_prices v_surely a_mostBy a_leastBy v_between v_steadyWays v_quashed v_but a_figures a_all a_lies a_since v_last v_state) c0) n 0 0) : ∀ (k : Nat) {a_row : Nat → Int32} {v_law : Int32} {a_set : Nat → Int64} {a_rest : Nat → Int64} {v_broken : Int32} {v_value : Int64} {v_sum : Int64} {a_costs : Nat → Int32} {a_prices : Nat → Int32} {x1 : Int32} {x2 : Int32} {R : Int32 × (Nat → Int64) × (Nat → Int64) × Int32 × Int64 × Int64 × (Nat → Int32) × (Nat → Int32)}, fX12_layPrices_L9 Fu k2 k a_row v_law a_set a_rest v_broken v_value v_sum a_costs a_prices x1 x2 = some R → E G b yX12_layPrices cX12_layPrices 3 none (e_rm 5 0 0) e_X0 (e_Z G b (pD none (e_ov (kM o) (wM G b o v_thrown v_status a_refusals a_row a_images a_isKept a_tape v_taped v_from v_to v_sort v_worth v_fault v_bad v_nClauses a_nClause v_nCode a_nOp a_nArg v_nLeaves a_pile a_pileAt v_piled v_opened a_words a_headWords R.1 R.2.1 R.2.2.1 R.2.2.2.1 R.2.2.2.2.1 R.2.2.2.2.2.1 a_chances a_votes R.2.2.2.2.2.2.1 a_table R.2.2.2.2.2.2.2 v_surely a_mostBy a_leastBy v_between v_steadyWays v_quashed v_but a_figures a_all a_lies a_since v_last v_state) c0) n) 0 0) 9 [(0, .ref (b + o)), (1, .int x1), (2, .int x2)] [] (e_ov (kM o) (wM G b o v_thrown v_status a_refusals a_row a_images a_isKept a_tape v_taped v_from v_to v_sort v_worth v_fault v_bad v_nClauses a_nClause v_nCode a_nOp a_nArg v_nLeaves a_pile a_pileAt v_piled v_opened a_words a_headWords v_law a_set a_rest v_broken v_value v_sum a_chances a_votes a_costs a_table a_prices v_surely a_mostBy a_leastBy v_between v_steadyWays v_quashed v_but a_figures a_all a_lies a_since v_last v_state) c0) n 0 0 := by
  intro k
  induction k with
  | zero =>
    intro _ _ _ _ _ _ _ _ _ _ _ _ hf
    have hf : (none : Option (Int32 × (Nat → Int64) × (Nat → Int64) × Int32 × Int64 × Int64 × (Nat → Int32) × (Nat → Int32))) = some _ := hf
    cases hf
  | succ k ih =>
    intro a_row v_law a_set a_rest v_broken v_value v_sum a_costs a_prices x1 x2 R hf
    rw [fX12_layPrices_L9] at hf
    refine E.iload_n 2 dX12_layPrices_9 rfl ?_
    refine E.aload_n 0 dX12_layPrices_10 rfl ?_
    refine E.get hw 0 o dX12_layPrices_11 flX12_13 rfl rfl rfl rfl ?_
    refine E.iconst (v := 0) dX12_layPrices_14 (by decide) ?_
    obtain ⟨g2, hf⟩ := gd_some hf
    refine E.iald hw 2 (o + 2) dX12_layPrices_15 rfl rfl g2 ?_
    refine E.icmp_ge dX12_layPrices_16 (fun h => ?_) (fun h => ?_)
    · have hf := e_ift hf h
      refine E.iinc (q := 1) (v := (x1 + 1)) (lv' := [(1, .int (x1 + 1)), (0, .ref (b + o)), (2, .int x2)]) dX12_layPrices_42 rfl rfl (by decide) rfl ?_
      refine E.goto dX12_layPrices_45 ?_
      refine E.locals [1, 0] rfl ?_
      exact hk2 hf
    · have hf := e_iff hf h
      refine E.aload_n 0 dX12_layPrices_19 rfl ?_
      refine E.get hw 0 o dX12_layPrices_20 flX12_97 rfl rfl rfl rfl ?_
      refine E.bipush (v := 8) dX12_layPrices_23 (by decide) ?_
      refine E.iload_n 1 dX12_layPrices_25 rfl ?_
      refine E.imul dX12_layPrices_26 ?_
      refine E.iload_n 2 dX12_layPrices_27 rfl ?_
      refine E.iadd dX12_layPrices_28 ?_
      refine E.aload_n 0 dX12_layPrices_29 rfl ?_
      refine E.iload_n 2 dX12_layPrices_30 rfl ?_
      refine E.iload_n 1 dX12_layPrices_31 rfl ?_
      obtain ⟨r3, hc3, hf⟩ := e_bind hf
      refine E.callVD [.int ((8 * x1) + x2), .ref (b + (o + 19))] dX12_layPrices_32 mlX12_361 ⟨hw.sub (p := 0) rfl, e_ov_get hw.1 (p := 0) rfl rfl⟩ rfl rfl (mX12_priceOf hw hc3) ⟨Nat.le_of_ble_eq_true rfl, Nat.le_of_ble_eq_true rfl⟩ rfl rfl (Nat.le_of_ble_eq_true rfl) ⟨Nat.le_refl _, Nat.le_refl _⟩ rfl ?_
      obtain ⟨g4, hf⟩ := gd_some hf
      refine E.iast (es' := (wM G b o v_thrown v_status a_refusals a_row a_images a_isKept a_tape v_taped v_from v_to v_sort v_worth v_fault v_bad v_nClauses a_nClause v_nCode a_nOp a_nArg v_nLeaves a_pile a_pileAt v_piled v_opened a_words a_headWords r3.2.1 r3.2.2.1 r3.2.2.2.1 r3.2.2.2.2.1 r3.2.2.2.2.2.1 r3.2.2.2.2.2.2 a_chances a_votes a_costs a_table (va_up a_prices (((8 * x1) + x2) : Int32).toNatClampNeg r3.1) v_surely a_mostBy a_leastBy v_between v_steadyWays v_quashed v_but a_figures a_all a_lies a_since v_last v_state)) hw 19 (o + 19) dX12_layPrices_35 rfl rfl g4 rfl ?_
      refine E.iinc (q := 2) (v := (x2 + 1)) (lv' := [(2, .int (x2 + 1)), (0, .ref (b + o)), (1, .int x1)]) dX12_layPrices_36 rfl rfl (by decide) rfl ?_
      refine E.goto dX12_layPrices_39 ?_
      refine E.locals [1, 2, 0] rfl ?_
      exact ih hf
def fX12_layPrices_L2 (Fu : Nat) : Nat → (Nat → Int32) → Int32 → (Nat → Int64) → (Nat → Int64) → Int32 → Int64 → Int64 → (Nat → Int32) → (Nat → Int32) → Int32 → Option (Int32 × (Nat → Int64) × (Nat → Int64) × Int32 × Int64 × Int64 × (Nat → Int32) × (Nat → Int32))
  | 0, _, _, _, _, _, _, _, _, _, _ => none
  | k + 1, a_row, v_law, a_set, a_rest, v_broken, v_value, v_sum, a_costs, a_prices, x1 => if (2 : Int32) ≤ (x1 : Int32) then ((fX12_layCosts Fu a_row a_costs a_prices).bind fun r1 => (some (v_law, a_set, a_rest, v_broken, v_value, v_sum, r1, a_prices))) else (fX12_layPrices_L9 Fu (fX12_layPrices_L2 Fu k) Fu a_row v_law a_set a_rest v_broken v_value v_sum a_costs a_prices x1 0)
set_option maxHeartbeats 4000000 in
set_option maxRecDepth 100000 in
theorem tX12_layPrices_L2 {G : GT} {b : Nat} {o : Nat} {c0 : Hp} {n : Nat} (hw : e_wf (kM o) n) {v_thrown : Int32} {v_status : Int32} {a_refusals : Nat → Int32} {a_images : Nat → Int32} {a_isKept : Nat → Int32} {a_tape : Nat → Int32} {v_taped : Int32} {v_from : Int32} {v_to : Int32} {v_sort : Int32} {v_worth : Int64} {v_fault : Int32} {v_bad : Int32} {v_nClauses : Int32} {a_nClause : Nat → Int32} {v_nCode : Int32} {a_nOp : Nat → Int32} {a_nArg : Nat → Int32} {v_nLeaves : Int32} {a_pile : Nat → Int32} {a_pileAt : Nat → Int32} {v_piled : Int32} {v_opened : Int32} {a_words : Nat → Int64} {a_headWords : Nat → Int64} {a_chances : Nat → Int32} {a_votes : Nat → Int64} {a_table : Nat → Int64} {v_surely : Int64} {a_mostBy : Nat → Int64} {a_leastBy : Nat → Int64} {v_between : Int64} {v_steadyWays : Int32} {v_quashed : Int32} {v_but : Int32} {a_figures : Nat → Int32} {a_all : Nat → Int32} {a_lies : Nat → Int32} {a_since : Nat → Int32} {v_last : Int32} {v_state : Int64} {Fu : Nat} : ∀ (k : Nat) {a_row : Nat → Int32} {v_law : Int32} {a_set : Nat → Int64} {a_rest : Nat → Int64} {v_broken : Int32} {v_value : Int64} {v_sum : Int64} {a_costs : Nat → Int32} {a_prices : Nat → Int32} {x1 : Int32} {R : Int32 × (Nat → Int64) × (Nat → Int64) × Int32 × Int64 × Int64 × (Nat → Int32) × (Nat → Int32)}, fX12_layPrices_L2 Fu k a_row v_law a_set a_rest v_broken v_value v_sum a_costs a_prices x1 = some R → E G b yX12_layPrices cX12_layPrices 3 none (e_rm 5 0 0) e_X0 (e_Z G b (pD none (e_ov (kM o) (wM G b o v_thrown v_status a_refusals a_row a_images a_isKept a_tape v_taped v_from v_to v_sort v_worth v_fault v_bad v_nClauses a_nClause v_nCode a_nOp a_nArg v_nLeaves a_pile a_pileAt v_piled v_opened a_words a_headWords R.1 R.2.1 R.2.2.1 R.2.2.2.1 R.2.2.2.2.1 R.2.2.2.2.2.1 a_chances a_votes R.2.2.2.2.2.2.1 a_table R.2.2.2.2.2.2.2 v_surely a_mostBy a_leastBy v_between v_steadyWays v_quashed v_but a_figures a_all a_lies a_since v_last v_state) c0) n) 0 0) 2 [(0, .ref (b + o)), (1, .int x1)] [] (e_ov (kM o) (wM G b o v_thrown v_status a_refusals a_row a_images a_isKept a_tape v_taped v_from v_to v_sort v_worth v_fault v_bad v_nClauses a_nClause v_nCode a_nOp a_nArg v_nLeaves a_pile a_pileAt v_piled v_opened a_words a_headWords v_law a_set a_rest v_broken v_value v_sum a_chances a_votes a_costs a_table a_prices v_surely a_mostBy a_leastBy v_between v_steadyWays v_quashed v_but a_figures a_all a_lies a_since v_last v_state) c0) n 0 0 := by
  intro k
  induction k with
  | zero =>
    intro _ _ _ _ _ _ _ _ _ _ _ hf
    have hf : (none : Option (Int32 × (Nat → Int64) × (Nat → Int64) × Int32 × Int64 × Int64 × (Nat → Int32) × (Nat → Int32))) = some _ := hf
    cases hf
  | succ k ih =>
    intro a_row v_law a_set a_rest v_broken v_value v_sum a_costs a_prices x1 R hf
    rw [fX12_layPrices_L2] at hf
    refine E.iload_n 1 dX12_layPrices_2 rfl ?_
    refine E.iconst (v := 2) dX12_layPrices_3 (by decide) ?_
    refine E.icmp_ge dX12_layPrices_4 (fun h => ?_) (fun h => ?_)
    · have hf := e_ift hf h
      refine E.aload_n 0 dX12_layPrices_48 rfl ?_
      obtain ⟨r1, hc1, hf⟩ := e_bind hf
      refine E.callVD [] dX12_layPrices_49 mlX12_389 ⟨hw.sub (p := 0) rfl, e_ov_get hw.1 (p := 0) rfl rfl⟩ rfl rfl (mX12_layCosts hw hc1) ⟨Nat.le_of_ble_eq_true rfl, Nat.le_of_ble_eq_true rfl⟩ rfl rfl (Nat.le_of_ble_eq_true rfl) ⟨Nat.le_refl _, Nat.le_refl _⟩ rfl ?_
      cases hf
      exact E.vret dX12_layPrices_52 (Nat.le_refl _) (Nat.le_refl _) (pD_rf _ _ _)
    · have hf := e_iff hf h
      refine E.iconst (v := 0) dX12_layPrices_7 (by decide) ?_
      refine E.istore_n (lv' := [(2, .int 0), (0, .ref (b + o)), (1, .int x1)]) dX12_layPrices_8 (by decide) rfl ?_
      refine E.locals [1, 2, 0] rfl ?_
      exact tX12_layPrices_L9 hw ih _ hf
def fX12_layPrices (Fu : Nat) (a_row : Nat → Int32) (v_law : Int32) (a_set : Nat → Int64) (a_rest : Nat → Int64) (v_broken : Int32) (v_value : Int64) (v_sum : Int64) (a_costs : Nat → Int32) (a_prices : Nat → Int32) : Option (Int32 × (Nat → Int64) × (Nat → Int64) × Int32 × Int64 × Int64 × (Nat → Int32) × (Nat → Int32)) := fX12_layPrices_L2 Fu Fu a_row v_law a_set a_rest v_broken v_value v_sum a_costs a_prices 0
set_option maxHeartbeats 4000000 in
set_option maxRecDepth 100000 in
theorem tX12_layPrices {G : GT} {b : Nat} {o : Nat} {c0 : Hp} {n : Nat} (hw : e_wf (kM o) n) {v_thrown : Int32} {v_status : Int32} {a_refusals : Nat → Int32} {a_images : Nat → Int32} {a_isKept : Nat → Int32} {a_tape : Nat → Int32} {v_taped : Int32} {v_from : Int32} {v_to : Int32} {v_sort : Int32} {v_worth : Int64} {v_fault : Int32} {v_bad : Int32} {v_nClauses : Int32} {a_nClause : Nat → Int32} {v_nCode : Int32} {a_nOp : Nat → Int32} {a_nArg : Nat → Int32} {v_nLeaves : Int32} {a_pile : Nat → Int32} {a_pileAt : Nat → Int32} {v_piled : Int32} {v_opened : Int32} {a_words : Nat → Int64} {a_headWords : Nat → Int64} {a_chances : Nat → Int32} {a_votes : Nat → Int64} {a_table : Nat → Int64} {v_surely : Int64} {a_mostBy : Nat → Int64} {a_leastBy : Nat → Int64} {v_between : Int64} {v_steadyWays : Int32} {v_quashed : Int32} {v_but : Int32} {a_figures : Nat → Int32} {a_all : Nat → Int32} {a_lies : Nat → Int32} {a_since : Nat → Int32} {v_last : Int32} {v_state : Int64} {Fu : Nat} {a_row : Nat → Int32} {v_law : Int32} {a_set : Nat → Int64} {a_rest : Nat → Int64} {v_broken : Int32} {v_value : Int64} {v_sum : Int64} {a_costs : Nat → Int32} {a_prices : Nat → Int32} {R : Int32 × (Nat → Int64) × (Nat → Int64) × Int32 × Int64 × Int64 × (Nat → Int32) × (Nat → Int32)} (hf : fX12_layPrices Fu a_row v_law a_set a_rest v_broken v_value v_sum a_costs a_prices = some R) : E G b yX12_layPrices cX12_layPrices 3 none (e_rm 5 0 0) e_X0 (e_Z G b (pD none (e_ov (kM o) (wM G b o v_thrown v_status a_refusals a_row a_images a_isKept a_tape v_taped v_from v_to v_sort v_worth v_fault v_bad v_nClauses a_nClause v_nCode a_nOp a_nArg v_nLeaves a_pile a_pileAt v_piled v_opened a_words a_headWords R.1 R.2.1 R.2.2.1 R.2.2.2.1 R.2.2.2.2.1 R.2.2.2.2.2.1 a_chances a_votes R.2.2.2.2.2.2.1 a_table R.2.2.2.2.2.2.2 v_surely a_mostBy a_leastBy v_between v_steadyWays v_quashed v_but a_figures a_all a_lies a_since v_last v_state) c0) n) 0 0) 0 [(0, .ref (b + o))] [] (e_ov (kM o) (wM G b o v_thrown v_status a_refusals a_row a_images a_isKept a_tape v_taped v_from v_to v_sort v_worth v_fault v_bad v_nClauses a_nClause v_nCode a_nOp a_nArg v_nLeaves a_pile a_pileAt v_piled v_opened a_words a_headWords v_law a_set a_rest v_broken v_value v_sum a_chances a_votes a_costs a_table a_prices v_surely a_mostBy a_leastBy v_between v_steadyWays v_quashed v_but a_figures a_all a_lies a_since v_last v_state) c0) n 0 0 := by
  unfold fX12_layPrices at hf
  refine E.iconst (v := 0) dX12_layPrices_0 (by decide) ?_
  refine E.istore_n (lv' := [(1, .int 0), (0, .ref (b + o))]) dX12_layPrices_1 (by decide) rfl ?_
  refine E.locals [1, 0] rfl ?_
  exact tX12_layPrices_L2 hw _ hf
set_option maxRecDepth 100000 in
theorem mX12_layPrices {G : GT} {b : Nat} {o : Nat} {c0 : Hp} {n : Nat} (hw : e_wf (kM o) n) {v_thrown : Int32} {v_status : Int32} {a_refusals : Nat → Int32} {a_images : Nat → Int32} {a_isKept : Nat → Int32} {a_tape : Nat → Int32} {v_taped : Int32} {v_from : Int32} {v_to : Int32} {v_sort : Int32} {v_worth : Int64} {v_fault : Int32} {v_bad : Int32} {v_nClauses : Int32} {a_nClause : Nat → Int32} {v_nCode : Int32} {a_nOp : Nat → Int32} {a_nArg : Nat → Int32} {v_nLeaves : Int32} {a_pile : Nat → Int32} {a_pileAt : Nat → Int32} {v_piled : Int32} {v_opened : Int32} {a_words : Nat → Int64} {a_headWords : Nat → Int64} {a_chances : Nat → Int32} {a_votes : Nat → Int64} {a_table : Nat → Int64} {v_surely : Int64} {a_mostBy : Nat → Int64} {a_leastBy : Nat → Int64} {v_between : Int64} {v_steadyWays : Int32} {v_quashed : Int32} {v_but : Int32} {a_figures : Nat → Int32} {a_all : Nat → Int32} {a_lies : Nat → Int32} {a_since : Nat → Int32} {v_last : Int32} {v_state : Int64} {Fu : Nat} {a_row : Nat → Int32} {v_law : Int32} {a_set : Nat → Int64} {a_rest : Nat → Int64} {v_broken : Int32} {v_value : Int64} {v_sum : Int64} {a_costs : Nat → Int32} {a_prices : Nat → Int32} {R : Int32 × (Nat → Int64) × (Nat → Int64) × Int32 × Int64 × Int64 × (Nat → Int32) × (Nat → Int32)} (hf : fX12_layPrices Fu a_row v_law a_set a_rest v_broken v_value v_sum a_costs a_prices = some R) : e_C G b yX12_layPrices cX12_layPrices 3 none 5 0 0 [.ref (b + o)] (e_ov (kM o) (wM G b o v_thrown v_status a_refusals a_row a_images a_isKept a_tape v_taped v_from v_to v_sort v_worth v_fault v_bad v_nClauses a_nClause v_nCode a_nOp a_nArg v_nLeaves a_pile a_pileAt v_piled v_opened a_words a_headWords v_law a_set a_rest v_broken v_value v_sum a_chances a_votes a_costs a_table a_prices v_surely a_mostBy a_leastBy v_between v_steadyWays v_quashed v_but a_figures a_all a_lies a_since v_last v_state) c0) n (pD none (e_ov (kM o) (wM G b o v_thrown v_status a_refusals a_row a_images a_isKept a_tape v_taped v_from v_to v_sort v_worth v_fault v_bad v_nClauses a_nClause v_nCode a_nOp a_nArg v_nLeaves a_pile a_pileAt v_piled v_opened a_words a_headWords R.1 R.2.1 R.2.2.1 R.2.2.2.1 R.2.2.2.2.1 R.2.2.2.2.2.1 a_chances a_votes R.2.2.2.2.2.2.1 a_table R.2.2.2.2.2.2.2 v_surely a_mostBy a_leastBy v_between v_steadyWays v_quashed v_but a_figures a_all a_lies a_since v_last v_state) c0) n) := e_C.of (by decide) (Nat.le_of_ble_eq_true rfl) (tX12_layPrices hw hf)
def fX12_canBribe_L48 (a_row : Nat → Int32) (a_costs : Nat → Int32) : Option (Int32) := some (0)
set_option maxHeartbeats 4000000 in
set_option maxRecDepth 100000 in
theorem tX12_canBribe_L48 {G : GT} {b : Nat} {o : Nat} {c0 : Hp} {n : Nat} (hw : e_wf (kM o) n) {v_thrown : Int32} {v_status : Int32} {a_refusals : Nat → Int32} {a_images : Nat → Int32} {a_isKept : Nat → Int32} {a_tape : Nat → Int32} {v_taped : Int32} {v_from : Int32} {v_to : Int32} {v_sort : Int32} {v_worth : Int64} {v_fault : Int32} {v_bad : Int32} {v_nClauses : Int32} {a_nClause : Nat → Int32} {v_nCode : Int32} {a_nOp : Nat → Int32} {a_nArg : Nat → Int32} {v_nLeaves : Int32} {a_pile : Nat → Int32} {a_pileAt : Nat → Int32} {v_piled : Int32} {v_opened : Int32} {a_words : Nat → Int64} {a_headWords : Nat → Int64} {v_law : Int32} {a_set : Nat → Int64} {a_rest : Nat → Int64} {v_broken : Int32} {v_value : Int64} {v_sum : Int64} {a_chances : Nat → Int32} {a_votes : Nat → Int64} {a_table : Nat → Int64} {a_prices : Nat → Int32} {v_surely : Int64} {a_mostBy : Nat → Int64} {a_leastBy : Nat → Int64} {v_between : Int64} {v_steadyWays : Int32} {v_quashed : Int32} {v_but : Int32} {a_figures : Nat → Int32} {a_all : Nat → Int32} {a_lies : Nat → Int32} {a_since : Nat → Int32} {v_last : Int32} {v_state : Int64} {a_row : Nat → Int32} {a_costs : Nat → Int32} {R : Int32} (hf : fX12_canBribe_L48 a_row a_costs = some R) : E G b yX12_canBribe cX12_canBribe 4 (some .boolean) (e_rm 1 0 0) e_X0 (e_Z G b (pD (some (.int R)) (e_ov (kM o) (wM G b o v_thrown v_status a_refusals a_row a_images a_isKept a_tape v_taped v_from v_to v_sort v_worth v_fault v_bad v_nClauses a_nClause v_nCode a_nOp a_nArg v_nLeaves a_pile a_pileAt v_piled v_opened a_words a_headWords v_law a_set a_rest v_broken v_value v_sum a_chances a_votes a_costs a_table a_prices v_surely a_mostBy a_leastBy v_between v_steadyWays v_quashed v_but a_figures a_all a_lies a_since v_last v_state) c0) n) 0 0) 48 [] [] (e_ov (kM o) (wM G b o v_thrown v_status a_refusals a_row a_images a_isKept a_tape v_taped v_from v_to v_sort v_worth v_fault v_bad v_nClauses a_nClause v_nCode a_nOp a_nArg v_nLeaves a_pile a_pileAt v_piled v_opened a_words a_headWords v_law a_set a_rest v_broken v_value v_sum a_chances a_votes a_costs a_table a_prices v_surely a_mostBy a_leastBy v_between v_steadyWays v_quashed v_but a_figures a_all a_lies a_since v_last v_state) c0) n 0 0 := by
  unfold fX12_canBribe_L48 at hf
  refine E.iconst (v := 0) dX12_canBribe_48 (by decide) ?_
  cases hf
  exact E.zret dX12_canBribe_49 rfl (Nat.le_refl _) (Nat.le_refl _) (pD_rf _ _ _)
def fX12_canBribe (a_row : Nat → Int32) (a_costs : Nat → Int32) (x1 : Int32) (x2 : Int32) (x3 : Int32) : Option (Int32) := (fX12_in ((x2 : Int32).toInt64) 0 255).bind fun r1 => (if (r1 : Int32) = 0 then (fX12_canBribe_L48 a_row a_costs) else (if ((x2 &&& (x3 ^^^ (-1 : Int32))) : Int32) = 0 then (gd ((256 * x1) + x2) 512 (gd (8 + x1) 5570 (if ((a_row ((8 + x1) : Int32).toNatClampNeg) : Int32) < ((a_costs (((256 * x1) + x2) : Int32).toNatClampNeg) : Int32) then (fX12_canBribe_L48 a_row a_costs) else (some (1))))) else (fX12_canBribe_L48 a_row a_costs)))
set_option maxHeartbeats 4000000 in
set_option maxRecDepth 100000 in
theorem tX12_canBribe {G : GT} {b : Nat} {o : Nat} {c0 : Hp} {n : Nat} (hw : e_wf (kM o) n) {v_thrown : Int32} {v_status : Int32} {a_refusals : Nat → Int32} {a_images : Nat → Int32} {a_isKept : Nat → Int32} {a_tape : Nat → Int32} {v_taped : Int32} {v_from : Int32} {v_to : Int32} {v_sort : Int32} {v_worth : Int64} {v_fault : Int32} {v_bad : Int32} {v_nClauses : Int32} {a_nClause : Nat → Int32} {v_nCode : Int32} {a_nOp : Nat → Int32} {a_nArg : Nat → Int32} {v_nLeaves : Int32} {a_pile : Nat → Int32} {a_pileAt : Nat → Int32} {v_piled : Int32} {v_opened : Int32} {a_words : Nat → Int64} {a_headWords : Nat → Int64} {v_law : Int32} {a_set : Nat → Int64} {a_rest : Nat → Int64} {v_broken : Int32} {v_value : Int64} {v_sum : Int64} {a_chances : Nat → Int32} {a_votes : Nat → Int64} {a_table : Nat → Int64} {a_prices : Nat → Int32} {v_surely : Int64} {a_mostBy : Nat → Int64} {a_leastBy : Nat → Int64} {v_between : Int64} {v_steadyWays : Int32} {v_quashed : Int32} {v_but : Int32} {a_figures : Nat → Int32} {a_all : Nat → Int32} {a_lies : Nat → Int32} {a_since : Nat → Int32} {v_last : Int32} {v_state : Int64} {a_row : Nat → Int32} {a_costs : Nat → Int32} {x1 : Int32} {x2 : Int32} {x3 : Int32} {R : Int32} (hf : fX12_canBribe a_row a_costs x1 x2 x3 = some R) : E G b yX12_canBribe cX12_canBribe 4 (some .boolean) (e_rm 1 0 0) e_X0 (e_Z G b (pD (some (.int R)) (e_ov (kM o) (wM G b o v_thrown v_status a_refusals a_row a_images a_isKept a_tape v_taped v_from v_to v_sort v_worth v_fault v_bad v_nClauses a_nClause v_nCode a_nOp a_nArg v_nLeaves a_pile a_pileAt v_piled v_opened a_words a_headWords v_law a_set a_rest v_broken v_value v_sum a_chances a_votes a_costs a_table a_prices v_surely a_mostBy a_leastBy v_between v_steadyWays v_quashed v_but a_figures a_all a_lies a_since v_last v_state) c0) n) 0 0) 0 [(0, .ref (b + o)), (1, .int x1), (2, .int x2), (3, .int x3)] [] (e_ov (kM o) (wM G b o v_thrown v_status a_refusals a_row a_images a_isKept a_tape v_taped v_from v_to v_sort v_worth v_fault v_bad v_nClauses a_nClause v_nCode a_nOp a_nArg v_nLeaves a_pile a_pileAt v_piled v_opened a_words a_headWords v_law a_set a_rest v_broken v_value v_sum a_chances a_votes a_costs a_table a_prices v_surely a_mostBy a_leastBy v_between v_steadyWays v_quashed v_but a_figures a_all a_lies a_since v_last v_state) c0) n 0 0 := by
  unfold fX12_canBribe at hf
  refine E.iload_n 2 dX12_canBribe_0 rfl ?_
  refine E.i2l dX12_canBribe_1 ?_
  refine E.lconst (v := 0) dX12_canBribe_2 (by decide) ?_
  refine E.ldc2 dX12_canBribe_3 kX12_392 ?_
  obtain ⟨r1, hc1, hf⟩ := e_bind hf
  refine E.callSD [] dX12_canBribe_6 mlX12_134 (mX12_in hc1) ⟨Nat.le_of_ble_eq_true rfl, Nat.le_of_ble_eq_true rfl⟩ rfl rfl (Nat.le_of_ble_eq_true rfl) ⟨Nat.le_refl _, Nat.le_refl _⟩ rfl ?_
  refine E.if_eq dX12_canBribe_9 (fun h => ?_) (fun h => ?_)
  · have hf := e_ift hf h
    refine E.locals [] rfl ?_
    exact tX12_canBribe_L48 hw hf
  · have hf := e_iff hf h
    refine E.iload_n 2 dX12_canBribe_12 rfl ?_
    refine E.iload_n 3 dX12_canBribe_13 rfl ?_
    refine E.iconst (v := -1) dX12_canBribe_14 (by decide) ?_
    refine E.ixor dX12_canBribe_15 ?_
    refine E.iand dX12_canBribe_16 ?_
    refine E.if_ne dX12_canBribe_17 (fun h => ?_) (fun h => ?_)
    · have hf := e_iff hf h
      refine E.locals [] rfl ?_
      exact tX12_canBribe_L48 hw hf
    · have hf := e_ift hf h
      refine E.aload_n 0 dX12_canBribe_20 rfl ?_
      refine E.get hw 0 o dX12_canBribe_21 flX12_90 rfl rfl rfl rfl ?_
      refine E.sipush (v := 256) dX12_canBribe_24 (by decide) ?_
      refine E.iload_n 1 dX12_canBribe_27 rfl ?_
      refine E.imul dX12_canBribe_28 ?_
      refine E.iload_n 2 dX12_canBribe_29 rfl ?_
      refine E.iadd dX12_canBribe_30 ?_
      obtain ⟨g2, hf⟩ := gd_some hf
      refine E.iald hw 17 (o + 17) dX12_canBribe_31 rfl rfl g2 ?_
      refine E.aload_n 0 dX12_canBribe_32 rfl ?_
      refine E.get hw 0 o dX12_canBribe_33 flX12_13 rfl rfl rfl rfl ?_
      refine E.bipush (v := 8) dX12_canBribe_36 (by decide) ?_
      refine E.iload_n 1 dX12_canBribe_38 rfl ?_
      refine E.iadd dX12_canBribe_39 ?_
      obtain ⟨g3, hf⟩ := gd_some hf
      refine E.iald hw 2 (o + 2) dX12_canBribe_40 rfl rfl g3 ?_
      refine E.icmp_gt dX12_canBribe_41 (fun h => ?_) (fun h => ?_)
      · have hf := e_ift hf h
        refine E.locals [] rfl ?_
        exact tX12_canBribe_L48 hw hf
      · have hf := e_iff hf h
        refine E.iconst (v := 1) dX12_canBribe_44 (by decide) ?_
        refine E.goto dX12_canBribe_45 ?_
        cases hf
        exact E.zret dX12_canBribe_49 rfl (Nat.le_refl _) (Nat.le_refl _) (pD_rf _ _ _)
set_option maxRecDepth 100000 in
theorem mX12_canBribe {G : GT} {b : Nat} {o : Nat} {c0 : Hp} {n : Nat} (hw : e_wf (kM o) n) {v_thrown : Int32} {v_status : Int32} {a_refusals : Nat → Int32} {a_images : Nat → Int32} {a_isKept : Nat → Int32} {a_tape : Nat → Int32} {v_taped : Int32} {v_from : Int32} {v_to : Int32} {v_sort : Int32} {v_worth : Int64} {v_fault : Int32} {v_bad : Int32} {v_nClauses : Int32} {a_nClause : Nat → Int32} {v_nCode : Int32} {a_nOp : Nat → Int32} {a_nArg : Nat → Int32} {v_nLeaves : Int32} {a_pile : Nat → Int32} {a_pileAt : Nat → Int32} {v_piled : Int32} {v_opened : Int32} {a_words : Nat → Int64} {a_headWords : Nat → Int64} {v_law : Int32} {a_set : Nat → Int64} {a_rest : Nat → Int64} {v_broken : Int32} {v_value : Int64} {v_sum : Int64} {a_chances : Nat → Int32} {a_votes : Nat → Int64} {a_table : Nat → Int64} {a_prices : Nat → Int32} {v_surely : Int64} {a_mostBy : Nat → Int64} {a_leastBy : Nat → Int64} {v_between : Int64} {v_steadyWays : Int32} {v_quashed : Int32} {v_but : Int32} {a_figures : Nat → Int32} {a_all : Nat → Int32} {a_lies : Nat → Int32} {a_since : Nat → Int32} {v_last : Int32} {v_state : Int64} {a_row : Nat → Int32} {a_costs : Nat → Int32} {x1 : Int32} {x2 : Int32} {x3 : Int32} {R : Int32} (hf : fX12_canBribe a_row a_costs x1 x2 x3 = some R) : e_C G b yX12_canBribe cX12_canBribe 4 (some .boolean) 1 0 0 [.ref (b + o), .int x1, .int x2, .int x3] (e_ov (kM o) (wM G b o v_thrown v_status a_refusals a_row a_images a_isKept a_tape v_taped v_from v_to v_sort v_worth v_fault v_bad v_nClauses a_nClause v_nCode a_nOp a_nArg v_nLeaves a_pile a_pileAt v_piled v_opened a_words a_headWords v_law a_set a_rest v_broken v_value v_sum a_chances a_votes a_costs a_table a_prices v_surely a_mostBy a_leastBy v_between v_steadyWays v_quashed v_but a_figures a_all a_lies a_since v_last v_state) c0) n (pD (some (.int R)) (e_ov (kM o) (wM G b o v_thrown v_status a_refusals a_row a_images a_isKept a_tape v_taped v_from v_to v_sort v_worth v_fault v_bad v_nClauses a_nClause v_nCode a_nOp a_nArg v_nLeaves a_pile a_pileAt v_piled v_opened a_words a_headWords v_law a_set a_rest v_broken v_value v_sum a_chances a_votes a_costs a_table a_prices v_surely a_mostBy a_leastBy v_between v_steadyWays v_quashed v_but a_figures a_all a_lies a_since v_last v_state) c0) n) := e_C.of (by decide) (Nat.le_of_ble_eq_true rfl) (tX12_canBribe hw hf)
def fX12_can (a_row : Nat → Int32) (a_costs : Nat → Int32) (x1 : Int32) (x2 : Int32) : Option (Int32) := gd 4 5570 ((fX12_canBribe a_row a_costs x1 x2 (a_row (4 : Int32).toNatClampNeg)).bind fun r2 => (gb r2 (some (r2))))
set_option maxHeartbeats 4000000 in
set_option maxRecDepth 100000 in
theorem tX12_can {G : GT} {b : Nat} {o : Nat} {c0 : Hp} {n : Nat} (hw : e_wf (kM o) n) {v_thrown : Int32} {v_status : Int32} {a_refusals : Nat → Int32} {a_images : Nat → Int32} {a_isKept : Nat → Int32} {a_tape : Nat → Int32} {v_taped : Int32} {v_from : Int32} {v_to : Int32} {v_sort : Int32} {v_worth : Int64} {v_fault : Int32} {v_bad : Int32} {v_nClauses : Int32} {a_nClause : Nat → Int32} {v_nCode : Int32} {a_nOp : Nat → Int32} {a_nArg : Nat → Int32} {v_nLeaves : Int32} {a_pile : Nat → Int32} {a_pileAt : Nat → Int32} {v_piled : Int32} {v_opened : Int32} {a_words : Nat → Int64} {a_headWords : Nat → Int64} {v_law : Int32} {a_set : Nat → Int64} {a_rest : Nat → Int64} {v_broken : Int32} {v_value : Int64} {v_sum : Int64} {a_chances : Nat → Int32} {a_votes : Nat → Int64} {a_table : Nat → Int64} {a_prices : Nat → Int32} {v_surely : Int64} {a_mostBy : Nat → Int64} {a_leastBy : Nat → Int64} {v_between : Int64} {v_steadyWays : Int32} {v_quashed : Int32} {v_but : Int32} {a_figures : Nat → Int32} {a_all : Nat → Int32} {a_lies : Nat → Int32} {a_since : Nat → Int32} {v_last : Int32} {v_state : Int64} {a_row : Nat → Int32} {a_costs : Nat → Int32} {x1 : Int32} {x2 : Int32} {R : Int32} (hf : fX12_can a_row a_costs x1 x2 = some R) : E G b yX12_can cX12_can 3 (some .boolean) (e_rm 2 0 0) e_X0 (e_Z G b (pD (some (.int R)) (e_ov (kM o) (wM G b o v_thrown v_status a_refusals a_row a_images a_isKept a_tape v_taped v_from v_to v_sort v_worth v_fault v_bad v_nClauses a_nClause v_nCode a_nOp a_nArg v_nLeaves a_pile a_pileAt v_piled v_opened a_words a_headWords v_law a_set a_rest v_broken v_value v_sum a_chances a_votes a_costs a_table a_prices v_surely a_mostBy a_leastBy v_between v_steadyWays v_quashed v_but a_figures a_all a_lies a_since v_last v_state) c0) n) 0 0) 0 [(0, .ref (b + o)), (1, .int x1), (2, .int x2)] [] (e_ov (kM o) (wM G b o v_thrown v_status a_refusals a_row a_images a_isKept a_tape v_taped v_from v_to v_sort v_worth v_fault v_bad v_nClauses a_nClause v_nCode a_nOp a_nArg v_nLeaves a_pile a_pileAt v_piled v_opened a_words a_headWords v_law a_set a_rest v_broken v_value v_sum a_chances a_votes a_costs a_table a_prices v_surely a_mostBy a_leastBy v_between v_steadyWays v_quashed v_but a_figures a_all a_lies a_since v_last v_state) c0) n 0 0 := by
  unfold fX12_can at hf
  refine E.aload_n 0 dX12_can_0 rfl ?_
  refine E.iload_n 1 dX12_can_1 rfl ?_
  refine E.iload_n 2 dX12_can_2 rfl ?_
  refine E.aload_n 0 dX12_can_3 rfl ?_
  refine E.get hw 0 o dX12_can_4 flX12_13 rfl rfl rfl rfl ?_
  refine E.iconst (v := 4) dX12_can_7 (by decide) ?_
  obtain ⟨g1, hf⟩ := gd_some hf
  refine E.iald hw 2 (o + 2) dX12_can_8 rfl rfl g1 ?_
  obtain ⟨r2, hc2, hf⟩ := e_bind hf
  refine E.callVD [] dX12_can_9 mlX12_394 ⟨hw.sub (p := 0) rfl, e_ov_get hw.1 (p := 0) rfl rfl⟩ rfl rfl (mX12_canBribe hw hc2) ⟨Nat.le_of_ble_eq_true rfl, Nat.le_of_ble_eq_true rfl⟩ rfl rfl (Nat.le_of_ble_eq_true rfl) ⟨Nat.le_refl _, Nat.le_refl _⟩ rfl ?_
  obtain ⟨g3, hf⟩ := gb_some hf
  cases hf
  exact E.zret dX12_can_12 (nb01 g3) (Nat.le_refl _) (Nat.le_refl _) (pD_rf _ _ _)
set_option maxRecDepth 100000 in
theorem mX12_can {G : GT} {b : Nat} {o : Nat} {c0 : Hp} {n : Nat} (hw : e_wf (kM o) n) {v_thrown : Int32} {v_status : Int32} {a_refusals : Nat → Int32} {a_images : Nat → Int32} {a_isKept : Nat → Int32} {a_tape : Nat → Int32} {v_taped : Int32} {v_from : Int32} {v_to : Int32} {v_sort : Int32} {v_worth : Int64} {v_fault : Int32} {v_bad : Int32} {v_nClauses : Int32} {a_nClause : Nat → Int32} {v_nCode : Int32} {a_nOp : Nat → Int32} {a_nArg : Nat → Int32} {v_nLeaves : Int32} {a_pile : Nat → Int32} {a_pileAt : Nat → Int32} {v_piled : Int32} {v_opened : Int32} {a_words : Nat → Int64} {a_headWords : Nat → Int64} {v_law : Int32} {a_set : Nat → Int64} {a_rest : Nat → Int64} {v_broken : Int32} {v_value : Int64} {v_sum : Int64} {a_chances : Nat → Int32} {a_votes : Nat → Int64} {a_table : Nat → Int64} {a_prices : Nat → Int32} {v_surely : Int64} {a_mostBy : Nat → Int64} {a_leastBy : Nat → Int64} {v_between : Int64} {v_steadyWays : Int32} {v_quashed : Int32} {v_but : Int32} {a_figures : Nat → Int32} {a_all : Nat → Int32} {a_lies : Nat → Int32} {a_since : Nat → Int32} {v_last : Int32} {v_state : Int64} {a_row : Nat → Int32} {a_costs : Nat → Int32} {x1 : Int32} {x2 : Int32} {R : Int32} (hf : fX12_can a_row a_costs x1 x2 = some R) : e_C G b yX12_can cX12_can 3 (some .boolean) 2 0 0 [.ref (b + o), .int x1, .int x2] (e_ov (kM o) (wM G b o v_thrown v_status a_refusals a_row a_images a_isKept a_tape v_taped v_from v_to v_sort v_worth v_fault v_bad v_nClauses a_nClause v_nCode a_nOp a_nArg v_nLeaves a_pile a_pileAt v_piled v_opened a_words a_headWords v_law a_set a_rest v_broken v_value v_sum a_chances a_votes a_costs a_table a_prices v_surely a_mostBy a_leastBy v_between v_steadyWays v_quashed v_but a_figures a_all a_lies a_since v_last v_state) c0) n (pD (some (.int R)) (e_ov (kM o) (wM G b o v_thrown v_status a_refusals a_row a_images a_isKept a_tape v_taped v_from v_to v_sort v_worth v_fault v_bad v_nClauses a_nClause v_nCode a_nOp a_nArg v_nLeaves a_pile a_pileAt v_piled v_opened a_words a_headWords v_law a_set a_rest v_broken v_value v_sum a_chances a_votes a_costs a_table a_prices v_surely a_mostBy a_leastBy v_between v_steadyWays v_quashed v_but a_figures a_all a_lies a_since v_last v_state) c0) n) := e_C.of (by decide) (Nat.le_of_ble_eq_true rfl) (tX12_can hw hf)
def fX12_layBribes (Fu : Nat) (a_row : Nat → Int32) (v_law : Int32) (a_set : Nat → Int64) (a_rest : Nat → Int64) (v_broken : Int32) (v_value : Int64) (v_sum : Int64) (a_chances : Nat → Int32) (a_costs : Nat → Int32) (a_prices : Nat → Int32) : Option (Int32 × (Nat → Int64) × (Nat → Int64) × Int32 × Int64 × Int64 × (Nat → Int32) × (Nat → Int32) × (Nat → Int32)) := (fX12_layNow Fu a_row v_law a_set a_rest v_broken v_value v_sum a_chances).bind fun r1 => ((fX12_layPrices Fu a_row r1.1 r1.2.1 r1.2.2.1 r1.2.2.2.1 r1.2.2.2.2.1 r1.2.2.2.2.2.1 a_costs a_prices).bind fun r2 => (some (r2.1, r2.2.1, r2.2.2.1, r2.2.2.2.1, r2.2.2.2.2.1, r2.2.2.2.2.2.1, r1.2.2.2.2.2.2, r2.2.2.2.2.2.2.1, r2.2.2.2.2.2.2.2)))
set_option maxHeartbeats 4000000 in
set_option maxRecDepth 100000 in
theorem tX12_layBribes {G : GT} {b : Nat} {o : Nat} {c0 : Hp} {n : Nat} (hw : e_wf (kM o) n) {v_thrown : Int32} {v_status : Int32} {a_refusals : Nat → Int32} {a_images : Nat → Int32} {a_isKept : Nat → Int32} {a_tape : Nat → Int32} {v_taped : Int32} {v_from : Int32} {v_to : Int32} {v_sort : Int32} {v_worth : Int64} {v_fault : Int32} {v_bad : Int32} {v_nClauses : Int32} {a_nClause : Nat → Int32} {v_nCode : Int32} {a_nOp : Nat → Int32} {a_nArg : Nat → Int32} {v_nLeaves : Int32} {a_pile : Nat → Int32} {a_pileAt : Nat → Int32} {v_piled : Int32} {v_opened : Int32} {a_words : Nat → Int64} {a_headWords : Nat → Int64} {a_votes : Nat → Int64} {a_table : Nat → Int64} {v_surely : Int64} {a_mostBy : Nat → Int64} {a_leastBy : Nat → Int64} {v_between : Int64} {v_steadyWays : Int32} {v_quashed : Int32} {v_but : Int32} {a_figures : Nat → Int32} {a_all : Nat → Int32} {a_lies : Nat → Int32} {a_since : Nat → Int32} {v_last : Int32} {v_state : Int64} {Fu : Nat} {a_row : Nat → Int32} {v_law : Int32} {a_set : Nat → Int64} {a_rest : Nat → Int64} {v_broken : Int32} {v_value : Int64} {v_sum : Int64} {a_chances : Nat → Int32} {a_costs : Nat → Int32} {a_prices : Nat → Int32} {R : Int32 × (Nat → Int64) × (Nat → Int64) × Int32 × Int64 × Int64 × (Nat → Int32) × (Nat → Int32) × (Nat → Int32)} (hf : fX12_layBribes Fu a_row v_law a_set a_rest v_broken v_value v_sum a_chances a_costs a_prices = some R) : E G b yX12_layBribes cX12_layBribes 1 none (e_rm 7 0 0) e_X0 (e_Z G b (pD none (e_ov (kM o) (wM G b o v_thrown v_status a_refusals a_row a_images a_isKept a_tape v_taped v_from v_to v_sort v_worth v_fault v_bad v_nClauses a_nClause v_nCode a_nOp a_nArg v_nLeaves a_pile a_pileAt v_piled v_opened a_words a_headWords R.1 R.2.1 R.2.2.1 R.2.2.2.1 R.2.2.2.2.1 R.2.2.2.2.2.1 R.2.2.2.2.2.2.1 a_votes R.2.2.2.2.2.2.2.1 a_table R.2.2.2.2.2.2.2.2 v_surely a_mostBy a_leastBy v_between v_steadyWays v_quashed v_but a_figures a_all a_lies a_since v_last v_state) c0) n) 0 0) 0 [(0, .ref (b + o))] [] (e_ov (kM o) (wM G b o v_thrown v_status a_refusals a_row a_images a_isKept a_tape v_taped v_from v_to v_sort v_worth v_fault v_bad v_nClauses a_nClause v_nCode a_nOp a_nArg v_nLeaves a_pile a_pileAt v_piled v_opened a_words a_headWords v_law a_set a_rest v_broken v_value v_sum a_chances a_votes a_costs a_table a_prices v_surely a_mostBy a_leastBy v_between v_steadyWays v_quashed v_but a_figures a_all a_lies a_since v_last v_state) c0) n 0 0 := by
  unfold fX12_layBribes at hf
  refine E.aload_n 0 dX12_layBribes_0 rfl ?_
  obtain ⟨r1, hc1, hf⟩ := e_bind hf
  refine E.callVD [] dX12_layBribes_1 mlX12_374 ⟨hw.sub (p := 0) rfl, e_ov_get hw.1 (p := 0) rfl rfl⟩ rfl rfl (mX12_layNow hw hc1) ⟨Nat.le_of_ble_eq_true rfl, Nat.le_of_ble_eq_true rfl⟩ rfl rfl (Nat.le_of_ble_eq_true rfl) ⟨Nat.le_refl _, Nat.le_refl _⟩ rfl ?_
  refine E.aload_n 0 dX12_layBribes_4 rfl ?_
  obtain ⟨r2, hc2, hf⟩ := e_bind hf
  refine E.callVD [] dX12_layBribes_5 mlX12_398 ⟨hw.sub (p := 0) rfl, e_ov_get hw.1 (p := 0) rfl rfl⟩ rfl rfl (mX12_layPrices hw hc2) ⟨Nat.le_of_ble_eq_true rfl, Nat.le_of_ble_eq_true rfl⟩ rfl rfl (Nat.le_of_ble_eq_true rfl) ⟨Nat.le_refl _, Nat.le_refl _⟩ rfl ?_
  cases hf
  exact E.vret dX12_layBribes_8 (Nat.le_refl _) (Nat.le_refl _) (pD_rf _ _ _)
set_option maxRecDepth 100000 in
theorem mX12_layBribes {G : GT} {b : Nat} {o : Nat} {c0 : Hp} {n : Nat} (hw : e_wf (kM o) n) {v_thrown : Int32} {v_status : Int32} {a_refusals : Nat → Int32} {a_images : Nat → Int32} {a_isKept : Nat → Int32} {a_tape : Nat → Int32} {v_taped : Int32} {v_from : Int32} {v_to : Int32} {v_sort : Int32} {v_worth : Int64} {v_fault : Int32} {v_bad : Int32} {v_nClauses : Int32} {a_nClause : Nat → Int32} {v_nCode : Int32} {a_nOp : Nat → Int32} {a_nArg : Nat → Int32} {v_nLeaves : Int32} {a_pile : Nat → Int32} {a_pileAt : Nat → Int32} {v_piled : Int32} {v_opened : Int32} {a_words : Nat → Int64} {a_headWords : Nat → Int64} {a_votes : Nat → Int64} {a_table : Nat → Int64} {v_surely : Int64} {a_mostBy : Nat → Int64} {a_leastBy : Nat → Int64} {v_between : Int64} {v_steadyWays : Int32} {v_quashed : Int32} {v_but : Int32} {a_figures : Nat → Int32} {a_all : Nat → Int32} {a_lies : Nat → Int32} {a_since : Nat → Int32} {v_last : Int32} {v_state : Int64} {Fu : Nat} {a_row : Nat → Int32} {v_law : Int32} {a_set : Nat → Int64} {a_rest : Nat → Int64} {v_broken : Int32} {v_value : Int64} {v_sum : Int64} {a_chances : Nat → Int32} {a_costs : Nat → Int32} {a_prices : Nat → Int32} {R : Int32 × (Nat → Int64) × (Nat → Int64) × Int32 × Int64 × Int64 × (Nat → Int32) × (Nat → Int32) × (Nat → Int32)} (hf : fX12_layBribes Fu a_row v_law a_set a_rest v_broken v_value v_sum a_chances a_costs a_prices = some R) : e_C G b yX12_layBribes cX12_layBribes 1 none 7 0 0 [.ref (b + o)] (e_ov (kM o) (wM G b o v_thrown v_status a_refusals a_row a_images a_isKept a_tape v_taped v_from v_to v_sort v_worth v_fault v_bad v_nClauses a_nClause v_nCode a_nOp a_nArg v_nLeaves a_pile a_pileAt v_piled v_opened a_words a_headWords v_law a_set a_rest v_broken v_value v_sum a_chances a_votes a_costs a_table a_prices v_surely a_mostBy a_leastBy v_between v_steadyWays v_quashed v_but a_figures a_all a_lies a_since v_last v_state) c0) n (pD none (e_ov (kM o) (wM G b o v_thrown v_status a_refusals a_row a_images a_isKept a_tape v_taped v_from v_to v_sort v_worth v_fault v_bad v_nClauses a_nClause v_nCode a_nOp a_nArg v_nLeaves a_pile a_pileAt v_piled v_opened a_words a_headWords R.1 R.2.1 R.2.2.1 R.2.2.2.1 R.2.2.2.2.1 R.2.2.2.2.2.1 R.2.2.2.2.2.2.1 a_votes R.2.2.2.2.2.2.2.1 a_table R.2.2.2.2.2.2.2.2 v_surely a_mostBy a_leastBy v_between v_steadyWays v_quashed v_but a_figures a_all a_lies a_since v_last v_state) c0) n) := e_C.of (by decide) (Nat.le_of_ble_eq_true rfl) (tX12_layBribes hw hf)
def fX12_bribed_L46 (Fu : Nat) (v_thrown : Int32) (a_row : Nat → Int32) (v_law : Int32) (a_set : Nat → Int64) (a_rest : Nat → Int64) (v_broken : Int32) (v_value : Int64) (v_sum : Int64) (a_chances : Nat → Int32) (a_votes : Nat → Int64) (a_costs : Nat → Int32) (a_prices : Nat → Int32) : Option (Int64 × Int32 × Int32 × (Nat → Int64) × (Nat → Int64) × Int32 × Int64 × Int64 × (Nat → Int32) × (Nat → Int64) × (Nat → Int32) × (Nat → Int32)) := some ((-1 : Int64), v_thrown, v_law, a_set, a_rest, v_broken, v_value, v_sum, a_chances, a_votes, a_costs, a_prices)
set_option maxHeartbeats 4000000 in
set_option maxRecDepth 100000 in
theorem tX12_bribed_L46 {G : GT} {b : Nat} {o : Nat} {c0 : Hp} {n : Nat} (hw : e_wf (kM o) n) {v_status : Int32} {a_refusals : Nat → Int32} {a_images : Nat → Int32} {a_isKept : Nat → Int32} {a_tape : Nat → Int32} {v_taped : Int32} {v_from : Int32} {v_to : Int32} {v_sort : Int32} {v_worth : Int64} {v_fault : Int32} {v_bad : Int32} {v_nClauses : Int32} {a_nClause : Nat → Int32} {v_nCode : Int32} {a_nOp : Nat → Int32} {a_nArg : Nat → Int32} {v_nLeaves : Int32} {a_pile : Nat → Int32} {a_pileAt : Nat → Int32} {v_piled : Int32} {v_opened : Int32} {a_words : Nat → Int64} {a_headWords : Nat → Int64} {a_table : Nat → Int64} {v_surely : Int64} {a_mostBy : Nat → Int64} {a_leastBy : Nat → Int64} {v_between : Int64} {v_steadyWays : Int32} {v_quashed : Int32} {v_but : Int32} {a_figures : Nat → Int32} {a_all : Nat → Int32} {a_lies : Nat → Int32} {a_since : Nat → Int32} {v_last : Int32} {v_state : Int64} {Fu : Nat} {v_thrown : Int32} {a_row : Nat → Int32} {v_law : Int32} {a_set : Nat → Int64} {a_rest : Nat → Int64} {v_broken : Int32} {v_value : Int64} {v_sum : Int64} {a_chances : Nat → Int32} {a_votes : Nat → Int64} {a_costs : Nat → Int32} {a_prices : Nat → Int32} {R : Int64 × Int32 × Int32 × (Nat → Int64) × (Nat → Int64) × Int32 × Int64 × Int64 × (Nat → Int32) × (Nat → Int64) × (Nat → Int32) × (Nat → Int32)} (hf : fX12_bribed_L46 Fu v_thrown a_row v_law a_set a_rest v_broken v_value v_sum a_chances a_votes a_costs a_prices = some R) : E G b yX12_bribed cX12_bribed 3 (some .long) (e_rm 8 0 0) e_X0 (e_Z G b (pD (some (.long R.1)) (e_ov (kM o) (wM G b o R.2.1 v_status a_refusals a_row a_images a_isKept a_tape v_taped v_from v_to v_sort v_worth v_fault v_bad v_nClauses a_nClause v_nCode a_nOp a_nArg v_nLeaves a_pile a_pileAt v_piled v_opened a_words a_headWords R.2.2.1 R.2.2.2.1 R.2.2.2.2.1 R.2.2.2.2.2.1 R.2.2.2.2.2.2.1 R.2.2.2.2.2.2.2.1 R.2.2.2.2.2.2.2.2.1 R.2.2.2.2.2.2.2.2.2.1 R.2.2.2.2.2.2.2.2.2.2.1 a_table R.2.2.2.2.2.2.2.2.2.2.2 v_surely a_mostBy a_leastBy v_between v_steadyWays v_quashed v_but a_figures a_all a_lies a_since v_last v_state) c0) n) 0 0) 46 [] [] (e_ov (kM o) (wM G b o v_thrown v_status a_refusals a_row a_images a_isKept a_tape v_taped v_from v_to v_sort v_worth v_fault v_bad v_nClauses a_nClause v_nCode a_nOp a_nArg v_nLeaves a_pile a_pileAt v_piled v_opened a_words a_headWords v_law a_set a_rest v_broken v_value v_sum a_chances a_votes a_costs a_table a_prices v_surely a_mostBy a_leastBy v_between v_steadyWays v_quashed v_but a_figures a_all a_lies a_since v_last v_state) c0) n 0 0 := by
  unfold fX12_bribed_L46 at hf
  refine E.ldc2 dX12_bribed_46 kX12_221 ?_
  cases hf
  exact E.lret dX12_bribed_49 (Nat.le_refl _) (Nat.le_refl _) (pD_rf _ _ _)
def fX12_bribed (Fu : Nat) (v_thrown : Int32) (a_row : Nat → Int32) (v_law : Int32) (a_set : Nat → Int64) (a_rest : Nat → Int64) (v_broken : Int32) (v_value : Int64) (v_sum : Int64) (a_chances : Nat → Int32) (a_votes : Nat → Int64) (a_costs : Nat → Int32) (a_prices : Nat → Int32) (x1 : Int32) (x2 : Int32) : Option (Int64 × Int32 × Int32 × (Nat → Int64) × (Nat → Int64) × Int32 × Int64 × Int64 × (Nat → Int32) × (Nat → Int64) × (Nat → Int32) × (Nat → Int32)) := (fX12_layBribes Fu a_row v_law a_set a_rest v_broken v_value v_sum a_chances a_costs a_prices).bind fun r1 => ((fX12_can a_row r1.2.2.2.2.2.2.2.1 0 x1).bind fun r2 => (if (r2 : Int32) = 0 then (fX12_bribed_L46 Fu 0 a_row r1.1 r1.2.1 r1.2.2.1 r1.2.2.2.1 r1.2.2.2.2.1 r1.2.2.2.2.2.1 r1.2.2.2.2.2.2.1 a_votes r1.2.2.2.2.2.2.2.1 r1.2.2.2.2.2.2.2.2) else ((fX12_can a_row r1.2.2.2.2.2.2.2.1 1 x2).bind fun r3 => (if (r3 : Int32) = 0 then (fX12_bribed_L46 Fu 0 a_row r1.1 r1.2.1 r1.2.2.1 r1.2.2.2.1 r1.2.2.2.2.1 r1.2.2.2.2.2.1 r1.2.2.2.2.2.2.1 a_votes r1.2.2.2.2.2.2.2.1 r1.2.2.2.2.2.2.2.2) else (gd 4 5570 ((fX12_quota a_row).bind fun r5 => ((fX12_wins Fu a_row r1.2.2.2.2.2.2.1 a_votes (a_row (4 : Int32).toNatClampNeg) x1 x2 r5).bind fun r6 => (some (r6.1, 0, r1.1, r1.2.1, r1.2.2.1, r1.2.2.2.1, r1.2.2.2.2.1, r1.2.2.2.2.2.1, r1.2.2.2.2.2.2.1, r6.2, r1.2.2.2.2.2.2.2.1, r1.2.2.2.2.2.2.2.2)))))))))
set_option maxHeartbeats 4000000 in
set_option maxRecDepth 100000 in
theorem tX12_bribed {G : GT} {b : Nat} {o : Nat} {c0 : Hp} {n : Nat} (hw : e_wf (kM o) n) {v_status : Int32} {a_refusals : Nat → Int32} {a_images : Nat → Int32} {a_isKept : Nat → Int32} {a_tape : Nat → Int32} {v_taped : Int32} {v_from : Int32} {v_to : Int32} {v_sort : Int32} {v_worth : Int64} {v_fault : Int32} {v_bad : Int32} {v_nClauses : Int32} {a_nClause : Nat → Int32} {v_nCode : Int32} {a_nOp : Nat → Int32} {a_nArg : Nat → Int32} {v_nLeaves : Int32} {a_pile : Nat → Int32} {a_pileAt : Nat → Int32} {v_piled : Int32} {v_opened : Int32} {a_words : Nat → Int64} {a_headWords : Nat → Int64} {a_table : Nat → Int64} {v_surely : Int64} {a_mostBy : Nat → Int64} {a_leastBy : Nat → Int64} {v_between : Int64} {v_steadyWays : Int32} {v_quashed : Int32} {v_but : Int32} {a_figures : Nat → Int32} {a_all : Nat → Int32} {a_lies : Nat → Int32} {a_since : Nat → Int32} {v_last : Int32} {v_state : Int64} {Fu : Nat} {v_thrown : Int32} {a_row : Nat → Int32} {v_law : Int32} {a_set : Nat → Int64} {a_rest : Nat → Int64} {v_broken : Int32} {v_value : Int64} {v_sum : Int64} {a_chances : Nat → Int32} {a_votes : Nat → Int64} {a_costs : Nat → Int32} {a_prices : Nat → Int32} {x1 : Int32} {x2 : Int32} {R : Int64 × Int32 × Int32 × (Nat → Int64) × (Nat → Int64) × Int32 × Int64 × Int64 × (Nat → Int32) × (Nat → Int64) × (Nat → Int32) × (Nat → Int32)} (hf : fX12_bribed Fu v_thrown a_row v_law a_set a_rest v_broken v_value v_sum a_chances a_votes a_costs a_prices x1 x2 = some R) : E G b yX12_bribed cX12_bribed 3 (some .long) (e_rm 8 0 0) e_X0 (e_Z G b (pD (some (.long R.1)) (e_ov (kM o) (wM G b o R.2.1 v_status a_refusals a_row a_images a_isKept a_tape v_taped v_from v_to v_sort v_worth v_fault v_bad v_nClauses a_nClause v_nCode a_nOp a_nArg v_nLeaves a_pile a_pileAt v_piled v_opened a_words a_headWords R.2.2.1 R.2.2.2.1 R.2.2.2.2.1 R.2.2.2.2.2.1 R.2.2.2.2.2.2.1 R.2.2.2.2.2.2.2.1 R.2.2.2.2.2.2.2.2.1 R.2.2.2.2.2.2.2.2.2.1 R.2.2.2.2.2.2.2.2.2.2.1 a_table R.2.2.2.2.2.2.2.2.2.2.2 v_surely a_mostBy a_leastBy v_between v_steadyWays v_quashed v_but a_figures a_all a_lies a_since v_last v_state) c0) n) 0 0) 0 [(0, .ref (b + o)), (1, .int x1), (2, .int x2)] [] (e_ov (kM o) (wM G b o v_thrown v_status a_refusals a_row a_images a_isKept a_tape v_taped v_from v_to v_sort v_worth v_fault v_bad v_nClauses a_nClause v_nCode a_nOp a_nArg v_nLeaves a_pile a_pileAt v_piled v_opened a_words a_headWords v_law a_set a_rest v_broken v_value v_sum a_chances a_votes a_costs a_table a_prices v_surely a_mostBy a_leastBy v_between v_steadyWays v_quashed v_but a_figures a_all a_lies a_since v_last v_state) c0) n 0 0 := by
  unfold fX12_bribed at hf
  refine E.aload_n 0 dX12_bribed_0 rfl ?_
  refine E.iconst (v := 0) dX12_bribed_1 (by decide) ?_
  refine E.put (es' := (wM G b o 0 v_status a_refusals a_row a_images a_isKept a_tape v_taped v_from v_to v_sort v_worth v_fault v_bad v_nClauses a_nClause v_nCode a_nOp a_nArg v_nLeaves a_pile a_pileAt v_piled v_opened a_words a_headWords v_law a_set a_rest v_broken v_value v_sum a_chances a_votes a_costs a_table a_prices v_surely a_mostBy a_leastBy v_between v_steadyWays v_quashed v_but a_figures a_all a_lies a_since v_last v_state)) hw 0 o dX12_bribed_2 flX12_124 ftX12 rfl rfl rfl rfl rfl rfl (Nat.le_of_ble_eq_true rfl) rfl ?_
  refine E.aload_n 0 dX12_bribed_5 rfl ?_
  obtain ⟨r1, hc1, hf⟩ := e_bind hf
  refine E.callVD [] dX12_bribed_6 mlX12_401 ⟨hw.sub (p := 0) rfl, e_ov_get hw.1 (p := 0) rfl rfl⟩ rfl rfl (mX12_layBribes hw hc1) ⟨Nat.le_of_ble_eq_true rfl, Nat.le_of_ble_eq_true rfl⟩ rfl rfl (Nat.le_of_ble_eq_true rfl) ⟨Nat.le_refl _, Nat.le_refl _⟩ rfl ?_
  refine E.aload_n 0 dX12_bribed_9 rfl ?_
  refine E.iconst (v := 0) dX12_bribed_10 (by decide) ?_
  refine E.iload_n 1 dX12_bribed_11 rfl ?_
  obtain ⟨r2, hc2, hf⟩ := e_bind hf
  refine E.callVD [] dX12_bribed_12 mlX12_404 ⟨hw.sub (p := 0) rfl, e_ov_get hw.1 (p := 0) rfl rfl⟩ rfl rfl (mX12_can hw hc2) ⟨Nat.le_of_ble_eq_true rfl, Nat.le_of_ble_eq_true rfl⟩ rfl rfl (Nat.le_of_ble_eq_true rfl) ⟨Nat.le_refl _, Nat.le_refl _⟩ rfl ?_
  refine E.if_eq dX12_bribed_15 (fun h => ?_) (fun h => ?_)
  · have hf := e_ift hf h
    refine E.locals [] rfl ?_
    exact tX12_bribed_L46 hw hf
  · have hf := e_iff hf h
    refine E.aload_n 0 dX12_bribed_18 rfl ?_
    refine E.iconst (v := 1) dX12_bribed_19 (by decide) ?_
    refine E.iload_n 2 dX12_bribed_20 rfl ?_
    obtain ⟨r3, hc3, hf⟩ := e_bind hf
    refine E.callVD [] dX12_bribed_21 mlX12_404 ⟨hw.sub (p := 0) rfl, e_ov_get hw.1 (p := 0) rfl rfl⟩ rfl rfl (mX12_can hw hc3) ⟨Nat.le_of_ble_eq_true rfl, Nat.le_of_ble_eq_true rfl⟩ rfl rfl (Nat.le_of_ble_eq_true rfl) ⟨Nat.le_refl _, Nat.le_refl _⟩ rfl ?_
    refine E.if_eq dX12_bribed_24 (fun h => ?_) (fun h => ?_)
    · have hf := e_ift hf h
      refine E.locals [] rfl ?_
      exact tX12_bribed_L46 hw hf
    · have hf := e_iff hf h
      refine E.aload_n 0 dX12_bribed_27 rfl ?_
      refine E.aload_n 0 dX12_bribed_28 rfl ?_
      refine E.get hw 0 o dX12_bribed_29 flX12_13 rfl rfl rfl rfl ?_
      refine E.iconst (v := 4) dX12_bribed_32 (by decide) ?_
      obtain ⟨g4, hf⟩ := gd_some hf
      refine E.iald hw 2 (o + 2) dX12_bribed_33 rfl rfl g4 ?_
      refine E.iload_n 1 dX12_bribed_34 rfl ?_
      refine E.iload_n 2 dX12_bribed_35 rfl ?_
      refine E.aload_n 0 dX12_bribed_36 rfl ?_
      obtain ⟨r5, hc5, hf⟩ := e_bind hf
      refine E.callVD [.int x2, .int x1, .int (a_row (4 : Int32).toNatClampNeg), .ref (b + o)] dX12_bribed_37 mlX12_377 ⟨hw.sub (p := 0) rfl, e_ov_get hw.1 (p := 0) rfl rfl⟩ rfl rfl (mX12_quota hw hc5) ⟨Nat.le_of_ble_eq_true rfl, Nat.le_of_ble_eq_true rfl⟩ rfl rfl (Nat.le_of_ble_eq_true rfl) ⟨Nat.le_refl _, Nat.le_refl _⟩ rfl ?_
      obtain ⟨r6, hc6, hf⟩ := e_bind hf
      refine E.callVD [] dX12_bribed_40 mlX12_380 ⟨hw.sub (p := 0) rfl, e_ov_get hw.1 (p := 0) rfl rfl⟩ rfl rfl (mX12_wins hw hc6) ⟨Nat.le_of_ble_eq_true rfl, Nat.le_of_ble_eq_true rfl⟩ rfl rfl (Nat.le_of_ble_eq_true rfl) ⟨Nat.le_refl _, Nat.le_refl _⟩ rfl ?_
      refine E.goto dX12_bribed_43 ?_
      cases hf
      exact E.lret dX12_bribed_49 (Nat.le_refl _) (Nat.le_refl _) (pD_rf _ _ _)
set_option maxRecDepth 100000 in
theorem mX12_bribed {G : GT} {b : Nat} {o : Nat} {c0 : Hp} {n : Nat} (hw : e_wf (kM o) n) {v_status : Int32} {a_refusals : Nat → Int32} {a_images : Nat → Int32} {a_isKept : Nat → Int32} {a_tape : Nat → Int32} {v_taped : Int32} {v_from : Int32} {v_to : Int32} {v_sort : Int32} {v_worth : Int64} {v_fault : Int32} {v_bad : Int32} {v_nClauses : Int32} {a_nClause : Nat → Int32} {v_nCode : Int32} {a_nOp : Nat → Int32} {a_nArg : Nat → Int32} {v_nLeaves : Int32} {a_pile : Nat → Int32} {a_pileAt : Nat → Int32} {v_piled : Int32} {v_opened : Int32} {a_words : Nat → Int64} {a_headWords : Nat → Int64} {a_table : Nat → Int64} {v_surely : Int64} {a_mostBy : Nat → Int64} {a_leastBy : Nat → Int64} {v_between : Int64} {v_steadyWays : Int32} {v_quashed : Int32} {v_but : Int32} {a_figures : Nat → Int32} {a_all : Nat → Int32} {a_lies : Nat → Int32} {a_since : Nat → Int32} {v_last : Int32} {v_state : Int64} {Fu : Nat} {v_thrown : Int32} {a_row : Nat → Int32} {v_law : Int32} {a_set : Nat → Int64} {a_rest : Nat → Int64} {v_broken : Int32} {v_value : Int64} {v_sum : Int64} {a_chances : Nat → Int32} {a_votes : Nat → Int64} {a_costs : Nat → Int32} {a_prices : Nat → Int32} {x1 : Int32} {x2 : Int32} {R : Int64 × Int32 × Int32 × (Nat → Int64) × (Nat → Int64) × Int32 × Int64 × Int64 × (Nat → Int32) × (Nat → Int64) × (Nat → Int32) × (Nat → Int32)} (hf : fX12_bribed Fu v_thrown a_row v_law a_set a_rest v_broken v_value v_sum a_chances a_votes a_costs a_prices x1 x2 = some R) : e_C G b yX12_bribed cX12_bribed 3 (some .long) 8 0 0 [.ref (b + o), .int x1, .int x2] (e_ov (kM o) (wM G b o v_thrown v_status a_refusals a_row a_images a_isKept a_tape v_taped v_from v_to v_sort v_worth v_fault v_bad v_nClauses a_nClause v_nCode a_nOp a_nArg v_nLeaves a_pile a_pileAt v_piled v_opened a_words a_headWords v_law a_set a_rest v_broken v_value v_sum a_chances a_votes a_costs a_table a_prices v_surely a_mostBy a_leastBy v_between v_steadyWays v_quashed v_but a_figures a_all a_lies a_since v_last v_state) c0) n (pD (some (.long R.1)) (e_ov (kM o) (wM G b o R.2.1 v_status a_refusals a_row a_images a_isKept a_tape v_taped v_from v_to v_sort v_worth v_fault v_bad v_nClauses a_nClause v_nCode a_nOp a_nArg v_nLeaves a_pile a_pileAt v_piled v_opened a_words a_headWords R.2.2.1 R.2.2.2.1 R.2.2.2.2.1 R.2.2.2.2.2.1 R.2.2.2.2.2.2.1 R.2.2.2.2.2.2.2.1 R.2.2.2.2.2.2.2.2.1 R.2.2.2.2.2.2.2.2.2.1 R.2.2.2.2.2.2.2.2.2.2.1 a_table R.2.2.2.2.2.2.2.2.2.2.2 v_surely a_mostBy a_leastBy v_between v_steadyWays v_quashed v_but a_figures a_all a_lies a_since v_last v_state) c0) n) := e_C.of (by decide) (Nat.le_of_ble_eq_true rfl) (tX12_bribed hw hf)
def fX12_isBetter_L77 (a_costs : Nat → Int32) : Option (Int32) := some (0)
set_option maxHeartbeats 4000000 in
set_option maxRecDepth 100000 in
theorem tX12_isBetter_L77 {G : GT} {b : Nat} {o : Nat} {c0 : Hp} {n : Nat} (hw : e_wf (kM o) n) {v_thrown : Int32} {v_status : Int32} {a_refusals : Nat → Int32} {a_row : Nat → Int32} {a_images : Nat → Int32} {a_isKept : Nat → Int32} {a_tape : Nat → Int32} {v_taped : Int32} {v_from : Int32} {v_to : Int32} {v_sort : Int32} {v_worth : Int64} {v_fault : Int32} {v_bad : Int32} {v_nClauses : Int32} {a_nClause : Nat → Int32} {v_nCode : Int32} {a_nOp : Nat → Int32} {a_nArg : Nat → Int32} {v_nLeaves : Int32} {a_pile : Nat → Int32} {a_pileAt : Nat → Int32} {v_piled : Int32} {v_opened : Int32} {a_words : Nat → Int64} {a_headWords : Nat → Int64} {v_law : Int32} {a_set : Nat → Int64} {a_rest : Nat → Int64} {v_broken : Int32} {v_value : Int64} {v_sum : Int64} {a_chances : Nat → Int32} {a_votes : Nat → Int64} {a_table : Nat → Int64} {a_prices : Nat → Int32} {v_surely : Int64} {a_mostBy : Nat → Int64} {a_leastBy : Nat → Int64} {v_between : Int64} {v_steadyWays : Int32} {v_quashed : Int32} {v_but : Int32} {a_figures : Nat → Int32} {a_all : Nat → Int32} {a_lies : Nat → Int32} {a_since : Nat → Int32} {v_last : Int32} {v_state : Int64} {a_costs : Nat → Int32} {R : Int32} (hf : fX12_isBetter_L77 a_costs = some R) : E G b yX12_isBetter cX12_isBetter 11 (some .boolean) (e_rm 0 0 0) e_X0 (e_Z G b (pD (some (.int R)) (e_ov (kM o) (wM G b o v_thrown v_status a_refusals a_row a_images a_isKept a_tape v_taped v_from v_to v_sort v_worth v_fault v_bad v_nClauses a_nClause v_nCode a_nOp a_nArg v_nLeaves a_pile a_pileAt v_piled v_opened a_words a_headWords v_law a_set a_rest v_broken v_value v_sum a_chances a_votes a_costs a_table a_prices v_surely a_mostBy a_leastBy v_between v_steadyWays v_quashed v_but a_figures a_all a_lies a_since v_last v_state) c0) n) 0 0) 77 [] [] (e_ov (kM o) (wM G b o v_thrown v_status a_refusals a_row a_images a_isKept a_tape v_taped v_from v_to v_sort v_worth v_fault v_bad v_nClauses a_nClause v_nCode a_nOp a_nArg v_nLeaves a_pile a_pileAt v_piled v_opened a_words a_headWords v_law a_set a_rest v_broken v_value v_sum a_chances a_votes a_costs a_table a_prices v_surely a_mostBy a_leastBy v_between v_steadyWays v_quashed v_but a_figures a_all a_lies a_since v_last v_state) c0) n 0 0 := by
  unfold fX12_isBetter_L77 at hf
  refine E.iconst (v := 0) dX12_isBetter_77 (by decide) ?_
  cases hf
  exact E.zret dX12_isBetter_78 rfl (Nat.le_refl _) (Nat.le_refl _) (pD_rf _ _ _)
def fX12_isBetter_L23 (a_costs : Nat → Int32) (x1 : Int32) (x4 : Int32) (x7 : Int32) (s0 : Int64) : Option (Int32) := gd ((256 * x1) + x7) 512 (gd ((256 * x1) + x4) 512 (if 0 < s0 then (some (1)) else (if s0 = 0 then (if (((a_costs (((256 * x1) + x7) : Int32).toNatClampNeg) - (a_costs (((256 * x1) + x4) : Int32).toNatClampNeg)) : Int32) ≤ 0 then (fX12_isBetter_L77 a_costs) else (some (1))) else (fX12_isBetter_L77 a_costs))))
set_option maxHeartbeats 4000000 in
set_option maxRecDepth 100000 in
theorem tX12_isBetter_L23 {G : GT} {b : Nat} {o : Nat} {c0 : Hp} {n : Nat} (hw : e_wf (kM o) n) {v_thrown : Int32} {v_status : Int32} {a_refusals : Nat → Int32} {a_row : Nat → Int32} {a_images : Nat → Int32} {a_isKept : Nat → Int32} {a_tape : Nat → Int32} {v_taped : Int32} {v_from : Int32} {v_to : Int32} {v_sort : Int32} {v_worth : Int64} {v_fault : Int32} {v_bad : Int32} {v_nClauses : Int32} {a_nClause : Nat → Int32} {v_nCode : Int32} {a_nOp : Nat → Int32} {a_nArg : Nat → Int32} {v_nLeaves : Int32} {a_pile : Nat → Int32} {a_pileAt : Nat → Int32} {v_piled : Int32} {v_opened : Int32} {a_words : Nat → Int64} {a_headWords : Nat → Int64} {v_law : Int32} {a_set : Nat → Int64} {a_rest : Nat → Int64} {v_broken : Int32} {v_value : Int64} {v_sum : Int64} {a_chances : Nat → Int32} {a_votes : Nat → Int64} {a_table : Nat → Int64} {a_prices : Nat → Int32} {v_surely : Int64} {a_mostBy : Nat → Int64} {a_leastBy : Nat → Int64} {v_between : Int64} {v_steadyWays : Int32} {v_quashed : Int32} {v_but : Int32} {a_figures : Nat → Int32} {a_all : Nat → Int32} {a_lies : Nat → Int32} {a_since : Nat → Int32} {v_last : Int32} {v_state : Int64} {a_costs : Nat → Int32} {x1 : Int32} {x4 : Int32} {x7 : Int32} {s0 : Int64} {R : Int32} (hf : fX12_isBetter_L23 a_costs x1 x4 x7 s0 = some R) : E G b yX12_isBetter cX12_isBetter 11 (some .boolean) (e_rm 0 0 0) e_X0 (e_Z G b (pD (some (.int R)) (e_ov (kM o) (wM G b o v_thrown v_status a_refusals a_row a_images a_isKept a_tape v_taped v_from v_to v_sort v_worth v_fault v_bad v_nClauses a_nClause v_nCode a_nOp a_nArg v_nLeaves a_pile a_pileAt v_piled v_opened a_words a_headWords v_law a_set a_rest v_broken v_value v_sum a_chances a_votes a_costs a_table a_prices v_surely a_mostBy a_leastBy v_between v_steadyWays v_quashed v_but a_figures a_all a_lies a_since v_last v_state) c0) n) 0 0) 23 [(0, .ref (b + o)), (1, .int x1), (4, .int x4), (7, .int x7)] [.long s0] (e_ov (kM o) (wM G b o v_thrown v_status a_refusals a_row a_images a_isKept a_tape v_taped v_from v_to v_sort v_worth v_fault v_bad v_nClauses a_nClause v_nCode a_nOp a_nArg v_nLeaves a_pile a_pileAt v_piled v_opened a_words a_headWords v_law a_set a_rest v_broken v_value v_sum a_chances a_votes a_costs a_table a_prices v_surely a_mostBy a_leastBy v_between v_steadyWays v_quashed v_but a_figures a_all a_lies a_since v_last v_state) c0) n 0 0 := by
  unfold fX12_isBetter_L23 at hf
  refine E.lstore (lv' := [(8, .long s0), (0, .ref (b + o)), (1, .int x1), (4, .int x4), (7, .int x7)]) dX12_isBetter_23 (by decide) rfl ?_
  refine E.aload_n 1 dX12_isBetter_25 rfl ?_
  refine E.get hw 0 o dX12_isBetter_26 flX12_90 rfl rfl rfl rfl ?_
  refine E.sipush (v := 256) dX12_isBetter_29 (by decide) ?_
  refine E.iload_n 2 dX12_isBetter_32 rfl ?_
  refine E.imul dX12_isBetter_33 ?_
  refine E.iload 4 dX12_isBetter_34 rfl ?_
  refine E.iadd dX12_isBetter_36 ?_
  obtain ⟨g1, hf⟩ := gd_some hf
  refine E.iald hw 17 (o + 17) dX12_isBetter_37 rfl rfl g1 ?_
  refine E.aload_n 1 dX12_isBetter_38 rfl ?_
  refine E.get hw 0 o dX12_isBetter_39 flX12_90 rfl rfl rfl rfl ?_
  refine E.sipush (v := 256) dX12_isBetter_42 (by decide) ?_
  refine E.iload_n 2 dX12_isBetter_45 rfl ?_
  refine E.imul dX12_isBetter_46 ?_
  refine E.iload 3 dX12_isBetter_47 rfl ?_
  refine E.iadd dX12_isBetter_49 ?_
  obtain ⟨g2, hf⟩ := gd_some hf
  refine E.iald hw 17 (o + 17) dX12_isBetter_50 rfl rfl g2 ?_
  refine E.isub dX12_isBetter_51 ?_
  refine E.istore (lv' := [(10, .int ((a_costs (((256 * x1) + x7) : Int32).toNatClampNeg) - (a_costs (((256 * x1) + x4) : Int32).toNatClampNeg))), (8, .long s0), (0, .ref (b + o)), (1, .int x1), (4, .int x4), (7, .int x7)]) dX12_isBetter_52 (by decide) rfl ?_
  refine E.lload 1 dX12_isBetter_54 rfl ?_
  refine E.lconst (v := 0) dX12_isBetter_56 (by decide) ?_
  refine E.lc_gt dX12_isBetter_57 dX12_isBetter_58 (fun h => ?_) (fun h => ?_)
  · have hf := e_ift hf h
    refine E.iconst (v := 1) dX12_isBetter_73 (by decide) ?_
    refine E.goto dX12_isBetter_74 ?_
    cases hf
    exact E.zret dX12_isBetter_78 rfl (Nat.le_refl _) (Nat.le_refl _) (pD_rf _ _ _)
  · have hf := e_iff hf h
    refine E.lload 1 dX12_isBetter_61 rfl ?_
    refine E.lconst (v := 0) dX12_isBetter_63 (by decide) ?_
    refine E.lc_ne dX12_isBetter_64 dX12_isBetter_65 (fun h => ?_) (fun h => ?_)
    · have hf := e_iff hf h
      refine E.locals [] rfl ?_
      exact tX12_isBetter_L77 hw hf
    · have hf := e_ift hf h
      refine E.iload 0 dX12_isBetter_68 rfl ?_
      refine E.if_le dX12_isBetter_70 (fun h => ?_) (fun h => ?_)
      · have hf := e_ift hf h
        refine E.locals [] rfl ?_
        exact tX12_isBetter_L77 hw hf
      · have hf := e_iff hf h
        refine E.iconst (v := 1) dX12_isBetter_73 (by decide) ?_
        refine E.goto dX12_isBetter_74 ?_
        cases hf
        exact E.zret dX12_isBetter_78 rfl (Nat.le_refl _) (Nat.le_refl _) (pD_rf _ _ _)
def fX12_isBetter (a_costs : Nat → Int32) (x1 : Int32) (x2 : Int64) (x4 : Int32) (x5 : Int64) (x7 : Int32) : Option (Int32) := if (x7 : Int32) = ((-1 : Int32) : Int32) then (some (1)) else (if (x1 : Int32) = 0 then (fX12_isBetter_L23 a_costs x1 x4 x7 (x2 - x5)) else (fX12_isBetter_L23 a_costs x1 x4 x7 (x5 - x2)))
set_option maxHeartbeats 4000000 in
set_option maxRecDepth 100000 in
theorem tX12_isBetter {G : GT} {b : Nat} {o : Nat} {c0 : Hp} {n : Nat} (hw : e_wf (kM o) n) {v_thrown : Int32} {v_status : Int32} {a_refusals : Nat → Int32} {a_row : Nat → Int32} {a_images : Nat → Int32} {a_isKept : Nat → Int32} {a_tape : Nat → Int32} {v_taped : Int32} {v_from : Int32} {v_to : Int32} {v_sort : Int32} {v_worth : Int64} {v_fault : Int32} {v_bad : Int32} {v_nClauses : Int32} {a_nClause : Nat → Int32} {v_nCode : Int32} {a_nOp : Nat → Int32} {a_nArg : Nat → Int32} {v_nLeaves : Int32} {a_pile : Nat → Int32} {a_pileAt : Nat → Int32} {v_piled : Int32} {v_opened : Int32} {a_words : Nat → Int64} {a_headWords : Nat → Int64} {v_law : Int32} {a_set : Nat → Int64} {a_rest : Nat → Int64} {v_broken : Int32} {v_value : Int64} {v_sum : Int64} {a_chances : Nat → Int32} {a_votes : Nat → Int64} {a_table : Nat → Int64} {a_prices : Nat → Int32} {v_surely : Int64} {a_mostBy : Nat → Int64} {a_leastBy : Nat → Int64} {v_between : Int64} {v_steadyWays : Int32} {v_quashed : Int32} {v_but : Int32} {a_figures : Nat → Int32} {a_all : Nat → Int32} {a_lies : Nat → Int32} {a_since : Nat → Int32} {v_last : Int32} {v_state : Int64} {a_costs : Nat → Int32} {x1 : Int32} {x2 : Int64} {x4 : Int32} {x5 : Int64} {x7 : Int32} {R : Int32} (hf : fX12_isBetter a_costs x1 x2 x4 x5 x7 = some R) : E G b yX12_isBetter cX12_isBetter 11 (some .boolean) (e_rm 0 0 0) e_X0 (e_Z G b (pD (some (.int R)) (e_ov (kM o) (wM G b o v_thrown v_status a_refusals a_row a_images a_isKept a_tape v_taped v_from v_to v_sort v_worth v_fault v_bad v_nClauses a_nClause v_nCode a_nOp a_nArg v_nLeaves a_pile a_pileAt v_piled v_opened a_words a_headWords v_law a_set a_rest v_broken v_value v_sum a_chances a_votes a_costs a_table a_prices v_surely a_mostBy a_leastBy v_between v_steadyWays v_quashed v_but a_figures a_all a_lies a_since v_last v_state) c0) n) 0 0) 0 [(0, .ref (b + o)), (1, .int x1), (2, .long x2), (4, .int x4), (5, .long x5), (7, .int x7)] [] (e_ov (kM o) (wM G b o v_thrown v_status a_refusals a_row a_images a_isKept a_tape v_taped v_from v_to v_sort v_worth v_fault v_bad v_nClauses a_nClause v_nCode a_nOp a_nArg v_nLeaves a_pile a_pileAt v_piled v_opened a_words a_headWords v_law a_set a_rest v_broken v_value v_sum a_chances a_votes a_costs a_table a_prices v_surely a_mostBy a_leastBy v_between v_steadyWays v_quashed v_but a_figures a_all a_lies a_since v_last v_state) c0) n 0 0 := by
  unfold fX12_isBetter at hf
  refine E.iload 5 dX12_isBetter_0 rfl ?_
  refine E.iconst (v := -1) dX12_isBetter_2 (by decide) ?_
  refine E.icmp_ne dX12_isBetter_3 (fun h => ?_) (fun h => ?_)
  · have hf := e_iff hf h
    refine E.iload_n 1 dX12_isBetter_8 rfl ?_
    refine E.if_ne dX12_isBetter_9 (fun h => ?_) (fun h => ?_)
    · have hf := e_iff hf h
      refine E.lload 4 dX12_isBetter_19 rfl ?_
      refine E.lload_n 2 dX12_isBetter_21 rfl ?_
      refine E.lsub dX12_isBetter_22 ?_
      refine E.locals [0, 1, 3, 5] rfl ?_
      exact tX12_isBetter_L23 hw hf
    · have hf := e_ift hf h
      refine E.lload_n 2 dX12_isBetter_12 rfl ?_
      refine E.lload 4 dX12_isBetter_13 rfl ?_
      refine E.lsub dX12_isBetter_15 ?_
      refine E.goto dX12_isBetter_16 ?_
      refine E.locals [0, 1, 3, 5] rfl ?_
      exact tX12_isBetter_L23 hw hf
  · have hf := e_ift hf h
    refine E.iconst (v := 1) dX12_isBetter_6 (by decide) ?_
    cases hf
    exact E.zret dX12_isBetter_7 rfl (Nat.le_refl _) (Nat.le_refl _) (pD_rf _ _ _)
set_option maxRecDepth 100000 in
theorem mX12_isBetter {G : GT} {b : Nat} {o : Nat} {c0 : Hp} {n : Nat} (hw : e_wf (kM o) n) {v_thrown : Int32} {v_status : Int32} {a_refusals : Nat → Int32} {a_row : Nat → Int32} {a_images : Nat → Int32} {a_isKept : Nat → Int32} {a_tape : Nat → Int32} {v_taped : Int32} {v_from : Int32} {v_to : Int32} {v_sort : Int32} {v_worth : Int64} {v_fault : Int32} {v_bad : Int32} {v_nClauses : Int32} {a_nClause : Nat → Int32} {v_nCode : Int32} {a_nOp : Nat → Int32} {a_nArg : Nat → Int32} {v_nLeaves : Int32} {a_pile : Nat → Int32} {a_pileAt : Nat → Int32} {v_piled : Int32} {v_opened : Int32} {a_words : Nat → Int64} {a_headWords : Nat → Int64} {v_law : Int32} {a_set : Nat → Int64} {a_rest : Nat → Int64} {v_broken : Int32} {v_value : Int64} {v_sum : Int64} {a_chances : Nat → Int32} {a_votes : Nat → Int64} {a_table : Nat → Int64} {a_prices : Nat → Int32} {v_surely : Int64} {a_mostBy : Nat → Int64} {a_leastBy : Nat → Int64} {v_between : Int64} {v_steadyWays : Int32} {v_quashed : Int32} {v_but : Int32} {a_figures : Nat → Int32} {a_all : Nat → Int32} {a_lies : Nat → Int32} {a_since : Nat → Int32} {v_last : Int32} {v_state : Int64} {a_costs : Nat → Int32} {x1 : Int32} {x2 : Int64} {x4 : Int32} {x5 : Int64} {x7 : Int32} {R : Int32} (hf : fX12_isBetter a_costs x1 x2 x4 x5 x7 = some R) : e_C G b yX12_isBetter cX12_isBetter 11 (some .boolean) 0 0 0 [.ref (b + o), .int x1, .long x2, .int x4, .long x5, .int x7] (e_ov (kM o) (wM G b o v_thrown v_status a_refusals a_row a_images a_isKept a_tape v_taped v_from v_to v_sort v_worth v_fault v_bad v_nClauses a_nClause v_nCode a_nOp a_nArg v_nLeaves a_pile a_pileAt v_piled v_opened a_words a_headWords v_law a_set a_rest v_broken v_value v_sum a_chances a_votes a_costs a_table a_prices v_surely a_mostBy a_leastBy v_between v_steadyWays v_quashed v_but a_figures a_all a_lies a_since v_last v_state) c0) n (pD (some (.int R)) (e_ov (kM o) (wM G b o v_thrown v_status a_refusals a_row a_images a_isKept a_tape v_taped v_from v_to v_sort v_worth v_fault v_bad v_nClauses a_nClause v_nCode a_nOp a_nArg v_nLeaves a_pile a_pileAt v_piled v_opened a_words a_headWords v_law a_set a_rest v_broken v_value v_sum a_chances a_votes a_costs a_table a_prices v_surely a_mostBy a_leastBy v_between v_steadyWays v_quashed v_but a_figures a_all a_lies a_since v_last v_state) c0) n) := e_C.of (by decide) (Nat.le_of_ble_eq_true rfl) (tX12_isBetter hw hf)
def fX12_replyTo_L67 (Fu : Nat) (k8 : (Nat → Int32) → (Nat → Int32) → (Nat → Int64) → (Nat → Int32) → Int32 → Int32 → Int32 → Int64 → Int32 → Option (Int32 × (Nat → Int64))) (a_row : Nat → Int32) (a_chances : Nat → Int32) (a_votes : Nat → Int64) (a_costs : Nat → Int32) (x1 : Int32) (x2 : Int32) (x3 : Int32) (x4 : Int64) (x6 : Int32) (s0 : Int64) : Option (Int32 × (Nat → Int64)) := (fX12_isBetter a_costs x1 s0 x6 x4 x3).bind fun r8 => (if (r8 : Int32) = 0 then (k8 a_row a_chances a_votes a_costs x1 x2 x3 x4 (x6 + 1)) else (k8 a_row a_chances a_votes a_costs x1 x2 x6 s0 (x6 + 1)))
set_option maxHeartbeats 4000000 in
set_option maxRecDepth 100000 in
theorem tX12_replyTo_L67 {G : GT} {b : Nat} {o : Nat} {c0 : Hp} {n : Nat} (hw : e_wf (kM o) n) {v_thrown : Int32} {v_status : Int32} {a_refusals : Nat → Int32} {a_images : Nat → Int32} {a_isKept : Nat → Int32} {a_tape : Nat → Int32} {v_taped : Int32} {v_from : Int32} {v_to : Int32} {v_sort : Int32} {v_worth : Int64} {v_fault : Int32} {v_bad : Int32} {v_nClauses : Int32} {a_nClause : Nat → Int32} {v_nCode : Int32} {a_nOp : Nat → Int32} {a_nArg : Nat → Int32} {v_nLeaves : Int32} {a_pile : Nat → Int32} {a_pileAt : Nat → Int32} {v_piled : Int32} {v_opened : Int32} {a_words : Nat → Int64} {a_headWords : Nat → Int64} {v_law : Int32} {a_set : Nat → Int64} {a_rest : Nat → Int64} {v_broken : Int32} {v_value : Int64} {v_sum : Int64} {a_table : Nat → Int64} {a_prices : Nat → Int32} {v_surely : Int64} {a_mostBy : Nat → Int64} {a_leastBy : Nat → Int64} {v_between : Int64} {v_steadyWays : Int32} {v_quashed : Int32} {v_but : Int32} {a_figures : Nat → Int32} {a_all : Nat → Int32} {a_lies : Nat → Int32} {a_since : Nat → Int32} {v_last : Int32} {v_state : Int64} {Fu : Nat} {k8 : (Nat → Int32) → (Nat → Int32) → (Nat → Int64) → (Nat → Int32) → Int32 → Int32 → Int32 → Int64 → Int32 → Option (Int32 × (Nat → Int64))} (hk8 : ∀ {a_row : Nat → Int32} {a_chances : Nat → Int32} {a_votes : Nat → Int64} {a_costs : Nat → Int32} {x1 : Int32} {x2 : Int32} {x3 : Int32} {x4 : Int64} {x6 : Int32} {R : Int32 × (Nat → Int64)}, k8 a_row a_chances a_votes a_costs x1 x2 x3 x4 x6 = some R → E G b yX12_replyTo cX12_replyTo 9 (some .int) (e_rm 3 0 0) e_X0 (e_Z G b (pD (some (.int R.1)) (e_ov (kM o) (wM G b o v_thrown v_status a_refusals a_row a_images a_isKept a_tape v_taped v_from v_to v_sort v_worth v_fault v_bad v_nClauses a_nClause v_nCode a_nOp a_nArg v_nLeaves a_pile a_pileAt v_piled v_opened a_words a_headWords v_law a_set a_rest v_broken v_value v_sum a_chances R.2 a_costs a_table a_prices v_surely a_mostBy a_leastBy v_between v_steadyWays v_quashed v_but a_figures a_all a_lies a_since v_last v_state) c0) n) 0 0) 8 [(0, .ref (b + o)), (1, .int x1), (2, .int x2), (3, .int x3), (4, .long x4), (6, .int x6)] [] (e_ov (kM o) (wM G b o v_thrown v_status a_refusals a_row a_images a_isKept a_tape v_taped v_from v_to v_sort v_worth v_fault v_bad v_nClauses a_nClause v_nCode a_nOp a_nArg v_nLeaves a_pile a_pileAt v_piled v_opened a_words a_headWords v_law a_set a_rest v_broken v_value v_sum a_chances a_votes a_costs a_table a_prices v_surely a_mostBy a_leastBy v_between v_steadyWays v_quashed v_but a_figures a_all a_lies a_since v_last v_state) c0) n 0 0) {a_row : Nat → Int32} {a_chances : Nat → Int32} {a_votes : Nat → Int64} {a_costs : Nat → Int32} {x1 : Int32} {x2 : Int32} {x3 : Int32} {x4 : Int64} {x6 : Int32} {s0 : Int64} {R : Int32 × (Nat → Int64)} (hf : fX12_replyTo_L67 Fu k8 a_row a_chances a_votes a_costs x1 x2 x3 x4 x6 s0 = some R) : E G b yX12_replyTo cX12_replyTo 9 (some .int) (e_rm 3 0 0) e_X0 (e_Z G b (pD (some (.int R.1)) (e_ov (kM o) (wM G b o v_thrown v_status a_refusals a_row a_images a_isKept a_tape v_taped v_from v_to v_sort v_worth v_fault v_bad v_nClauses a_nClause v_nCode a_nOp a_nArg v_nLeaves a_pile a_pileAt v_piled v_opened a_words a_headWords v_law a_set a_rest v_broken v_value v_sum a_chances R.2 a_costs a_table a_prices v_surely a_mostBy a_leastBy v_between v_steadyWays v_quashed v_but a_figures a_all a_lies a_since v_last v_state) c0) n) 0 0) 67 [(0, .ref (b + o)), (1, .int x1), (2, .int x2), (3, .int x3), (4, .long x4), (6, .int x6)] [.long s0] (e_ov (kM o) (wM G b o v_thrown v_status a_refusals a_row a_images a_isKept a_tape v_taped v_from v_to v_sort v_worth v_fault v_bad v_nClauses a_nClause v_nCode a_nOp a_nArg v_nLeaves a_pile a_pileAt v_piled v_opened a_words a_headWords v_law a_set a_rest v_broken v_value v_sum a_chances a_votes a_costs a_table a_prices v_surely a_mostBy a_leastBy v_between v_steadyWays v_quashed v_but a_figures a_all a_lies a_since v_last v_state) c0) n 0 0 := by
  unfold fX12_replyTo_L67 at hf
  refine E.lstore (lv' := [(7, .long s0), (0, .ref (b + o)), (1, .int x1), (2, .int x2), (3, .int x3), (4, .long x4), (6, .int x6)]) dX12_replyTo_67 (by decide) rfl ?_
  refine E.aload_n 1 dX12_replyTo_69 rfl ?_
  refine E.iload_n 2 dX12_replyTo_70 rfl ?_
  refine E.lload 0 dX12_replyTo_71 rfl ?_
  refine E.iload 6 dX12_replyTo_73 rfl ?_
  refine E.lload 5 dX12_replyTo_75 rfl ?_
  refine E.iload_n 4 dX12_replyTo_77 rfl ?_
  obtain ⟨r8, hc8, hf⟩ := e_bind hf
  refine E.callVD [] dX12_replyTo_78 mlX12_407 ⟨hw.sub (p := 0) rfl, e_ov_get hw.1 (p := 0) rfl rfl⟩ rfl rfl (mX12_isBetter hw hc8) ⟨Nat.le_of_ble_eq_true rfl, Nat.le_of_ble_eq_true rfl⟩ rfl rfl (Nat.le_of_ble_eq_true rfl) ⟨Nat.le_refl _, Nat.le_refl _⟩ rfl ?_
  refine E.if_eq dX12_replyTo_81 (fun h => ?_) (fun h => ?_)
  · have hf := e_ift hf h
    refine E.iinc (q := 6) (v := (x6 + 1)) (lv' := [(6, .int (x6 + 1)), (7, .long s0), (0, .ref (b + o)), (1, .int x1), (2, .int x2), (3, .int x3), (4, .long x4)]) dX12_replyTo_91 rfl rfl (by decide) rfl ?_
    refine E.goto dX12_replyTo_94 ?_
    refine E.locals [2, 3, 4, 5, 6, 0] rfl ?_
    exact hk8 hf
  · have hf := e_iff hf h
    refine E.iload 6 dX12_replyTo_84 rfl ?_
    refine E.istore_n (lv' := [(3, .int x6), (7, .long s0), (0, .ref (b + o)), (1, .int x1), (2, .int x2), (4, .long x4), (6, .int x6)]) dX12_replyTo_86 (by decide) rfl ?_
    refine E.lload 1 dX12_replyTo_87 rfl ?_
    refine E.lstore (lv' := [(4, .long s0), (3, .int x6), (7, .long s0), (0, .ref (b + o)), (1, .int x1), (2, .int x2), (6, .int x6)]) dX12_replyTo_89 (by decide) rfl ?_
    refine E.iinc (q := 6) (v := (x6 + 1)) (lv' := [(6, .int (x6 + 1)), (4, .long s0), (3, .int x6), (7, .long s0), (0, .ref (b + o)), (1, .int x1), (2, .int x2)]) dX12_replyTo_91 rfl rfl (by decide) rfl ?_
    refine E.goto dX12_replyTo_94 ?_
    refine E.locals [4, 5, 6, 2, 1, 0] rfl ?_
    exact hk8 hf
def fX12_replyTo_L8 (Fu : Nat) : Nat → (Nat → Int32) → (Nat → Int32) → (Nat → Int64) → (Nat → Int32) → Int32 → Int32 → Int32 → Int64 → Int32 → Option (Int32 × (Nat → Int64))
  | 0, _, _, _, _, _, _, _, _, _ => none
  | k + 1, a_row, a_chances, a_votes, a_costs, x1, x2, x3, x4, x6 => if (256 : Int32) ≤ (x6 : Int32) then (some (x3, a_votes)) else ((fX12_can a_row a_costs x1 x6).bind fun r1 => (if (r1 : Int32) = 0 then ((fX12_replyTo_L8 Fu k) a_row a_chances a_votes a_costs x1 x2 x3 x4 (x6 + 1)) else (if (x1 : Int32) = 0 then (gd 4 5570 ((fX12_quota a_row).bind fun r6 => ((fX12_wins Fu a_row a_chances a_votes (a_row (4 : Int32).toNatClampNeg) x6 x2 r6).bind fun r7 => (fX12_replyTo_L67 Fu (fX12_replyTo_L8 Fu k) a_row a_chances r7.2 a_costs x1 x2 x3 x4 x6 r7.1)))) else (gd 4 5570 ((fX12_quota a_row).bind fun r3 => ((fX12_wins Fu a_row a_chances a_votes (a_row (4 : Int32).toNatClampNeg) x2 x6 r3).bind fun r4 => (fX12_replyTo_L67 Fu (fX12_replyTo_L8 Fu k) a_row a_chances r4.2 a_costs x1 x2 x3 x4 x6 r4.1)))))))
set_option maxHeartbeats 4000000 in
set_option maxRecDepth 100000 in
theorem tX12_replyTo_L8 {G : GT} {b : Nat} {o : Nat} {c0 : Hp} {n : Nat} (hw : e_wf (kM o) n) {v_thrown : Int32} {v_status : Int32} {a_refusals : Nat → Int32} {a_images : Nat → Int32} {a_isKept : Nat → Int32} {a_tape : Nat → Int32} {v_taped : Int32} {v_from : Int32} {v_to : Int32} {v_sort : Int32} {v_worth : Int64} {v_fault : Int32} {v_bad : Int32} {v_nClauses : Int32} {a_nClause : Nat → Int32} {v_nCode : Int32} {a_nOp : Nat → Int32} {a_nArg : Nat → Int32} {v_nLeaves : Int32} {a_pile : Nat → Int32} {a_pileAt : Nat → Int32} {v_piled : Int32} {v_opened : Int32} {a_words : Nat → Int64} {a_headWords : Nat → Int64} {v_law : Int32} {a_set : Nat → Int64} {a_rest : Nat → Int64} {v_broken : Int32} {v_value : Int64} {v_sum : Int64} {a_table : Nat → Int64} {a_prices : Nat → Int32} {v_surely : Int64} {a_mostBy : Nat → Int64} {a_leastBy : Nat → Int64} {v_between : Int64} {v_steadyWays : Int32} {v_quashed : Int32} {v_but : Int32} {a_figures : Nat → Int32} {a_all : Nat → Int32} {a_lies : Nat → Int32} {a_since : Nat → Int32} {v_last : Int32} {v_state : Int64} {Fu : Nat} : ∀ (k : Nat) {a_row : Nat → Int32} {a_chances : Nat → Int32} {a_votes : Nat → Int64} {a_costs : Nat → Int32} {x1 : Int32} {x2 : Int32} {x3 : Int32} {x4 : Int64} {x6 : Int32} {R : Int32 × (Nat → Int64)}, fX12_replyTo_L8 Fu k a_row a_chances a_votes a_costs x1 x2 x3 x4 x6 = some R → E G b yX12_replyTo cX12_replyTo 9 (some .int) (e_rm 3 0 0) e_X0 (e_Z G b (pD (some (.int R.1)) (e_ov (kM o) (wM G b o v_thrown v_status a_refusals a_row a_images a_isKept a_tape v_taped v_from v_to v_sort v_worth v_fault v_bad v_nClauses a_nClause v_nCode a_nOp a_nArg v_nLeaves a_pile a_pileAt v_piled v_opened a_words a_headWords v_law a_set a_rest v_broken v_value v_sum a_chances R.2 a_costs a_table a_prices v_surely a_mostBy a_leastBy v_between v_steadyWays v_quashed v_but a_figures a_all a_lies a_since v_last v_state) c0) n) 0 0) 8 [(0, .ref (b + o)), (1, .int x1), (2, .int x2), (3, .int x3), (4, .long x4), (6, .int x6)] [] (e_ov (kM o) (wM G b o v_thrown v_status a_refusals a_row a_images a_isKept a_tape v_taped v_from v_to v_sort v_worth v_fault v_bad v_nClauses a_nClause v_nCode a_nOp a_nArg v_nLeaves a_pile a_pileAt v_piled v_opened a_words a_headWords v_law a_set a_rest v_broken v_value v_sum a_chances a_votes a_costs a_table a_prices v_surely a_mostBy a_leastBy v_between v_steadyWays v_quashed v_but a_figures a_all a_lies a_since v_last v_state) c0) n 0 0 := by
  intro k
  induction k with
  | zero =>
    intro _ _ _ _ _ _ _ _ _ _ hf
    have hf : (none : Option (Int32 × (Nat → Int64))) = some _ := hf
    cases hf
  | succ k ih =>
    intro a_row a_chances a_votes a_costs x1 x2 x3 x4 x6 R hf
    rw [fX12_replyTo_L8] at hf
    refine E.iload 5 dX12_replyTo_8 rfl ?_
    refine E.sipush (v := 256) dX12_replyTo_10 (by decide) ?_
    refine E.icmp_ge dX12_replyTo_13 (fun h => ?_) (fun h => ?_)
    · have hf := e_ift hf h
      refine E.iload_n 3 dX12_replyTo_97 rfl ?_
      cases hf
      exact E.iret dX12_replyTo_98 (Nat.le_refl _) (Nat.le_refl _) (pD_rf _ _ _)
    · have hf := e_iff hf h
      refine E.aload_n 0 dX12_replyTo_16 rfl ?_
      refine E.iload_n 1 dX12_replyTo_17 rfl ?_
      refine E.iload 5 dX12_replyTo_18 rfl ?_
      obtain ⟨r1, hc1, hf⟩ := e_bind hf
      refine E.callVD [] dX12_replyTo_20 mlX12_404 ⟨hw.sub (p := 0) rfl, e_ov_get hw.1 (p := 0) rfl rfl⟩ rfl rfl (mX12_can hw hc1) ⟨Nat.le_of_ble_eq_true rfl, Nat.le_of_ble_eq_true rfl⟩ rfl rfl (Nat.le_of_ble_eq_true rfl) ⟨Nat.le_refl _, Nat.le_refl _⟩ rfl ?_
      refine E.if_eq dX12_replyTo_23 (fun h => ?_) (fun h => ?_)
      · have hf := e_ift hf h
        refine E.iinc (q := 5) (v := (x6 + 1)) (lv' := [(6, .int (x6 + 1)), (0, .ref (b + o)), (1, .int x1), (2, .int x2), (3, .int x3), (4, .long x4)]) dX12_replyTo_91 rfl rfl (by decide) rfl ?_
        refine E.goto dX12_replyTo_94 ?_
        refine E.locals [1, 2, 3, 4, 5, 0] rfl ?_
        exact ih hf
      · have hf := e_iff hf h
        refine E.iload_n 1 dX12_replyTo_26 rfl ?_
        refine E.if_ne dX12_replyTo_27 (fun h => ?_) (fun h => ?_)
        · have hf := e_iff hf h
          refine E.aload_n 0 dX12_replyTo_50 rfl ?_
          refine E.aload_n 0 dX12_replyTo_51 rfl ?_
          refine E.get hw 0 o dX12_replyTo_52 flX12_13 rfl rfl rfl rfl ?_
          refine E.iconst (v := 4) dX12_replyTo_55 (by decide) ?_
          obtain ⟨g2, hf⟩ := gd_some hf
          refine E.iald hw 2 (o + 2) dX12_replyTo_56 rfl rfl g2 ?_
          refine E.iload_n 2 dX12_replyTo_57 rfl ?_
          refine E.iload 5 dX12_replyTo_58 rfl ?_
          refine E.aload_n 0 dX12_replyTo_60 rfl ?_
          obtain ⟨r3, hc3, hf⟩ := e_bind hf
          refine E.callVD [.int x6, .int x2, .int (a_row (4 : Int32).toNatClampNeg), .ref (b + o)] dX12_replyTo_61 mlX12_377 ⟨hw.sub (p := 0) rfl, e_ov_get hw.1 (p := 0) rfl rfl⟩ rfl rfl (mX12_quota hw hc3) ⟨Nat.le_of_ble_eq_true rfl, Nat.le_of_ble_eq_true rfl⟩ rfl rfl (Nat.le_of_ble_eq_true rfl) ⟨Nat.le_refl _, Nat.le_refl _⟩ rfl ?_
          obtain ⟨r4, hc4, hf⟩ := e_bind hf
          refine E.callVD [] dX12_replyTo_64 mlX12_380 ⟨hw.sub (p := 0) rfl, e_ov_get hw.1 (p := 0) rfl rfl⟩ rfl rfl (mX12_wins hw hc4) ⟨Nat.le_of_ble_eq_true rfl, Nat.le_of_ble_eq_true rfl⟩ rfl rfl (Nat.le_of_ble_eq_true rfl) ⟨Nat.le_refl _, Nat.le_refl _⟩ rfl ?_
          exact tX12_replyTo_L67 hw ih hf
        · have hf := e_ift hf h
          refine E.aload_n 0 dX12_replyTo_30 rfl ?_
          refine E.aload_n 0 dX12_replyTo_31 rfl ?_
          refine E.get hw 0 o dX12_replyTo_32 flX12_13 rfl rfl rfl rfl ?_
          refine E.iconst (v := 4) dX12_replyTo_35 (by decide) ?_
          obtain ⟨g5, hf⟩ := gd_some hf
          refine E.iald hw 2 (o + 2) dX12_replyTo_36 rfl rfl g5 ?_
          refine E.iload 5 dX12_replyTo_37 rfl ?_
          refine E.iload_n 2 dX12_replyTo_39 rfl ?_
          refine E.aload_n 0 dX12_replyTo_40 rfl ?_
          obtain ⟨r6, hc6, hf⟩ := e_bind hf
          refine E.callVD [.int x2, .int x6, .int (a_row (4 : Int32).toNatClampNeg), .ref (b + o)] dX12_replyTo_41 mlX12_377 ⟨hw.sub (p := 0) rfl, e_ov_get hw.1 (p := 0) rfl rfl⟩ rfl rfl (mX12_quota hw hc6) ⟨Nat.le_of_ble_eq_true rfl, Nat.le_of_ble_eq_true rfl⟩ rfl rfl (Nat.le_of_ble_eq_true rfl) ⟨Nat.le_refl _, Nat.le_refl _⟩ rfl ?_
          obtain ⟨r7, hc7, hf⟩ := e_bind hf
          refine E.callVD [] dX12_replyTo_44 mlX12_380 ⟨hw.sub (p := 0) rfl, e_ov_get hw.1 (p := 0) rfl rfl⟩ rfl rfl (mX12_wins hw hc7) ⟨Nat.le_of_ble_eq_true rfl, Nat.le_of_ble_eq_true rfl⟩ rfl rfl (Nat.le_of_ble_eq_true rfl) ⟨Nat.le_refl _, Nat.le_refl _⟩ rfl ?_
          refine E.goto dX12_replyTo_47 ?_
          exact tX12_replyTo_L67 hw ih hf
def fX12_replyTo (Fu : Nat) (a_row : Nat → Int32) (a_chances : Nat → Int32) (a_votes : Nat → Int64) (a_costs : Nat → Int32) (x1 : Int32) (x2 : Int32) : Option (Int32 × (Nat → Int64)) := fX12_replyTo_L8 Fu Fu a_row a_chances a_votes a_costs x1 x2 (-1 : Int32) 0 0
set_option maxHeartbeats 4000000 in
set_option maxRecDepth 100000 in
theorem tX12_replyTo {G : GT} {b : Nat} {o : Nat} {c0 : Hp} {n : Nat} (hw : e_wf (kM o) n) {v_thrown : Int32} {v_status : Int32} {a_refusals : Nat → Int32} {a_images : Nat → Int32} {a_isKept : Nat → Int32} {a_tape : Nat → Int32} {v_taped : Int32} {v_from : Int32} {v_to : Int32} {v_sort : Int32} {v_worth : Int64} {v_fault : Int32} {v_bad : Int32} {v_nClauses : Int32} {a_nClause : Nat → Int32} {v_nCode : Int32} {a_nOp : Nat → Int32} {a_nArg : Nat → Int32} {v_nLeaves : Int32} {a_pile : Nat → Int32} {a_pileAt : Nat → Int32} {v_piled : Int32} {v_opened : Int32} {a_words : Nat → Int64} {a_headWords : Nat → Int64} {v_law : Int32} {a_set : Nat → Int64} {a_rest : Nat → Int64} {v_broken : Int32} {v_value : Int64} {v_sum : Int64} {a_table : Nat → Int64} {a_prices : Nat → Int32} {v_surely : Int64} {a_mostBy : Nat → Int64} {a_leastBy : Nat → Int64} {v_between : Int64} {v_steadyWays : Int32} {v_quashed : Int32} {v_but : Int32} {a_figures : Nat → Int32} {a_all : Nat → Int32} {a_lies : Nat → Int32} {a_since : Nat → Int32} {v_last : Int32} {v_state : Int64} {Fu : Nat} {a_row : Nat → Int32} {a_chances : Nat → Int32} {a_votes : Nat → Int64} {a_costs : Nat → Int32} {x1 : Int32} {x2 : Int32} {R : Int32 × (Nat → Int64)} (hf : fX12_replyTo Fu a_row a_chances a_votes a_costs x1 x2 = some R) : E G b yX12_replyTo cX12_replyTo 9 (some .int) (e_rm 3 0 0) e_X0 (e_Z G b (pD (some (.int R.1)) (e_ov (kM o) (wM G b o v_thrown v_status a_refusals a_row a_images a_isKept a_tape v_taped v_from v_to v_sort v_worth v_fault v_bad v_nClauses a_nClause v_nCode a_nOp a_nArg v_nLeaves a_pile a_pileAt v_piled v_opened a_words a_headWords v_law a_set a_rest v_broken v_value v_sum a_chances R.2 a_costs a_table a_prices v_surely a_mostBy a_leastBy v_between v_steadyWays v_quashed v_but a_figures a_all a_lies a_since v_last v_state) c0) n) 0 0) 0 [(0, .ref (b + o)), (1, .int x1), (2, .int x2)] [] (e_ov (kM o) (wM G b o v_thrown v_status a_refusals a_row a_images a_isKept a_tape v_taped v_from v_to v_sort v_worth v_fault v_bad v_nClauses a_nClause v_nCode a_nOp a_nArg v_nLeaves a_pile a_pileAt v_piled v_opened a_words a_headWords v_law a_set a_rest v_broken v_value v_sum a_chances a_votes a_costs a_table a_prices v_surely a_mostBy a_leastBy v_between v_steadyWays v_quashed v_but a_figures a_all a_lies a_since v_last v_state) c0) n 0 0 := by
  unfold fX12_replyTo at hf
  refine E.iconst (v := -1) dX12_replyTo_0 (by decide) ?_
  refine E.istore_n (lv' := [(3, .int (-1 : Int32)), (0, .ref (b + o)), (1, .int x1), (2, .int x2)]) dX12_replyTo_1 (by decide) rfl ?_
  refine E.lconst (v := 0) dX12_replyTo_2 (by decide) ?_
  refine E.lstore (lv' := [(4, .long 0), (3, .int (-1 : Int32)), (0, .ref (b + o)), (1, .int x1), (2, .int x2)]) dX12_replyTo_3 (by decide) rfl ?_
  refine E.iconst (v := 0) dX12_replyTo_5 (by decide) ?_
  refine E.istore (lv' := [(6, .int 0), (4, .long 0), (3, .int (-1 : Int32)), (0, .ref (b + o)), (1, .int x1), (2, .int x2)]) dX12_replyTo_6 (by decide) rfl ?_
  refine E.locals [3, 4, 5, 2, 1, 0] rfl ?_
  exact tX12_replyTo_L8 hw _ hf
set_option maxRecDepth 100000 in
theorem mX12_replyTo {G : GT} {b : Nat} {o : Nat} {c0 : Hp} {n : Nat} (hw : e_wf (kM o) n) {v_thrown : Int32} {v_status : Int32} {a_refusals : Nat → Int32} {a_images : Nat → Int32} {a_isKept : Nat → Int32} {a_tape : Nat → Int32} {v_taped : Int32} {v_from : Int32} {v_to : Int32} {v_sort : Int32} {v_worth : Int64} {v_fault : Int32} {v_bad : Int32} {v_nClauses : Int32} {a_nClause : Nat → Int32} {v_nCode : Int32} {a_nOp : Nat → Int32} {a_nArg : Nat → Int32} {v_nLeaves : Int32} {a_pile : Nat → Int32} {a_pileAt : Nat → Int32} {v_piled : Int32} {v_opened : Int32} {a_words : Nat → Int64} {a_headWords : Nat → Int64} {v_law : Int32} {a_set : Nat → Int64} {a_rest : Nat → Int64} {v_broken : Int32} {v_value : Int64} {v_sum : Int64} {a_table : Nat → Int64} {a_prices : Nat → Int32} {v_surely : Int64} {a_mostBy : Nat → Int64} {a_leastBy : Nat → Int64} {v_between : Int64} {v_steadyWays : Int32} {v_quashed : Int32} {v_but : Int32} {a_figures : Nat → Int32} {a_all : Nat → Int32} {a_lies : Nat → Int32} {a_since : Nat → Int32} {v_last : Int32} {v_state : Int64} {Fu : Nat} {a_row : Nat → Int32} {a_chances : Nat → Int32} {a_votes : Nat → Int64} {a_costs : Nat → Int32} {x1 : Int32} {x2 : Int32} {R : Int32 × (Nat → Int64)} (hf : fX12_replyTo Fu a_row a_chances a_votes a_costs x1 x2 = some R) : e_C G b yX12_replyTo cX12_replyTo 9 (some .int) 3 0 0 [.ref (b + o), .int x1, .int x2] (e_ov (kM o) (wM G b o v_thrown v_status a_refusals a_row a_images a_isKept a_tape v_taped v_from v_to v_sort v_worth v_fault v_bad v_nClauses a_nClause v_nCode a_nOp a_nArg v_nLeaves a_pile a_pileAt v_piled v_opened a_words a_headWords v_law a_set a_rest v_broken v_value v_sum a_chances a_votes a_costs a_table a_prices v_surely a_mostBy a_leastBy v_between v_steadyWays v_quashed v_but a_figures a_all a_lies a_since v_last v_state) c0) n (pD (some (.int R.1)) (e_ov (kM o) (wM G b o v_thrown v_status a_refusals a_row a_images a_isKept a_tape v_taped v_from v_to v_sort v_worth v_fault v_bad v_nClauses a_nClause v_nCode a_nOp a_nArg v_nLeaves a_pile a_pileAt v_piled v_opened a_words a_headWords v_law a_set a_rest v_broken v_value v_sum a_chances R.2 a_costs a_table a_prices v_surely a_mostBy a_leastBy v_between v_steadyWays v_quashed v_but a_figures a_all a_lies a_since v_last v_state) c0) n) := e_C.of (by decide) (Nat.le_of_ble_eq_true rfl) (tX12_replyTo hw hf)
