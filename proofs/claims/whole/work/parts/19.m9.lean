def fX12_proofOf_L100 (Fu : Nat) (k21 : (Nat → Int32) → Int32 → Int32 → Int32 → Int32 → Int64 → Int64 → Int32 → Option (Int64)) (a_row : Nat → Int32) (v_but : Int32) (x1 : Int32) (x2 : Int32) (x3 : Int32) (x4 : Int64) (x8 : Int32) (s0 : Int64) (s1 : Int64) : Option (Int64) := k21 a_row v_but x1 x2 x3 x4 (s1 * s0) (x8 + 1)
set_option maxHeartbeats 4000000 in
set_option maxRecDepth 100000 in
theorem tX12_proofOf_L100 {G : GT} {b : Nat} {o : Nat} {c0 : Hp} {n : Nat} (hw : e_wf (kM o) n) {v_thrown : Int32} {v_status : Int32} {a_refusals : Nat → Int32} {a_images : Nat → Int32} {a_isKept : Nat → Int32} {a_tape : Nat → Int32} {v_taped : Int32} {v_from : Int32} {v_to : Int32} {v_sort : Int32} {v_worth : Int64} {v_fault : Int32} {v_bad : Int32} {v_nClauses : Int32} {a_nClause : Nat → Int32} {v_nCode : Int32} {a_nOp : Nat → Int32} {a_nArg : Nat → Int32} {v_nLeaves : Int32} {a_pile : Nat → Int32} {a_pileAt : Nat → Int32} {v_piled : Int32} {v_opened : Int32} {a_words : Nat → Int64} {a_headWords : Nat → Int64} {v_law : Int32} {a_set : Nat → Int64} {a_rest : Nat → Int64} {v_broken : Int32} {v_value : Int64} {v_sum : Int64} {a_chances : Nat → Int32} {a_votes : Nat → Int64} {a_costs : Nat → Int32} {a_table : Nat → Int64} {a_prices : Nat → Int32} {v_surely : Int64} {a_mostBy : Nat → Int64} {a_leastBy : Nat → Int64} {v_between : Int64} {v_steadyWays : Int32} {v_quashed : Int32} {a_figures : Nat → Int32} {a_all : Nat → Int32} {a_lies : Nat → Int32} {a_since : Nat → Int32} {v_last : Int32} {v_state : Int64} {Fu : Nat} {k21 : (Nat → Int32) → Int32 → Int32 → Int32 → Int32 → Int64 → Int64 → Int32 → Option (Int64)} (hk21 : ∀ {a_row : Nat → Int32} {v_but : Int32} {x1 : Int32} {x2 : Int32} {x3 : Int32} {x4 : Int64} {x6 : Int64} {x8 : Int32} {R : Int64}, k21 a_row v_but x1 x2 x3 x4 x6 x8 = some R → E G b yX12_proofOf cX12_proofOf 11 (some .long) (e_rm 2 0 0) e_X0 (e_Z G b (pD (some (.long R)) (e_ov (kM o) (wM G b o v_thrown v_status a_refusals a_row a_images a_isKept a_tape v_taped v_from v_to v_sort v_worth v_fault v_bad v_nClauses a_nClause v_nCode a_nOp a_nArg v_nLeaves a_pile a_pileAt v_piled v_opened a_words a_headWords v_law a_set a_rest v_broken v_value v_sum a_chances a_votes a_costs a_table a_prices v_surely a_mostBy a_leastBy v_between v_steadyWays v_quashed v_but a_figures a_all a_lies a_since v_last v_state) c0) n) 0 0) 21 [(0, .ref (b + o)), (1, .int x1), (2, .int x2), (3, .int x3), (4, .long x4), (6, .long x6), (8, .int x8)] [] (e_ov (kM o) (wM G b o v_thrown v_status a_refusals a_row a_images a_isKept a_tape v_taped v_from v_to v_sort v_worth v_fault v_bad v_nClauses a_nClause v_nCode a_nOp a_nArg v_nLeaves a_pile a_pileAt v_piled v_opened a_words a_headWords v_law a_set a_rest v_broken v_value v_sum a_chances a_votes a_costs a_table a_prices v_surely a_mostBy a_leastBy v_between v_steadyWays v_quashed v_but a_figures a_all a_lies a_since v_last v_state) c0) n 0 0) {a_row : Nat → Int32} {v_but : Int32} {x1 : Int32} {x2 : Int32} {x3 : Int32} {x4 : Int64} {x8 : Int32} {s0 : Int64} {s1 : Int64} {R : Int64} (hf : fX12_proofOf_L100 Fu k21 a_row v_but x1 x2 x3 x4 x8 s0 s1 = some R) : E G b yX12_proofOf cX12_proofOf 11 (some .long) (e_rm 2 0 0) e_X0 (e_Z G b (pD (some (.long R)) (e_ov (kM o) (wM G b o v_thrown v_status a_refusals a_row a_images a_isKept a_tape v_taped v_from v_to v_sort v_worth v_fault v_bad v_nClauses a_nClause v_nCode a_nOp a_nArg v_nLeaves a_pile a_pileAt v_piled v_opened a_words a_headWords v_law a_set a_rest v_broken v_value v_sum a_chances a_votes a_costs a_table a_prices v_surely a_mostBy a_leastBy v_between v_steadyWays v_quashed v_but a_figures a_all a_lies a_since v_last v_state) c0) n) 0 0) 100 [(0, .ref (b + o)), (1, .int x1), (2, .int x2), (3, .int x3), (4, .long x4), (8, .int x8)] [.long s0, .long s1] (e_ov (kM o) (wM G b o v_thrown v_status a_refusals a_row a_images a_isKept a_tape v_taped v_from v_to v_sort v_worth v_fault v_bad v_nClauses a_nClause v_nCode a_nOp a_nArg v_nLeaves a_pile a_pileAt v_piled v_opened a_words a_headWords v_law a_set a_rest v_broken v_value v_sum a_chances a_votes a_costs a_table a_prices v_surely a_mostBy a_leastBy v_between v_steadyWays v_quashed v_but a_figures a_all a_lies a_since v_last v_state) c0) n 0 0 := by
  unfold fX12_proofOf_L100 at hf
  refine E.lmul dX12_proofOf_100 ?_
  refine E.lstore (lv' := [(6, .long (s1 * s0)), (0, .ref (b + o)), (1, .int x1), (2, .int x2), (3, .int x3), (4, .long x4), (8, .int x8)]) dX12_proofOf_101 (by decide) rfl ?_
  refine E.iinc (q := 6) (v := (x8 + 1)) (lv' := [(8, .int (x8 + 1)), (6, .long (s1 * s0)), (0, .ref (b + o)), (1, .int x1), (2, .int x2), (3, .int x3), (4, .long x4)]) dX12_proofOf_103 rfl rfl (by decide) rfl ?_
  refine E.goto dX12_proofOf_106 ?_
  refine E.locals [2, 3, 4, 5, 6, 1, 0] rfl ?_
  exact hk21 hf
def fX12_proofOf_L77 (Fu : Nat) (k21 : (Nat → Int32) → Int32 → Int32 → Int32 → Int32 → Int64 → Int64 → Int32 → Option (Int64)) (a_row : Nat → Int32) (v_but : Int32) (x1 : Int32) (x2 : Int32) (x3 : Int32) (x6 : Int64) (x8 : Int32) (x9 : Int32) (x10 : Int32) (s0 : Int64) (s1 : Int64) : Option (Int64) := (fX12_is x2 x8).bind fun r9 => (if (r9 : Int32) = 0 then (fX12_proofOf_L100 Fu k21 a_row v_but x1 x2 x3 (s1 * s0) x8 ((x9 : Int32).toInt64) x6) else (fX12_proofOf_L100 Fu k21 a_row v_but x1 x2 x3 (s1 * s0) x8 ((x10 : Int32).toInt64) x6))
set_option maxHeartbeats 4000000 in
set_option maxRecDepth 100000 in
theorem tX12_proofOf_L77 {G : GT} {b : Nat} {o : Nat} {c0 : Hp} {n : Nat} (hw : e_wf (kM o) n) {v_thrown : Int32} {v_status : Int32} {a_refusals : Nat → Int32} {a_images : Nat → Int32} {a_isKept : Nat → Int32} {a_tape : Nat → Int32} {v_taped : Int32} {v_from : Int32} {v_to : Int32} {v_sort : Int32} {v_worth : Int64} {v_fault : Int32} {v_bad : Int32} {v_nClauses : Int32} {a_nClause : Nat → Int32} {v_nCode : Int32} {a_nOp : Nat → Int32} {a_nArg : Nat → Int32} {v_nLeaves : Int32} {a_pile : Nat → Int32} {a_pileAt : Nat → Int32} {v_piled : Int32} {v_opened : Int32} {a_words : Nat → Int64} {a_headWords : Nat → Int64} {v_law : Int32} {a_set : Nat → Int64} {a_rest : Nat → Int64} {v_broken : Int32} {v_value : Int64} {v_sum : Int64} {a_chances : Nat → Int32} {a_votes : Nat → Int64} {a_costs : Nat → Int32} {a_table : Nat → Int64} {a_prices : Nat → Int32} {v_surely : Int64} {a_mostBy : Nat → Int64} {a_leastBy : Nat → Int64} {v_between : Int64} {v_steadyWays : Int32} {v_quashed : Int32} {a_figures : Nat → Int32} {a_all : Nat → Int32} {a_lies : Nat → Int32} {a_since : Nat → Int32} {v_last : Int32} {v_state : Int64} {Fu : Nat} {k21 : (Nat → Int32) → Int32 → Int32 → Int32 → Int32 → Int64 → Int64 → Int32 → Option (Int64)} (hk21 : ∀ {a_row : Nat → Int32} {v_but : Int32} {x1 : Int32} {x2 : Int32} {x3 : Int32} {x4 : Int64} {x6 : Int64} {x8 : Int32} {R : Int64}, k21 a_row v_but x1 x2 x3 x4 x6 x8 = some R → E G b yX12_proofOf cX12_proofOf 11 (some .long) (e_rm 2 0 0) e_X0 (e_Z G b (pD (some (.long R)) (e_ov (kM o) (wM G b o v_thrown v_status a_refusals a_row a_images a_isKept a_tape v_taped v_from v_to v_sort v_worth v_fault v_bad v_nClauses a_nClause v_nCode a_nOp a_nArg v_nLeaves a_pile a_pileAt v_piled v_opened a_words a_headWords v_law a_set a_rest v_broken v_value v_sum a_chances a_votes a_costs a_table a_prices v_surely a_mostBy a_leastBy v_between v_steadyWays v_quashed v_but a_figures a_all a_lies a_since v_last v_state) c0) n) 0 0) 21 [(0, .ref (b + o)), (1, .int x1), (2, .int x2), (3, .int x3), (4, .long x4), (6, .long x6), (8, .int x8)] [] (e_ov (kM o) (wM G b o v_thrown v_status a_refusals a_row a_images a_isKept a_tape v_taped v_from v_to v_sort v_worth v_fault v_bad v_nClauses a_nClause v_nCode a_nOp a_nArg v_nLeaves a_pile a_pileAt v_piled v_opened a_words a_headWords v_law a_set a_rest v_broken v_value v_sum a_chances a_votes a_costs a_table a_prices v_surely a_mostBy a_leastBy v_between v_steadyWays v_quashed v_but a_figures a_all a_lies a_since v_last v_state) c0) n 0 0) {a_row : Nat → Int32} {v_but : Int32} {x1 : Int32} {x2 : Int32} {x3 : Int32} {x6 : Int64} {x8 : Int32} {x9 : Int32} {x10 : Int32} {s0 : Int64} {s1 : Int64} {R : Int64} (hf : fX12_proofOf_L77 Fu k21 a_row v_but x1 x2 x3 x6 x8 x9 x10 s0 s1 = some R) : E G b yX12_proofOf cX12_proofOf 11 (some .long) (e_rm 2 0 0) e_X0 (e_Z G b (pD (some (.long R)) (e_ov (kM o) (wM G b o v_thrown v_status a_refusals a_row a_images a_isKept a_tape v_taped v_from v_to v_sort v_worth v_fault v_bad v_nClauses a_nClause v_nCode a_nOp a_nArg v_nLeaves a_pile a_pileAt v_piled v_opened a_words a_headWords v_law a_set a_rest v_broken v_value v_sum a_chances a_votes a_costs a_table a_prices v_surely a_mostBy a_leastBy v_between v_steadyWays v_quashed v_but a_figures a_all a_lies a_since v_last v_state) c0) n) 0 0) 77 [(0, .ref (b + o)), (1, .int x1), (2, .int x2), (3, .int x3), (6, .long x6), (8, .int x8), (9, .int x9), (10, .int x10)] [.long s0, .long s1] (e_ov (kM o) (wM G b o v_thrown v_status a_refusals a_row a_images a_isKept a_tape v_taped v_from v_to v_sort v_worth v_fault v_bad v_nClauses a_nClause v_nCode a_nOp a_nArg v_nLeaves a_pile a_pileAt v_piled v_opened a_words a_headWords v_law a_set a_rest v_broken v_value v_sum a_chances a_votes a_costs a_table a_prices v_surely a_mostBy a_leastBy v_between v_steadyWays v_quashed v_but a_figures a_all a_lies a_since v_last v_state) c0) n 0 0 := by
  unfold fX12_proofOf_L77 at hf
  refine E.lmul dX12_proofOf_77 ?_
  refine E.lstore (lv' := [(4, .long (s1 * s0)), (0, .ref (b + o)), (1, .int x1), (2, .int x2), (3, .int x3), (6, .long x6), (8, .int x8), (9, .int x9), (10, .int x10)]) dX12_proofOf_78 (by decide) rfl ?_
  refine E.lload 5 dX12_proofOf_80 rfl ?_
  refine E.iload_n 3 dX12_proofOf_82 rfl ?_
  refine E.iload 6 dX12_proofOf_83 rfl ?_
  obtain ⟨r9, hc9, hf⟩ := e_bind hf
  refine E.callSD [.long x6] dX12_proofOf_85 mlX12_364 (mX12_is hc9) ⟨Nat.le_of_ble_eq_true rfl, Nat.le_of_ble_eq_true rfl⟩ rfl rfl (Nat.le_of_ble_eq_true rfl) ⟨Nat.le_refl _, Nat.le_refl _⟩ rfl ?_
  refine E.if_eq dX12_proofOf_88 (fun h => ?_) (fun h => ?_)
  · have hf := e_ift hf h
    refine E.iload 7 dX12_proofOf_97 rfl ?_
    refine E.i2l dX12_proofOf_99 ?_
    refine E.locals [1, 2, 3, 4, 0, 6] rfl ?_
    exact tX12_proofOf_L100 hw hk21 hf
  · have hf := e_iff hf h
    refine E.iload 8 dX12_proofOf_91 rfl ?_
    refine E.i2l dX12_proofOf_93 ?_
    refine E.goto dX12_proofOf_94 ?_
    refine E.locals [1, 2, 3, 4, 0, 6] rfl ?_
    exact tX12_proofOf_L100 hw hk21 hf
def fX12_proofOf_L21 (Fu : Nat) : Nat → (Nat → Int32) → Int32 → Int32 → Int32 → Int32 → Int64 → Int64 → Int32 → Option (Int64)
  | 0, _, _, _, _, _, _, _, _ => none
  | k + 1, a_row, v_but, x1, x2, x3, x4, x6, x8 => if (8 : Int32) ≤ (x8 : Int32) then ((fX12_common Fu (x4 + x6) x4).bind fun r2 => (if (x3 : Int32) = 0 then (gzl r2 (some ((x4 / r2)))) else (gzl r2 (some (((x4 + x6) / r2)))))) else ((fX12_is x1 x8).bind fun r5 => (if (r5 : Int32) = 0 then ((fX12_proofOf_L21 Fu k) a_row v_but x1 x2 x3 x4 x6 (x8 + 1)) else ((fX12_rights Fu a_row v_but x8).bind fun r6 => ((fX12_wrongs Fu a_row v_but x8).bind fun r7 => ((fX12_is x2 x8).bind fun r8 => (if (r8 : Int32) = 0 then (fX12_proofOf_L77 Fu (fX12_proofOf_L21 Fu k) a_row v_but x1 x2 x3 x6 x8 (r6 + 1) (r7 + 1) (((r7 + 1) : Int32).toInt64) x4) else (fX12_proofOf_L77 Fu (fX12_proofOf_L21 Fu k) a_row v_but x1 x2 x3 x6 x8 (r6 + 1) (r7 + 1) (((r6 + 1) : Int32).toInt64) x4)))))))
set_option maxHeartbeats 4000000 in
set_option maxRecDepth 100000 in
theorem tX12_proofOf_L21 {G : GT} {b : Nat} {o : Nat} {c0 : Hp} {n : Nat} (hw : e_wf (kM o) n) {v_thrown : Int32} {v_status : Int32} {a_refusals : Nat → Int32} {a_images : Nat → Int32} {a_isKept : Nat → Int32} {a_tape : Nat → Int32} {v_taped : Int32} {v_from : Int32} {v_to : Int32} {v_sort : Int32} {v_worth : Int64} {v_fault : Int32} {v_bad : Int32} {v_nClauses : Int32} {a_nClause : Nat → Int32} {v_nCode : Int32} {a_nOp : Nat → Int32} {a_nArg : Nat → Int32} {v_nLeaves : Int32} {a_pile : Nat → Int32} {a_pileAt : Nat → Int32} {v_piled : Int32} {v_opened : Int32} {a_words : Nat → Int64} {a_headWords : Nat → Int64} {v_law : Int32} {a_set : Nat → Int64} {a_rest : Nat → Int64} {v_broken : Int32} {v_value : Int64} {v_sum : Int64} {a_chances : Nat → Int32} {a_votes : Nat → Int64} {a_costs : Nat → Int32} {a_table : Nat → Int64} {a_prices : Nat → Int32} {v_surely : Int64} {a_mostBy : Nat → Int64} {a_leastBy : Nat → Int64} {v_between : Int64} {v_steadyWays : Int32} {v_quashed : Int32} {a_figures : Nat → Int32} {a_all : Nat → Int32} {a_lies : Nat → Int32} {a_since : Nat → Int32} {v_last : Int32} {v_state : Int64} {Fu : Nat} : ∀ (k : Nat) {a_row : Nat → Int32} {v_but : Int32} {x1 : Int32} {x2 : Int32} {x3 : Int32} {x4 : Int64} {x6 : Int64} {x8 : Int32} {R : Int64}, fX12_proofOf_L21 Fu k a_row v_but x1 x2 x3 x4 x6 x8 = some R → E G b yX12_proofOf cX12_proofOf 11 (some .long) (e_rm 2 0 0) e_X0 (e_Z G b (pD (some (.long R)) (e_ov (kM o) (wM G b o v_thrown v_status a_refusals a_row a_images a_isKept a_tape v_taped v_from v_to v_sort v_worth v_fault v_bad v_nClauses a_nClause v_nCode a_nOp a_nArg v_nLeaves a_pile a_pileAt v_piled v_opened a_words a_headWords v_law a_set a_rest v_broken v_value v_sum a_chances a_votes a_costs a_table a_prices v_surely a_mostBy a_leastBy v_between v_steadyWays v_quashed v_but a_figures a_all a_lies a_since v_last v_state) c0) n) 0 0) 21 [(0, .ref (b + o)), (1, .int x1), (2, .int x2), (3, .int x3), (4, .long x4), (6, .long x6), (8, .int x8)] [] (e_ov (kM o) (wM G b o v_thrown v_status a_refusals a_row a_images a_isKept a_tape v_taped v_from v_to v_sort v_worth v_fault v_bad v_nClauses a_nClause v_nCode a_nOp a_nArg v_nLeaves a_pile a_pileAt v_piled v_opened a_words a_headWords v_law a_set a_rest v_broken v_value v_sum a_chances a_votes a_costs a_table a_prices v_surely a_mostBy a_leastBy v_between v_steadyWays v_quashed v_but a_figures a_all a_lies a_since v_last v_state) c0) n 0 0 := by
  intro k
  induction k with
  | zero =>
    intro _ _ _ _ _ _ _ _ _ hf
    have hf : (none : Option (Int64)) = some _ := hf
    cases hf
  | succ k ih =>
    intro a_row v_but x1 x2 x3 x4 x6 x8 R hf
    rw [fX12_proofOf_L21] at hf
    refine E.iload 6 dX12_proofOf_21 rfl ?_
    refine E.bipush (v := 8) dX12_proofOf_23 (by decide) ?_
    refine E.icmp_ge dX12_proofOf_25 (fun h => ?_) (fun h => ?_)
    · have hf := e_ift hf h
      refine E.lload 4 dX12_proofOf_109 rfl ?_
      refine E.lload 5 dX12_proofOf_111 rfl ?_
      refine E.ladd dX12_proofOf_113 ?_
      refine E.lload 4 dX12_proofOf_114 rfl ?_
      obtain ⟨r2, hc2, hf⟩ := e_bind hf
      refine E.callSD [] dX12_proofOf_116 mlX12_475 (mX12_common hc2) ⟨Nat.le_of_ble_eq_true rfl, Nat.le_of_ble_eq_true rfl⟩ rfl rfl (Nat.le_of_ble_eq_true rfl) ⟨Nat.le_refl _, Nat.le_refl _⟩ rfl ?_
      refine E.lstore (lv' := [(8, .long r2), (0, .ref (b + o)), (1, .int x1), (2, .int x2), (3, .int x3), (4, .long x4), (6, .long x6)]) dX12_proofOf_119 (by decide) rfl ?_
      refine E.iload_n 4 dX12_proofOf_121 rfl ?_
      refine E.if_ne dX12_proofOf_122 (fun h => ?_) (fun h => ?_)
      · have hf := e_iff hf h
        refine E.lload 5 dX12_proofOf_133 rfl ?_
        refine E.lload 6 dX12_proofOf_135 rfl ?_
        refine E.ladd dX12_proofOf_137 ?_
        refine E.lload 0 dX12_proofOf_138 rfl ?_
        obtain ⟨g3, hf⟩ := gzl_some hf
        refine E.ldiv dX12_proofOf_140 g3 ?_
        cases hf
        exact E.lret dX12_proofOf_141 (Nat.le_refl _) (Nat.le_refl _) (pD_rf _ _ _)
      · have hf := e_ift hf h
        refine E.lload 5 dX12_proofOf_125 rfl ?_
        refine E.lload 0 dX12_proofOf_127 rfl ?_
        obtain ⟨g4, hf⟩ := gzl_some hf
        refine E.ldiv dX12_proofOf_129 g4 ?_
        refine E.goto dX12_proofOf_130 ?_
        cases hf
        exact E.lret dX12_proofOf_141 (Nat.le_refl _) (Nat.le_refl _) (pD_rf _ _ _)
    · have hf := e_iff hf h
      refine E.iload_n 1 dX12_proofOf_28 rfl ?_
      refine E.iload 6 dX12_proofOf_29 rfl ?_
      obtain ⟨r5, hc5, hf⟩ := e_bind hf
      refine E.callSD [] dX12_proofOf_31 mlX12_364 (mX12_is hc5) ⟨Nat.le_of_ble_eq_true rfl, Nat.le_of_ble_eq_true rfl⟩ rfl rfl (Nat.le_of_ble_eq_true rfl) ⟨Nat.le_refl _, Nat.le_refl _⟩ rfl ?_
      refine E.if_eq dX12_proofOf_34 (fun h => ?_) (fun h => ?_)
      · have hf := e_ift hf h
        refine E.iinc (q := 6) (v := (x8 + 1)) (lv' := [(8, .int (x8 + 1)), (0, .ref (b + o)), (1, .int x1), (2, .int x2), (3, .int x3), (4, .long x4), (6, .long x6)]) dX12_proofOf_103 rfl rfl (by decide) rfl ?_
        refine E.goto dX12_proofOf_106 ?_
        refine E.locals [1, 2, 3, 4, 5, 6, 0] rfl ?_
        exact ih hf
      · have hf := e_iff hf h
        refine E.aload_n 0 dX12_proofOf_37 rfl ?_
        refine E.iload 6 dX12_proofOf_38 rfl ?_
        obtain ⟨r6, hc6, hf⟩ := e_bind hf
        refine E.callVD [] dX12_proofOf_40 mlX12_463 ⟨hw.sub (p := 0) rfl, e_ov_get hw.1 (p := 0) rfl rfl⟩ rfl rfl (mX12_rights hw hc6) ⟨Nat.le_of_ble_eq_true rfl, Nat.le_of_ble_eq_true rfl⟩ rfl rfl (Nat.le_of_ble_eq_true rfl) ⟨Nat.le_refl _, Nat.le_refl _⟩ rfl ?_
        refine E.iconst (v := 1) dX12_proofOf_43 (by decide) ?_
        refine E.iadd dX12_proofOf_44 ?_
        refine E.istore (lv' := [(9, .int (r6 + 1)), (0, .ref (b + o)), (1, .int x1), (2, .int x2), (3, .int x3), (4, .long x4), (6, .long x6), (8, .int x8)]) dX12_proofOf_45 (by decide) rfl ?_
        refine E.aload_n 1 dX12_proofOf_47 rfl ?_
        refine E.iload 7 dX12_proofOf_48 rfl ?_
        obtain ⟨r7, hc7, hf⟩ := e_bind hf
        refine E.callVD [] dX12_proofOf_50 mlX12_466 ⟨hw.sub (p := 0) rfl, e_ov_get hw.1 (p := 0) rfl rfl⟩ rfl rfl (mX12_wrongs hw hc7) ⟨Nat.le_of_ble_eq_true rfl, Nat.le_of_ble_eq_true rfl⟩ rfl rfl (Nat.le_of_ble_eq_true rfl) ⟨Nat.le_refl _, Nat.le_refl _⟩ rfl ?_
        refine E.iconst (v := 1) dX12_proofOf_53 (by decide) ?_
        refine E.iadd dX12_proofOf_54 ?_
        refine E.istore (lv' := [(10, .int (r7 + 1)), (9, .int (r6 + 1)), (0, .ref (b + o)), (1, .int x1), (2, .int x2), (3, .int x3), (4, .long x4), (6, .long x6), (8, .int x8)]) dX12_proofOf_55 (by decide) rfl ?_
        refine E.lload 6 dX12_proofOf_57 rfl ?_
        refine E.iload_n 4 dX12_proofOf_59 rfl ?_
        refine E.iload 8 dX12_proofOf_60 rfl ?_
        obtain ⟨r8, hc8, hf⟩ := e_bind hf
        refine E.callSD [.long x4] dX12_proofOf_62 mlX12_364 (mX12_is hc8) ⟨Nat.le_of_ble_eq_true rfl, Nat.le_of_ble_eq_true rfl⟩ rfl rfl (Nat.le_of_ble_eq_true rfl) ⟨Nat.le_refl _, Nat.le_refl _⟩ rfl ?_
        refine E.if_eq dX12_proofOf_65 (fun h => ?_) (fun h => ?_)
        · have hf := e_ift hf h
          refine E.iload 0 dX12_proofOf_74 rfl ?_
          refine E.i2l dX12_proofOf_76 ?_
          refine E.locals [2, 3, 4, 5, 7, 8, 1, 0] rfl ?_
          exact tX12_proofOf_L77 hw ih hf
        · have hf := e_iff hf h
          refine E.iload 1 dX12_proofOf_68 rfl ?_
          refine E.i2l dX12_proofOf_70 ?_
          refine E.goto dX12_proofOf_71 ?_
          refine E.locals [2, 3, 4, 5, 7, 8, 1, 0] rfl ?_
          exact tX12_proofOf_L77 hw ih hf
def fX12_proofOf (Fu : Nat) (a_row : Nat → Int32) (v_but : Int32) (x1 : Int32) (x2 : Int32) (x3 : Int32) : Option (Int64) := gd 10 5570 (fX12_proofOf_L21 Fu Fu a_row v_but x1 x2 x3 (((a_row (10 : Int32).toNatClampNeg) : Int32).toInt64) (100 - (((a_row (10 : Int32).toNatClampNeg) : Int32).toInt64)) 0)
set_option maxHeartbeats 4000000 in
set_option maxRecDepth 100000 in
theorem tX12_proofOf {G : GT} {b : Nat} {o : Nat} {c0 : Hp} {n : Nat} (hw : e_wf (kM o) n) {v_thrown : Int32} {v_status : Int32} {a_refusals : Nat → Int32} {a_images : Nat → Int32} {a_isKept : Nat → Int32} {a_tape : Nat → Int32} {v_taped : Int32} {v_from : Int32} {v_to : Int32} {v_sort : Int32} {v_worth : Int64} {v_fault : Int32} {v_bad : Int32} {v_nClauses : Int32} {a_nClause : Nat → Int32} {v_nCode : Int32} {a_nOp : Nat → Int32} {a_nArg : Nat → Int32} {v_nLeaves : Int32} {a_pile : Nat → Int32} {a_pileAt : Nat → Int32} {v_piled : Int32} {v_opened : Int32} {a_words : Nat → Int64} {a_headWords : Nat → Int64} {v_law : Int32} {a_set : Nat → Int64} {a_rest : Nat → Int64} {v_broken : Int32} {v_value : Int64} {v_sum : Int64} {a_chances : Nat → Int32} {a_votes : Nat → Int64} {a_costs : Nat → Int32} {a_table : Nat → Int64} {a_prices : Nat → Int32} {v_surely : Int64} {a_mostBy : Nat → Int64} {a_leastBy : Nat → Int64} {v_between : Int64} {v_steadyWays : Int32} {v_quashed : Int32} {a_figures : Nat → Int32} {a_all : Nat → Int32} {a_lies : Nat → Int32} {a_since : Nat → Int32} {v_last : Int32} {v_state : Int64} {Fu : Nat} {a_row : Nat → Int32} {v_but : Int32} {x1 : Int32} {x2 : Int32} {x3 : Int32} {R : Int64} (hf : fX12_proofOf Fu a_row v_but x1 x2 x3 = some R) : E G b yX12_proofOf cX12_proofOf 11 (some .long) (e_rm 2 0 0) e_X0 (e_Z G b (pD (some (.long R)) (e_ov (kM o) (wM G b o v_thrown v_status a_refusals a_row a_images a_isKept a_tape v_taped v_from v_to v_sort v_worth v_fault v_bad v_nClauses a_nClause v_nCode a_nOp a_nArg v_nLeaves a_pile a_pileAt v_piled v_opened a_words a_headWords v_law a_set a_rest v_broken v_value v_sum a_chances a_votes a_costs a_table a_prices v_surely a_mostBy a_leastBy v_between v_steadyWays v_quashed v_but a_figures a_all a_lies a_since v_last v_state) c0) n) 0 0) 0 [(0, .ref (b + o)), (1, .int x1), (2, .int x2), (3, .int x3)] [] (e_ov (kM o) (wM G b o v_thrown v_status a_refusals a_row a_images a_isKept a_tape v_taped v_from v_to v_sort v_worth v_fault v_bad v_nClauses a_nClause v_nCode a_nOp a_nArg v_nLeaves a_pile a_pileAt v_piled v_opened a_words a_headWords v_law a_set a_rest v_broken v_value v_sum a_chances a_votes a_costs a_table a_prices v_surely a_mostBy a_leastBy v_between v_steadyWays v_quashed v_but a_figures a_all a_lies a_since v_last v_state) c0) n 0 0 := by
  unfold fX12_proofOf at hf
  refine E.aload_n 0 dX12_proofOf_0 rfl ?_
  refine E.get hw 0 o dX12_proofOf_1 flX12_13 rfl rfl rfl rfl ?_
  refine E.bipush (v := 10) dX12_proofOf_4 (by decide) ?_
  obtain ⟨g1, hf⟩ := gd_some hf
  refine E.iald hw 2 (o + 2) dX12_proofOf_6 rfl rfl g1 ?_
  refine E.i2l dX12_proofOf_7 ?_
  refine E.lstore (lv' := [(4, .long (((a_row (10 : Int32).toNatClampNeg) : Int32).toInt64)), (0, .ref (b + o)), (1, .int x1), (2, .int x2), (3, .int x3)]) dX12_proofOf_8 (by decide) rfl ?_
  refine E.ldc2 dX12_proofOf_10 kX12_179 ?_
  refine E.lload 0 dX12_proofOf_13 rfl ?_
  refine E.lsub dX12_proofOf_15 ?_
  refine E.lstore (lv' := [(6, .long (100 - (((a_row (10 : Int32).toNatClampNeg) : Int32).toInt64))), (4, .long (((a_row (10 : Int32).toNatClampNeg) : Int32).toInt64)), (0, .ref (b + o)), (1, .int x1), (2, .int x2), (3, .int x3)]) dX12_proofOf_16 (by decide) rfl ?_
  refine E.iconst (v := 0) dX12_proofOf_18 (by decide) ?_
  refine E.istore (lv' := [(8, .int 0), (6, .long (100 - (((a_row (10 : Int32).toNatClampNeg) : Int32).toInt64))), (4, .long (((a_row (10 : Int32).toNatClampNeg) : Int32).toInt64)), (0, .ref (b + o)), (1, .int x1), (2, .int x2), (3, .int x3)]) dX12_proofOf_19 (by decide) rfl ?_
  refine E.locals [3, 4, 5, 6, 2, 1, 0] rfl ?_
  exact tX12_proofOf_L21 hw _ hf
set_option maxRecDepth 100000 in
theorem mX12_proofOf {G : GT} {b : Nat} {o : Nat} {c0 : Hp} {n : Nat} (hw : e_wf (kM o) n) {v_thrown : Int32} {v_status : Int32} {a_refusals : Nat → Int32} {a_images : Nat → Int32} {a_isKept : Nat → Int32} {a_tape : Nat → Int32} {v_taped : Int32} {v_from : Int32} {v_to : Int32} {v_sort : Int32} {v_worth : Int64} {v_fault : Int32} {v_bad : Int32} {v_nClauses : Int32} {a_nClause : Nat → Int32} {v_nCode : Int32} {a_nOp : Nat → Int32} {a_nArg : Nat → Int32} {v_nLeaves : Int32} {a_pile : Nat → Int32} {a_pileAt : Nat → Int32} {v_piled : Int32} {v_opened : Int32} {a_words : Nat → Int64} {a_headWords : Nat → Int64} {v_law : Int32} {a_set : Nat → Int64} {a_rest : Nat → Int64} {v_broken : Int32} {v_value : Int64} {v_sum : Int64} {a_chances : Nat → Int32} {a_votes : Nat → Int64} {a_costs : Nat → Int32} {a_table : Nat → Int64} {a_prices : Nat → Int32} {v_surely : Int64} {a_mostBy : Nat → Int64} {a_leastBy : Nat → Int64} {v_between : Int64} {v_steadyWays : Int32} {v_quashed : Int32} {a_figures : Nat → Int32} {a_all : Nat → Int32} {a_lies : Nat → Int32} {a_since : Nat → Int32} {v_last : Int32} {v_state : Int64} {Fu : Nat} {a_row : Nat → Int32} {v_but : Int32} {x1 : Int32} {x2 : Int32} {x3 : Int32} {R : Int64} (hf : fX12_proofOf Fu a_row v_but x1 x2 x3 = some R) : e_C G b yX12_proofOf cX12_proofOf 11 (some .long) 2 0 0 [.ref (b + o), .int x1, .int x2, .int x3] (e_ov (kM o) (wM G b o v_thrown v_status a_refusals a_row a_images a_isKept a_tape v_taped v_from v_to v_sort v_worth v_fault v_bad v_nClauses a_nClause v_nCode a_nOp a_nArg v_nLeaves a_pile a_pileAt v_piled v_opened a_words a_headWords v_law a_set a_rest v_broken v_value v_sum a_chances a_votes a_costs a_table a_prices v_surely a_mostBy a_leastBy v_between v_steadyWays v_quashed v_but a_figures a_all a_lies a_since v_last v_state) c0) n (pD (some (.long R)) (e_ov (kM o) (wM G b o v_thrown v_status a_refusals a_row a_images a_isKept a_tape v_taped v_from v_to v_sort v_worth v_fault v_bad v_nClauses a_nClause v_nCode a_nOp a_nArg v_nLeaves a_pile a_pileAt v_piled v_opened a_words a_headWords v_law a_set a_rest v_broken v_value v_sum a_chances a_votes a_costs a_table a_prices v_surely a_mostBy a_leastBy v_between v_steadyWays v_quashed v_but a_figures a_all a_lies a_since v_last v_state) c0) n) := e_C.of (by decide) (Nat.le_of_ble_eq_true rfl) (tX12_proofOf hw hf)
def fX12_again (Fu : Nat) (v_thrown : Int32) (a_row : Nat → Int32) (v_but : Int32) (x1 : Int32) (x2 : Int32) : Option (Int64 × Int32 × Int32) := gd 11 5570 ((fX12_in ((x1 : Int32).toInt64) 0 ((((a_row (11 : Int32).toNatClampNeg) : Int32).toInt64) - 1)).bind fun r2 => (if (r2 : Int32) = 0 then (some ((-1 : Int64), 0, v_but)) else ((fX12_in ((x2 : Int32).toInt64) 0 1).bind fun r3 => (if (r3 : Int32) = 0 then (some ((-1 : Int64), 0, v_but)) else (gd ((110 + (3 * x1)) + 1) 5570 (gd ((110 + (3 * x1)) + 2) 5570 ((fX12_proofOf Fu a_row x1 (a_row (((110 + (3 * x1)) + 1) : Int32).toNatClampNeg) (a_row (((110 + (3 * x1)) + 2) : Int32).toNatClampNeg) x2).bind fun r6 => (some (r6, 0, (-1 : Int32))))))))))
set_option maxHeartbeats 4000000 in
set_option maxRecDepth 100000 in
theorem tX12_again {G : GT} {b : Nat} {o : Nat} {c0 : Hp} {n : Nat} (hw : e_wf (kM o) n) {v_status : Int32} {a_refusals : Nat → Int32} {a_images : Nat → Int32} {a_isKept : Nat → Int32} {a_tape : Nat → Int32} {v_taped : Int32} {v_from : Int32} {v_to : Int32} {v_sort : Int32} {v_worth : Int64} {v_fault : Int32} {v_bad : Int32} {v_nClauses : Int32} {a_nClause : Nat → Int32} {v_nCode : Int32} {a_nOp : Nat → Int32} {a_nArg : Nat → Int32} {v_nLeaves : Int32} {a_pile : Nat → Int32} {a_pileAt : Nat → Int32} {v_piled : Int32} {v_opened : Int32} {a_words : Nat → Int64} {a_headWords : Nat → Int64} {v_law : Int32} {a_set : Nat → Int64} {a_rest : Nat → Int64} {v_broken : Int32} {v_value : Int64} {v_sum : Int64} {a_chances : Nat → Int32} {a_votes : Nat → Int64} {a_costs : Nat → Int32} {a_table : Nat → Int64} {a_prices : Nat → Int32} {v_surely : Int64} {a_mostBy : Nat → Int64} {a_leastBy : Nat → Int64} {v_between : Int64} {v_steadyWays : Int32} {v_quashed : Int32} {a_figures : Nat → Int32} {a_all : Nat → Int32} {a_lies : Nat → Int32} {a_since : Nat → Int32} {v_last : Int32} {v_state : Int64} {Fu : Nat} {v_thrown : Int32} {a_row : Nat → Int32} {v_but : Int32} {x1 : Int32} {x2 : Int32} {R : Int64 × Int32 × Int32} (hf : fX12_again Fu v_thrown a_row v_but x1 x2 = some R) : E G b yX12_again cX12_again 5 (some .long) (e_rm 3 0 0) e_X0 (e_Z G b (pD (some (.long R.1)) (e_ov (kM o) (wM G b o R.2.1 v_status a_refusals a_row a_images a_isKept a_tape v_taped v_from v_to v_sort v_worth v_fault v_bad v_nClauses a_nClause v_nCode a_nOp a_nArg v_nLeaves a_pile a_pileAt v_piled v_opened a_words a_headWords v_law a_set a_rest v_broken v_value v_sum a_chances a_votes a_costs a_table a_prices v_surely a_mostBy a_leastBy v_between v_steadyWays v_quashed R.2.2 a_figures a_all a_lies a_since v_last v_state) c0) n) 0 0) 0 [(0, .ref (b + o)), (1, .int x1), (2, .int x2)] [] (e_ov (kM o) (wM G b o v_thrown v_status a_refusals a_row a_images a_isKept a_tape v_taped v_from v_to v_sort v_worth v_fault v_bad v_nClauses a_nClause v_nCode a_nOp a_nArg v_nLeaves a_pile a_pileAt v_piled v_opened a_words a_headWords v_law a_set a_rest v_broken v_value v_sum a_chances a_votes a_costs a_table a_prices v_surely a_mostBy a_leastBy v_between v_steadyWays v_quashed v_but a_figures a_all a_lies a_since v_last v_state) c0) n 0 0 := by
  unfold fX12_again at hf
  refine E.aload_n 0 dX12_again_0 rfl ?_
  refine E.iconst (v := 0) dX12_again_1 (by decide) ?_
  refine E.put (es' := (wM G b o 0 v_status a_refusals a_row a_images a_isKept a_tape v_taped v_from v_to v_sort v_worth v_fault v_bad v_nClauses a_nClause v_nCode a_nOp a_nArg v_nLeaves a_pile a_pileAt v_piled v_opened a_words a_headWords v_law a_set a_rest v_broken v_value v_sum a_chances a_votes a_costs a_table a_prices v_surely a_mostBy a_leastBy v_between v_steadyWays v_quashed v_but a_figures a_all a_lies a_since v_last v_state)) hw 0 o dX12_again_2 flX12_124 ftX12 rfl rfl rfl rfl rfl rfl (Nat.le_of_ble_eq_true rfl) rfl ?_
  refine E.iload_n 1 dX12_again_5 rfl ?_
  refine E.i2l dX12_again_6 ?_
  refine E.lconst (v := 0) dX12_again_7 (by decide) ?_
  refine E.aload_n 0 dX12_again_8 rfl ?_
  refine E.get hw 0 o dX12_again_9 flX12_13 rfl rfl rfl rfl ?_
  refine E.bipush (v := 11) dX12_again_12 (by decide) ?_
  obtain ⟨g1, hf⟩ := gd_some hf
  refine E.iald hw 2 (o + 2) dX12_again_14 rfl rfl g1 ?_
  refine E.i2l dX12_again_15 ?_
  refine E.lconst (v := 1) dX12_again_16 (by decide) ?_
  refine E.lsub dX12_again_17 ?_
  obtain ⟨r2, hc2, hf⟩ := e_bind hf
  refine E.callSD [] dX12_again_18 mlX12_134 (mX12_in hc2) ⟨Nat.le_of_ble_eq_true rfl, Nat.le_of_ble_eq_true rfl⟩ rfl rfl (Nat.le_of_ble_eq_true rfl) ⟨Nat.le_refl _, Nat.le_refl _⟩ rfl ?_
  refine E.if_eq dX12_again_21 (fun h => ?_) (fun h => ?_)
  · have hf := e_ift hf h
    refine E.ldc2 dX12_again_34 kX12_221 ?_
    cases hf
    exact E.lret dX12_again_37 (Nat.le_refl _) (Nat.le_refl _) (pD_rf _ _ _)
  · have hf := e_iff hf h
    refine E.iload_n 2 dX12_again_24 rfl ?_
    refine E.i2l dX12_again_25 ?_
    refine E.lconst (v := 0) dX12_again_26 (by decide) ?_
    refine E.lconst (v := 1) dX12_again_27 (by decide) ?_
    obtain ⟨r3, hc3, hf⟩ := e_bind hf
    refine E.callSD [] dX12_again_28 mlX12_134 (mX12_in hc3) ⟨Nat.le_of_ble_eq_true rfl, Nat.le_of_ble_eq_true rfl⟩ rfl rfl (Nat.le_of_ble_eq_true rfl) ⟨Nat.le_refl _, Nat.le_refl _⟩ rfl ?_
    refine E.if_ne dX12_again_31 (fun h => ?_) (fun h => ?_)
    · have hf := e_iff hf h
      refine E.aload_n 0 dX12_again_38 rfl ?_
      refine E.iload_n 1 dX12_again_39 rfl ?_
      refine E.put (es' := (wM G b o 0 v_status a_refusals a_row a_images a_isKept a_tape v_taped v_from v_to v_sort v_worth v_fault v_bad v_nClauses a_nClause v_nCode a_nOp a_nArg v_nLeaves a_pile a_pileAt v_piled v_opened a_words a_headWords v_law a_set a_rest v_broken v_value v_sum a_chances a_votes a_costs a_table a_prices v_surely a_mostBy a_leastBy v_between v_steadyWays v_quashed x1 a_figures a_all a_lies a_since v_last v_state)) hw 0 o dX12_again_40 flX12_106 ftX12 rfl rfl rfl rfl rfl rfl (Nat.le_of_ble_eq_true rfl) rfl ?_
      refine E.aload_n 0 dX12_again_43 rfl ?_
      refine E.aload_n 0 dX12_again_44 rfl ?_
      refine E.get hw 0 o dX12_again_45 flX12_13 rfl rfl rfl rfl ?_
      refine E.bipush (v := 110) dX12_again_48 (by decide) ?_
      refine E.iconst (v := 3) dX12_again_50 (by decide) ?_
      refine E.iload_n 1 dX12_again_51 rfl ?_
      refine E.imul dX12_again_52 ?_
      refine E.iadd dX12_again_53 ?_
      refine E.iconst (v := 1) dX12_again_54 (by decide) ?_
      refine E.iadd dX12_again_55 ?_
      obtain ⟨g4, hf⟩ := gd_some hf
      refine E.iald hw 2 (o + 2) dX12_again_56 rfl rfl g4 ?_
      refine E.aload_n 0 dX12_again_57 rfl ?_
      refine E.get hw 0 o dX12_again_58 flX12_13 rfl rfl rfl rfl ?_
      refine E.bipush (v := 110) dX12_again_61 (by decide) ?_
      refine E.iconst (v := 3) dX12_again_63 (by decide) ?_
      refine E.iload_n 1 dX12_again_64 rfl ?_
      refine E.imul dX12_again_65 ?_
      refine E.iadd dX12_again_66 ?_
      refine E.iconst (v := 2) dX12_again_67 (by decide) ?_
      refine E.iadd dX12_again_68 ?_
      obtain ⟨g5, hf⟩ := gd_some hf
      refine E.iald hw 2 (o + 2) dX12_again_69 rfl rfl g5 ?_
      refine E.iload_n 2 dX12_again_70 rfl ?_
      obtain ⟨r6, hc6, hf⟩ := e_bind hf
      refine E.callVD [] dX12_again_71 mlX12_472 ⟨hw.sub (p := 0) rfl, e_ov_get hw.1 (p := 0) rfl rfl⟩ rfl rfl (mX12_proofOf hw hc6) ⟨Nat.le_of_ble_eq_true rfl, Nat.le_of_ble_eq_true rfl⟩ rfl rfl (Nat.le_of_ble_eq_true rfl) ⟨Nat.le_refl _, Nat.le_refl _⟩ rfl ?_
      refine E.lstore_n (lv' := [(3, .long r6), (0, .ref (b + o)), (1, .int x1), (2, .int x2)]) dX12_again_74 (by decide) rfl ?_
      refine E.aload_n 1 dX12_again_75 rfl ?_
      refine E.iconst (v := -1) dX12_again_76 (by decide) ?_
      refine E.put (es' := (wM G b o 0 v_status a_refusals a_row a_images a_isKept a_tape v_taped v_from v_to v_sort v_worth v_fault v_bad v_nClauses a_nClause v_nCode a_nOp a_nArg v_nLeaves a_pile a_pileAt v_piled v_opened a_words a_headWords v_law a_set a_rest v_broken v_value v_sum a_chances a_votes a_costs a_table a_prices v_surely a_mostBy a_leastBy v_between v_steadyWays v_quashed (-1 : Int32) a_figures a_all a_lies a_since v_last v_state)) hw 0 o dX12_again_77 flX12_106 ftX12 rfl rfl rfl rfl rfl rfl (Nat.le_of_ble_eq_true rfl) rfl ?_
      refine E.lload_n 0 dX12_again_80 rfl ?_
      cases hf
      exact E.lret dX12_again_81 (Nat.le_refl _) (Nat.le_refl _) (pD_rf _ _ _)
    · have hf := e_ift hf h
      refine E.ldc2 dX12_again_34 kX12_221 ?_
      cases hf
      exact E.lret dX12_again_37 (Nat.le_refl _) (Nat.le_refl _) (pD_rf _ _ _)
set_option maxRecDepth 100000 in
theorem mX12_again {G : GT} {b : Nat} {o : Nat} {c0 : Hp} {n : Nat} (hw : e_wf (kM o) n) {v_status : Int32} {a_refusals : Nat → Int32} {a_images : Nat → Int32} {a_isKept : Nat → Int32} {a_tape : Nat → Int32} {v_taped : Int32} {v_from : Int32} {v_to : Int32} {v_sort : Int32} {v_worth : Int64} {v_fault : Int32} {v_bad : Int32} {v_nClauses : Int32} {a_nClause : Nat → Int32} {v_nCode : Int32} {a_nOp : Nat → Int32} {a_nArg : Nat → Int32} {v_nLeaves : Int32} {a_pile : Nat → Int32} {a_pileAt : Nat → Int32} {v_piled : Int32} {v_opened : Int32} {a_words : Nat → Int64} {a_headWords : Nat → Int64} {v_law : Int32} {a_set : Nat → Int64} {a_rest : Nat → Int64} {v_broken : Int32} {v_value : Int64} {v_sum : Int64} {a_chances : Nat → Int32} {a_votes : Nat → Int64} {a_costs : Nat → Int32} {a_table : Nat → Int64} {a_prices : Nat → Int32} {v_surely : Int64} {a_mostBy : Nat → Int64} {a_leastBy : Nat → Int64} {v_between : Int64} {v_steadyWays : Int32} {v_quashed : Int32} {a_figures : Nat → Int32} {a_all : Nat → Int32} {a_lies : Nat → Int32} {a_since : Nat → Int32} {v_last : Int32} {v_state : Int64} {Fu : Nat} {v_thrown : Int32} {a_row : Nat → Int32} {v_but : Int32} {x1 : Int32} {x2 : Int32} {R : Int64 × Int32 × Int32} (hf : fX12_again Fu v_thrown a_row v_but x1 x2 = some R) : e_C G b yX12_again cX12_again 5 (some .long) 3 0 0 [.ref (b + o), .int x1, .int x2] (e_ov (kM o) (wM G b o v_thrown v_status a_refusals a_row a_images a_isKept a_tape v_taped v_from v_to v_sort v_worth v_fault v_bad v_nClauses a_nClause v_nCode a_nOp a_nArg v_nLeaves a_pile a_pileAt v_piled v_opened a_words a_headWords v_law a_set a_rest v_broken v_value v_sum a_chances a_votes a_costs a_table a_prices v_surely a_mostBy a_leastBy v_between v_steadyWays v_quashed v_but a_figures a_all a_lies a_since v_last v_state) c0) n (pD (some (.long R.1)) (e_ov (kM o) (wM G b o R.2.1 v_status a_refusals a_row a_images a_isKept a_tape v_taped v_from v_to v_sort v_worth v_fault v_bad v_nClauses a_nClause v_nCode a_nOp a_nArg v_nLeaves a_pile a_pileAt v_piled v_opened a_words a_headWords v_law a_set a_rest v_broken v_value v_sum a_chances a_votes a_costs a_table a_prices v_surely a_mostBy a_leastBy v_between v_steadyWays v_quashed R.2.2 a_figures a_all a_lies a_since v_last v_state) c0) n) := e_C.of (by decide) (Nat.le_of_ble_eq_true rfl) (tX12_again hw hf)
def fX12_proof (Fu : Nat) (v_thrown : Int32) (a_row : Nat → Int32) (v_but : Int32) (x1 : Int32) (x2 : Int32) (x3 : Int32) : Option (Int64 × Int32) := (fX12_in ((x1 : Int32).toInt64) 0 255).bind fun r1 => (if (r1 : Int32) = 0 then (some ((-1 : Int64), 0)) else ((fX12_in ((x2 : Int32).toInt64) 0 255).bind fun r2 => (if (r2 : Int32) = 0 then (some ((-1 : Int64), 0)) else (if ((x2 &&& (x1 ^^^ (-1 : Int32))) : Int32) = 0 then ((fX12_in ((x3 : Int32).toInt64) 0 1).bind fun r3 => (if (r3 : Int32) = 0 then (some ((-1 : Int64), 0)) else ((fX12_proofOf Fu a_row v_but x1 x2 x3).bind fun r4 => (some (r4, 0))))) else (some ((-1 : Int64), 0))))))
set_option maxHeartbeats 4000000 in
set_option maxRecDepth 100000 in
theorem tX12_proof {G : GT} {b : Nat} {o : Nat} {c0 : Hp} {n : Nat} (hw : e_wf (kM o) n) {v_status : Int32} {a_refusals : Nat → Int32} {a_images : Nat → Int32} {a_isKept : Nat → Int32} {a_tape : Nat → Int32} {v_taped : Int32} {v_from : Int32} {v_to : Int32} {v_sort : Int32} {v_worth : Int64} {v_fault : Int32} {v_bad : Int32} {v_nClauses : Int32} {a_nClause : Nat → Int32} {v_nCode : Int32} {a_nOp : Nat → Int32} {a_nArg : Nat → Int32} {v_nLeaves : Int32} {a_pile : Nat → Int32} {a_pileAt : Nat → Int32} {v_piled : Int32} {v_opened : Int32} {a_words : Nat → Int64} {a_headWords : Nat → Int64} {v_law : Int32} {a_set : Nat → Int64} {a_rest : Nat → Int64} {v_broken : Int32} {v_value : Int64} {v_sum : Int64} {a_chances : Nat → Int32} {a_votes : Nat → Int64} {a_costs : Nat → Int32} {a_table : Nat → Int64} {a_prices : Nat → Int32} {v_surely : Int64} {a_mostBy : Nat → Int64} {a_leastBy : Nat → Int64} {v_between : Int64} {v_steadyWays : Int32} {v_quashed : Int32} {a_figures : Nat → Int32} {a_all : Nat → Int32} {a_lies : Nat → Int32} {a_since : Nat → Int32} {v_last : Int32} {v_state : Int64} {Fu : Nat} {v_thrown : Int32} {a_row : Nat → Int32} {v_but : Int32} {x1 : Int32} {x2 : Int32} {x3 : Int32} {R : Int64 × Int32} (hf : fX12_proof Fu v_thrown a_row v_but x1 x2 x3 = some R) : E G b yX12_proof cX12_proof 4 (some .long) (e_rm 3 0 0) e_X0 (e_Z G b (pD (some (.long R.1)) (e_ov (kM o) (wM G b o R.2 v_status a_refusals a_row a_images a_isKept a_tape v_taped v_from v_to v_sort v_worth v_fault v_bad v_nClauses a_nClause v_nCode a_nOp a_nArg v_nLeaves a_pile a_pileAt v_piled v_opened a_words a_headWords v_law a_set a_rest v_broken v_value v_sum a_chances a_votes a_costs a_table a_prices v_surely a_mostBy a_leastBy v_between v_steadyWays v_quashed v_but a_figures a_all a_lies a_since v_last v_state) c0) n) 0 0) 0 [(0, .ref (b + o)), (1, .int x1), (2, .int x2), (3, .int x3)] [] (e_ov (kM o) (wM G b o v_thrown v_status a_refusals a_row a_images a_isKept a_tape v_taped v_from v_to v_sort v_worth v_fault v_bad v_nClauses a_nClause v_nCode a_nOp a_nArg v_nLeaves a_pile a_pileAt v_piled v_opened a_words a_headWords v_law a_set a_rest v_broken v_value v_sum a_chances a_votes a_costs a_table a_prices v_surely a_mostBy a_leastBy v_between v_steadyWays v_quashed v_but a_figures a_all a_lies a_since v_last v_state) c0) n 0 0 := by
  unfold fX12_proof at hf
  refine E.aload_n 0 dX12_proof_0 rfl ?_
  refine E.iconst (v := 0) dX12_proof_1 (by decide) ?_
  refine E.put (es' := (wM G b o 0 v_status a_refusals a_row a_images a_isKept a_tape v_taped v_from v_to v_sort v_worth v_fault v_bad v_nClauses a_nClause v_nCode a_nOp a_nArg v_nLeaves a_pile a_pileAt v_piled v_opened a_words a_headWords v_law a_set a_rest v_broken v_value v_sum a_chances a_votes a_costs a_table a_prices v_surely a_mostBy a_leastBy v_between v_steadyWays v_quashed v_but a_figures a_all a_lies a_since v_last v_state)) hw 0 o dX12_proof_2 flX12_124 ftX12 rfl rfl rfl rfl rfl rfl (Nat.le_of_ble_eq_true rfl) rfl ?_
  refine E.iload_n 1 dX12_proof_5 rfl ?_
  refine E.i2l dX12_proof_6 ?_
  refine E.lconst (v := 0) dX12_proof_7 (by decide) ?_
  refine E.ldc2 dX12_proof_8 kX12_392 ?_
  obtain ⟨r1, hc1, hf⟩ := e_bind hf
  refine E.callSD [] dX12_proof_11 mlX12_134 (mX12_in hc1) ⟨Nat.le_of_ble_eq_true rfl, Nat.le_of_ble_eq_true rfl⟩ rfl rfl (Nat.le_of_ble_eq_true rfl) ⟨Nat.le_refl _, Nat.le_refl _⟩ rfl ?_
  refine E.if_eq dX12_proof_14 (fun h => ?_) (fun h => ?_)
  · have hf := e_ift hf h
    refine E.ldc2 dX12_proof_47 kX12_221 ?_
    cases hf
    exact E.lret dX12_proof_50 (Nat.le_refl _) (Nat.le_refl _) (pD_rf _ _ _)
  · have hf := e_iff hf h
    refine E.iload_n 2 dX12_proof_17 rfl ?_
    refine E.i2l dX12_proof_18 ?_
    refine E.lconst (v := 0) dX12_proof_19 (by decide) ?_
    refine E.ldc2 dX12_proof_20 kX12_392 ?_
    obtain ⟨r2, hc2, hf⟩ := e_bind hf
    refine E.callSD [] dX12_proof_23 mlX12_134 (mX12_in hc2) ⟨Nat.le_of_ble_eq_true rfl, Nat.le_of_ble_eq_true rfl⟩ rfl rfl (Nat.le_of_ble_eq_true rfl) ⟨Nat.le_refl _, Nat.le_refl _⟩ rfl ?_
    refine E.if_eq dX12_proof_26 (fun h => ?_) (fun h => ?_)
    · have hf := e_ift hf h
      refine E.ldc2 dX12_proof_47 kX12_221 ?_
      cases hf
      exact E.lret dX12_proof_50 (Nat.le_refl _) (Nat.le_refl _) (pD_rf _ _ _)
    · have hf := e_iff hf h
      refine E.iload_n 2 dX12_proof_29 rfl ?_
      refine E.iload_n 1 dX12_proof_30 rfl ?_
      refine E.iconst (v := -1) dX12_proof_31 (by decide) ?_
      refine E.ixor dX12_proof_32 ?_
      refine E.iand dX12_proof_33 ?_
      refine E.if_ne dX12_proof_34 (fun h => ?_) (fun h => ?_)
      · have hf := e_iff hf h
        refine E.ldc2 dX12_proof_47 kX12_221 ?_
        cases hf
        exact E.lret dX12_proof_50 (Nat.le_refl _) (Nat.le_refl _) (pD_rf _ _ _)
      · have hf := e_ift hf h
        refine E.iload_n 3 dX12_proof_37 rfl ?_
        refine E.i2l dX12_proof_38 ?_
        refine E.lconst (v := 0) dX12_proof_39 (by decide) ?_
        refine E.lconst (v := 1) dX12_proof_40 (by decide) ?_
        obtain ⟨r3, hc3, hf⟩ := e_bind hf
        refine E.callSD [] dX12_proof_41 mlX12_134 (mX12_in hc3) ⟨Nat.le_of_ble_eq_true rfl, Nat.le_of_ble_eq_true rfl⟩ rfl rfl (Nat.le_of_ble_eq_true rfl) ⟨Nat.le_refl _, Nat.le_refl _⟩ rfl ?_
        refine E.if_ne dX12_proof_44 (fun h => ?_) (fun h => ?_)
        · have hf := e_iff hf h
          refine E.aload_n 0 dX12_proof_51 rfl ?_
          refine E.iload_n 1 dX12_proof_52 rfl ?_
          refine E.iload_n 2 dX12_proof_53 rfl ?_
          refine E.iload_n 3 dX12_proof_54 rfl ?_
          obtain ⟨r4, hc4, hf⟩ := e_bind hf
          refine E.callVD [] dX12_proof_55 mlX12_472 ⟨hw.sub (p := 0) rfl, e_ov_get hw.1 (p := 0) rfl rfl⟩ rfl rfl (mX12_proofOf hw hc4) ⟨Nat.le_of_ble_eq_true rfl, Nat.le_of_ble_eq_true rfl⟩ rfl rfl (Nat.le_of_ble_eq_true rfl) ⟨Nat.le_refl _, Nat.le_refl _⟩ rfl ?_
          cases hf
          exact E.lret dX12_proof_58 (Nat.le_refl _) (Nat.le_refl _) (pD_rf _ _ _)
        · have hf := e_ift hf h
          refine E.ldc2 dX12_proof_47 kX12_221 ?_
          cases hf
          exact E.lret dX12_proof_50 (Nat.le_refl _) (Nat.le_refl _) (pD_rf _ _ _)
set_option maxRecDepth 100000 in
theorem mX12_proof {G : GT} {b : Nat} {o : Nat} {c0 : Hp} {n : Nat} (hw : e_wf (kM o) n) {v_status : Int32} {a_refusals : Nat → Int32} {a_images : Nat → Int32} {a_isKept : Nat → Int32} {a_tape : Nat → Int32} {v_taped : Int32} {v_from : Int32} {v_to : Int32} {v_sort : Int32} {v_worth : Int64} {v_fault : Int32} {v_bad : Int32} {v_nClauses : Int32} {a_nClause : Nat → Int32} {v_nCode : Int32} {a_nOp : Nat → Int32} {a_nArg : Nat → Int32} {v_nLeaves : Int32} {a_pile : Nat → Int32} {a_pileAt : Nat → Int32} {v_piled : Int32} {v_opened : Int32} {a_words : Nat → Int64} {a_headWords : Nat → Int64} {v_law : Int32} {a_set : Nat → Int64} {a_rest : Nat → Int64} {v_broken : Int32} {v_value : Int64} {v_sum : Int64} {a_chances : Nat → Int32} {a_votes : Nat → Int64} {a_costs : Nat → Int32} {a_table : Nat → Int64} {a_prices : Nat → Int32} {v_surely : Int64} {a_mostBy : Nat → Int64} {a_leastBy : Nat → Int64} {v_between : Int64} {v_steadyWays : Int32} {v_quashed : Int32} {a_figures : Nat → Int32} {a_all : Nat → Int32} {a_lies : Nat → Int32} {a_since : Nat → Int32} {v_last : Int32} {v_state : Int64} {Fu : Nat} {v_thrown : Int32} {a_row : Nat → Int32} {v_but : Int32} {x1 : Int32} {x2 : Int32} {x3 : Int32} {R : Int64 × Int32} (hf : fX12_proof Fu v_thrown a_row v_but x1 x2 x3 = some R) : e_C G b yX12_proof cX12_proof 4 (some .long) 3 0 0 [.ref (b + o), .int x1, .int x2, .int x3] (e_ov (kM o) (wM G b o v_thrown v_status a_refusals a_row a_images a_isKept a_tape v_taped v_from v_to v_sort v_worth v_fault v_bad v_nClauses a_nClause v_nCode a_nOp a_nArg v_nLeaves a_pile a_pileAt v_piled v_opened a_words a_headWords v_law a_set a_rest v_broken v_value v_sum a_chances a_votes a_costs a_table a_prices v_surely a_mostBy a_leastBy v_between v_steadyWays v_quashed v_but a_figures a_all a_lies a_since v_last v_state) c0) n (pD (some (.long R.1)) (e_ov (kM o) (wM G b o R.2 v_status a_refusals a_row a_images a_isKept a_tape v_taped v_from v_to v_sort v_worth v_fault v_bad v_nClauses a_nClause v_nCode a_nOp a_nArg v_nLeaves a_pile a_pileAt v_piled v_opened a_words a_headWords v_law a_set a_rest v_broken v_value v_sum a_chances a_votes a_costs a_table a_prices v_surely a_mostBy a_leastBy v_between v_steadyWays v_quashed v_but a_figures a_all a_lies a_since v_last v_state) c0) n) := e_C.of (by decide) (Nat.le_of_ble_eq_true rfl) (tX12_proof hw hf)
def fX12_times_L5 (Fu : Nat) : Nat → (Nat → Int32) → Int64 → Int64 → Int32 → Option ((Nat → Int32))
  | 0, _, _, _, _ => none
  | k + 1, a_figures, x1, x3, x5 => if (100 : Int32) ≤ (x5 : Int32) then (some (a_figures)) else (gd x5 100 (gzl 10 (gd x5 100 (gzl 10 ((fX12_times_L5 Fu k) (va_up a_figures (x5 : Int32).toNatClampNeg ((((((((a_figures (x5 : Int32).toNatClampNeg) : Int32).toInt64) * x1) + x3) - (((((a_figures (x5 : Int32).toNatClampNeg) : Int32).toInt64) * x1) + x3) / 10 * 10) : Int64).toInt32)) x1 ((((((a_figures (x5 : Int32).toNatClampNeg) : Int32).toInt64) * x1) + x3) / 10) (x5 + 1))))))
set_option maxHeartbeats 4000000 in
set_option maxRecDepth 100000 in
theorem tX12_times_L5 {G : GT} {b : Nat} {o : Nat} {c0 : Hp} {n : Nat} (hw : e_wf (kM o) n) {v_thrown : Int32} {v_status : Int32} {a_refusals : Nat → Int32} {a_row : Nat → Int32} {a_images : Nat → Int32} {a_isKept : Nat → Int32} {a_tape : Nat → Int32} {v_taped : Int32} {v_from : Int32} {v_to : Int32} {v_sort : Int32} {v_worth : Int64} {v_fault : Int32} {v_bad : Int32} {v_nClauses : Int32} {a_nClause : Nat → Int32} {v_nCode : Int32} {a_nOp : Nat → Int32} {a_nArg : Nat → Int32} {v_nLeaves : Int32} {a_pile : Nat → Int32} {a_pileAt : Nat → Int32} {v_piled : Int32} {v_opened : Int32} {a_words : Nat → Int64} {a_headWords : Nat → Int64} {v_law : Int32} {a_set : Nat → Int64} {a_rest : Nat → Int64} {v_broken : Int32} {v_value : Int64} {v_sum : Int64} {a_chances : Nat → Int32} {a_votes : Nat → Int64} {a_costs : Nat → Int32} {a_table : Nat → Int64} {a_prices : Nat → Int32} {v_surely : Int64} {a_mostBy : Nat → Int64} {a_leastBy : Nat → Int64} {v_between : Int64} {v_steadyWays : Int32} {v_quashed : Int32} {v_but : Int32} {a_all : Nat → Int32} {a_lies : Nat → Int32} {a_since : Nat → Int32} {v_last : Int32} {v_state : Int64} {Fu : Nat} : ∀ (k : Nat) {a_figures : Nat → Int32} {x1 : Int64} {x3 : Int64} {x5 : Int32} {R : (Nat → Int32)}, fX12_times_L5 Fu k a_figures x1 x3 x5 = some R → E G b yX12_times cX12_times 8 none (e_rm 0 0 0) e_X0 (e_Z G b (pD none (e_ov (kM o) (wM G b o v_thrown v_status a_refusals a_row a_images a_isKept a_tape v_taped v_from v_to v_sort v_worth v_fault v_bad v_nClauses a_nClause v_nCode a_nOp a_nArg v_nLeaves a_pile a_pileAt v_piled v_opened a_words a_headWords v_law a_set a_rest v_broken v_value v_sum a_chances a_votes a_costs a_table a_prices v_surely a_mostBy a_leastBy v_between v_steadyWays v_quashed v_but R a_all a_lies a_since v_last v_state) c0) n) 0 0) 5 [(0, .ref (b + o)), (1, .long x1), (3, .long x3), (5, .int x5)] [] (e_ov (kM o) (wM G b o v_thrown v_status a_refusals a_row a_images a_isKept a_tape v_taped v_from v_to v_sort v_worth v_fault v_bad v_nClauses a_nClause v_nCode a_nOp a_nArg v_nLeaves a_pile a_pileAt v_piled v_opened a_words a_headWords v_law a_set a_rest v_broken v_value v_sum a_chances a_votes a_costs a_table a_prices v_surely a_mostBy a_leastBy v_between v_steadyWays v_quashed v_but a_figures a_all a_lies a_since v_last v_state) c0) n 0 0 := by
  intro k
  induction k with
  | zero =>
    intro _ _ _ _ _ hf
    have hf : (none : Option ((Nat → Int32))) = some _ := hf
    cases hf
  | succ k ih =>
    intro a_figures x1 x3 x5 R hf
    rw [fX12_times_L5] at hf
    refine E.iload 3 dX12_times_5 rfl ?_
    refine E.bipush (v := 100) dX12_times_7 (by decide) ?_
    refine E.icmp_ge dX12_times_9 (fun h => ?_) (fun h => ?_)
    · have hf := e_ift hf h
      cases hf
      exact E.vret dX12_times_53 (Nat.le_refl _) (Nat.le_refl _) (pD_rf _ _ _)
    · have hf := e_iff hf h
      refine E.aload_n 0 dX12_times_12 rfl ?_
      refine E.get hw 0 o dX12_times_13 flX12_109 rfl rfl rfl rfl ?_
      refine E.iload 3 dX12_times_16 rfl ?_
      obtain ⟨g1, hf⟩ := gd_some hf
      refine E.iald hw 22 (o + 22) dX12_times_18 rfl rfl g1 ?_
      refine E.i2l dX12_times_19 ?_
      refine E.lload_n 1 dX12_times_20 rfl ?_
      refine E.lmul dX12_times_21 ?_
      refine E.lload_n 2 dX12_times_22 rfl ?_
      refine E.ladd dX12_times_23 ?_
      refine E.lstore (lv' := [(6, .long (((((a_figures (x5 : Int32).toNatClampNeg) : Int32).toInt64) * x1) + x3)), (0, .ref (b + o)), (1, .long x1), (3, .long x3), (5, .int x5)]) dX12_times_24 (by decide) rfl ?_
      refine E.aload_n 1 dX12_times_26 rfl ?_
      refine E.get hw 0 o dX12_times_27 flX12_109 rfl rfl rfl rfl ?_
      refine E.iload 4 dX12_times_30 rfl ?_
      refine E.lload 0 dX12_times_32 rfl ?_
      refine E.ldc2 dX12_times_34 kX12_225 ?_
      obtain ⟨g2, hf⟩ := gzl_some hf
      refine E.lrem dX12_times_37 g2 ?_
      refine E.l2i dX12_times_38 ?_
      obtain ⟨g3, hf⟩ := gd_some hf
      refine E.iast (es' := (wM G b o v_thrown v_status a_refusals a_row a_images a_isKept a_tape v_taped v_from v_to v_sort v_worth v_fault v_bad v_nClauses a_nClause v_nCode a_nOp a_nArg v_nLeaves a_pile a_pileAt v_piled v_opened a_words a_headWords v_law a_set a_rest v_broken v_value v_sum a_chances a_votes a_costs a_table a_prices v_surely a_mostBy a_leastBy v_between v_steadyWays v_quashed v_but (va_up a_figures (x5 : Int32).toNatClampNeg ((((((((a_figures (x5 : Int32).toNatClampNeg) : Int32).toInt64) * x1) + x3) - (((((a_figures (x5 : Int32).toNatClampNeg) : Int32).toInt64) * x1) + x3) / 10 * 10) : Int64).toInt32)) a_all a_lies a_since v_last v_state)) hw 22 (o + 22) dX12_times_39 rfl rfl g3 rfl ?_
      refine E.lload 0 dX12_times_40 rfl ?_
      refine E.ldc2 dX12_times_42 kX12_225 ?_
      obtain ⟨g4, hf⟩ := gzl_some hf
      refine E.ldiv dX12_times_45 g4 ?_
      refine E.lstore_n (lv' := [(3, .long ((((((a_figures (x5 : Int32).toNatClampNeg) : Int32).toInt64) * x1) + x3) / 10)), (6, .long (((((a_figures (x5 : Int32).toNatClampNeg) : Int32).toInt64) * x1) + x3)), (0, .ref (b + o)), (1, .long x1), (5, .int x5)]) dX12_times_46 (by decide) rfl ?_
      refine E.iinc (q := 4) (v := (x5 + 1)) (lv' := [(5, .int (x5 + 1)), (3, .long ((((((a_figures (x5 : Int32).toNatClampNeg) : Int32).toInt64) * x1) + x3) / 10)), (6, .long (((((a_figures (x5 : Int32).toNatClampNeg) : Int32).toInt64) * x1) + x3)), (0, .ref (b + o)), (1, .long x1)]) dX12_times_47 rfl rfl (by decide) rfl ?_
      refine E.goto dX12_times_50 ?_
      refine E.locals [3, 4, 1, 0] rfl ?_
      exact ih hf
def fX12_times (Fu : Nat) (a_figures : Nat → Int32) (x1 : Int64) : Option ((Nat → Int32)) := fX12_times_L5 Fu Fu a_figures x1 0 0
set_option maxHeartbeats 4000000 in
set_option maxRecDepth 100000 in
theorem tX12_times {G : GT} {b : Nat} {o : Nat} {c0 : Hp} {n : Nat} (hw : e_wf (kM o) n) {v_thrown : Int32} {v_status : Int32} {a_refusals : Nat → Int32} {a_row : Nat → Int32} {a_images : Nat → Int32} {a_isKept : Nat → Int32} {a_tape : Nat → Int32} {v_taped : Int32} {v_from : Int32} {v_to : Int32} {v_sort : Int32} {v_worth : Int64} {v_fault : Int32} {v_bad : Int32} {v_nClauses : Int32} {a_nClause : Nat → Int32} {v_nCode : Int32} {a_nOp : Nat → Int32} {a_nArg : Nat → Int32} {v_nLeaves : Int32} {a_pile : Nat → Int32} {a_pileAt : Nat → Int32} {v_piled : Int32} {v_opened : Int32} {a_words : Nat → Int64} {a_headWords : Nat → Int64} {v_law : Int32} {a_set : Nat → Int64} {a_rest : Nat → Int64} {v_broken : Int32} {v_value : Int64} {v_sum : Int64} {a_chances : Nat → Int32} {a_votes : Nat → Int64} {a_costs : Nat → Int32} {a_table : Nat → Int64} {a_prices : Nat → Int32} {v_surely : Int64} {a_mostBy : Nat → Int64} {a_leastBy : Nat → Int64} {v_between : Int64} {v_steadyWays : Int32} {v_quashed : Int32} {v_but : Int32} {a_all : Nat → Int32} {a_lies : Nat → Int32} {a_since : Nat → Int32} {v_last : Int32} {v_state : Int64} {Fu : Nat} {a_figures : Nat → Int32} {x1 : Int64} {R : (Nat → Int32)} (hf : fX12_times Fu a_figures x1 = some R) : E G b yX12_times cX12_times 8 none (e_rm 0 0 0) e_X0 (e_Z G b (pD none (e_ov (kM o) (wM G b o v_thrown v_status a_refusals a_row a_images a_isKept a_tape v_taped v_from v_to v_sort v_worth v_fault v_bad v_nClauses a_nClause v_nCode a_nOp a_nArg v_nLeaves a_pile a_pileAt v_piled v_opened a_words a_headWords v_law a_set a_rest v_broken v_value v_sum a_chances a_votes a_costs a_table a_prices v_surely a_mostBy a_leastBy v_between v_steadyWays v_quashed v_but R a_all a_lies a_since v_last v_state) c0) n) 0 0) 0 [(0, .ref (b + o)), (1, .long x1)] [] (e_ov (kM o) (wM G b o v_thrown v_status a_refusals a_row a_images a_isKept a_tape v_taped v_from v_to v_sort v_worth v_fault v_bad v_nClauses a_nClause v_nCode a_nOp a_nArg v_nLeaves a_pile a_pileAt v_piled v_opened a_words a_headWords v_law a_set a_rest v_broken v_value v_sum a_chances a_votes a_costs a_table a_prices v_surely a_mostBy a_leastBy v_between v_steadyWays v_quashed v_but a_figures a_all a_lies a_since v_last v_state) c0) n 0 0 := by
  unfold fX12_times at hf
  refine E.lconst (v := 0) dX12_times_0 (by decide) ?_
  refine E.lstore_n (lv' := [(3, .long 0), (0, .ref (b + o)), (1, .long x1)]) dX12_times_1 (by decide) rfl ?_
  refine E.iconst (v := 0) dX12_times_2 (by decide) ?_
  refine E.istore (lv' := [(5, .int 0), (3, .long 0), (0, .ref (b + o)), (1, .long x1)]) dX12_times_3 (by decide) rfl ?_
  refine E.locals [2, 3, 1, 0] rfl ?_
  exact tX12_times_L5 hw _ hf
set_option maxRecDepth 100000 in
theorem mX12_times {G : GT} {b : Nat} {o : Nat} {c0 : Hp} {n : Nat} (hw : e_wf (kM o) n) {v_thrown : Int32} {v_status : Int32} {a_refusals : Nat → Int32} {a_row : Nat → Int32} {a_images : Nat → Int32} {a_isKept : Nat → Int32} {a_tape : Nat → Int32} {v_taped : Int32} {v_from : Int32} {v_to : Int32} {v_sort : Int32} {v_worth : Int64} {v_fault : Int32} {v_bad : Int32} {v_nClauses : Int32} {a_nClause : Nat → Int32} {v_nCode : Int32} {a_nOp : Nat → Int32} {a_nArg : Nat → Int32} {v_nLeaves : Int32} {a_pile : Nat → Int32} {a_pileAt : Nat → Int32} {v_piled : Int32} {v_opened : Int32} {a_words : Nat → Int64} {a_headWords : Nat → Int64} {v_law : Int32} {a_set : Nat → Int64} {a_rest : Nat → Int64} {v_broken : Int32} {v_value : Int64} {v_sum : Int64} {a_chances : Nat → Int32} {a_votes : Nat → Int64} {a_costs : Nat → Int32} {a_table : Nat → Int64} {a_prices : Nat → Int32} {v_surely : Int64} {a_mostBy : Nat → Int64} {a_leastBy : Nat → Int64} {v_between : Int64} {v_steadyWays : Int32} {v_quashed : Int32} {v_but : Int32} {a_all : Nat → Int32} {a_lies : Nat → Int32} {a_since : Nat → Int32} {v_last : Int32} {v_state : Int64} {Fu : Nat} {a_figures : Nat → Int32} {x1 : Int64} {R : (Nat → Int32)} (hf : fX12_times Fu a_figures x1 = some R) : e_C G b yX12_times cX12_times 8 none 0 0 0 [.ref (b + o), .long x1] (e_ov (kM o) (wM G b o v_thrown v_status a_refusals a_row a_images a_isKept a_tape v_taped v_from v_to v_sort v_worth v_fault v_bad v_nClauses a_nClause v_nCode a_nOp a_nArg v_nLeaves a_pile a_pileAt v_piled v_opened a_words a_headWords v_law a_set a_rest v_broken v_value v_sum a_chances a_votes a_costs a_table a_prices v_surely a_mostBy a_leastBy v_between v_steadyWays v_quashed v_but a_figures a_all a_lies a_since v_last v_state) c0) n (pD none (e_ov (kM o) (wM G b o v_thrown v_status a_refusals a_row a_images a_isKept a_tape v_taped v_from v_to v_sort v_worth v_fault v_bad v_nClauses a_nClause v_nCode a_nOp a_nArg v_nLeaves a_pile a_pileAt v_piled v_opened a_words a_headWords v_law a_set a_rest v_broken v_value v_sum a_chances a_votes a_costs a_table a_prices v_surely a_mostBy a_leastBy v_between v_steadyWays v_quashed v_but R a_all a_lies a_since v_last v_state) c0) n) := e_C.of (by decide) (Nat.le_of_ble_eq_true rfl) (tX12_times hw hf)
def fX12_add_L4 (Fu : Nat) : Nat → (Nat → Int32) → (Nat → Int32) → Int32 → Int32 → Option ((Nat → Int32))
  | 0, _, _, _, _ => none
  | k + 1, a_figures, a_all, x1, x2 => if (100 : Int32) ≤ (x2 : Int32) then (some (a_all)) else (gd x2 100 (gd x2 100 (gz 10 (gd x2 100 (gz 10 ((fX12_add_L4 Fu k) a_figures (va_up a_all (x2 : Int32).toNatClampNeg ((((a_all (x2 : Int32).toNatClampNeg) + (a_figures (x2 : Int32).toNatClampNeg)) + x1) - (((a_all (x2 : Int32).toNatClampNeg) + (a_figures (x2 : Int32).toNatClampNeg)) + x1) / 10 * 10)) ((((a_all (x2 : Int32).toNatClampNeg) + (a_figures (x2 : Int32).toNatClampNeg)) + x1) / 10) (x2 + 1)))))))
set_option maxHeartbeats 4000000 in
set_option maxRecDepth 100000 in
theorem tX12_add_L4 {G : GT} {b : Nat} {o : Nat} {c0 : Hp} {n : Nat} (hw : e_wf (kM o) n) {v_thrown : Int32} {v_status : Int32} {a_refusals : Nat → Int32} {a_row : Nat → Int32} {a_images : Nat → Int32} {a_isKept : Nat → Int32} {a_tape : Nat → Int32} {v_taped : Int32} {v_from : Int32} {v_to : Int32} {v_sort : Int32} {v_worth : Int64} {v_fault : Int32} {v_bad : Int32} {v_nClauses : Int32} {a_nClause : Nat → Int32} {v_nCode : Int32} {a_nOp : Nat → Int32} {a_nArg : Nat → Int32} {v_nLeaves : Int32} {a_pile : Nat → Int32} {a_pileAt : Nat → Int32} {v_piled : Int32} {v_opened : Int32} {a_words : Nat → Int64} {a_headWords : Nat → Int64} {v_law : Int32} {a_set : Nat → Int64} {a_rest : Nat → Int64} {v_broken : Int32} {v_value : Int64} {v_sum : Int64} {a_chances : Nat → Int32} {a_votes : Nat → Int64} {a_costs : Nat → Int32} {a_table : Nat → Int64} {a_prices : Nat → Int32} {v_surely : Int64} {a_mostBy : Nat → Int64} {a_leastBy : Nat → Int64} {v_between : Int64} {v_steadyWays : Int32} {v_quashed : Int32} {v_but : Int32} {a_lies : Nat → Int32} {a_since : Nat → Int32} {v_last : Int32} {v_state : Int64} {Fu : Nat} : ∀ (k : Nat) {a_figures : Nat → Int32} {a_all : Nat → Int32} {x1 : Int32} {x2 : Int32} {R : (Nat → Int32)}, fX12_add_L4 Fu k a_figures a_all x1 x2 = some R → E G b yX12_add cX12_add 4 none (e_rm 0 0 0) e_X0 (e_Z G b (pD none (e_ov (kM o) (wM G b o v_thrown v_status a_refusals a_row a_images a_isKept a_tape v_taped v_from v_to v_sort v_worth v_fault v_bad v_nClauses a_nClause v_nCode a_nOp a_nArg v_nLeaves a_pile a_pileAt v_piled v_opened a_words a_headWords v_law a_set a_rest v_broken v_value v_sum a_chances a_votes a_costs a_table a_prices v_surely a_mostBy a_leastBy v_between v_steadyWays v_quashed v_but a_figures R a_lies a_since v_last v_state) c0) n) 0 0) 4 [(0, .ref (b + o)), (1, .int x1), (2, .int x2)] [] (e_ov (kM o) (wM G b o v_thrown v_status a_refusals a_row a_images a_isKept a_tape v_taped v_from v_to v_sort v_worth v_fault v_bad v_nClauses a_nClause v_nCode a_nOp a_nArg v_nLeaves a_pile a_pileAt v_piled v_opened a_words a_headWords v_law a_set a_rest v_broken v_value v_sum a_chances a_votes a_costs a_table a_prices v_surely a_mostBy a_leastBy v_between v_steadyWays v_quashed v_but a_figures a_all a_lies a_since v_last v_state) c0) n 0 0 := by
  intro k
  induction k with
  | zero =>
    intro _ _ _ _ _ hf
    have hf : (none : Option ((Nat → Int32))) = some _ := hf
    cases hf
  | succ k ih =>
    intro a_figures a_all x1 x2 R hf
    rw [fX12_add_L4] at hf
    refine E.iload_n 2 dX12_add_4 rfl ?_
    refine E.bipush (v := 100) dX12_add_5 (by decide) ?_
    refine E.icmp_ge dX12_add_7 (fun h => ?_) (fun h => ?_)
    · have hf := e_ift hf h
      cases hf
      exact E.vret dX12_add_47 (Nat.le_refl _) (Nat.le_refl _) (pD_rf _ _ _)
    · have hf := e_iff hf h
      refine E.aload_n 0 dX12_add_10 rfl ?_
      refine E.get hw 0 o dX12_add_11 flX12_112 rfl rfl rfl rfl ?_
      refine E.iload_n 2 dX12_add_14 rfl ?_
      obtain ⟨g1, hf⟩ := gd_some hf
      refine E.iald hw 23 (o + 23) dX12_add_15 rfl rfl g1 ?_
      refine E.aload_n 0 dX12_add_16 rfl ?_
      refine E.get hw 0 o dX12_add_17 flX12_109 rfl rfl rfl rfl ?_
      refine E.iload_n 2 dX12_add_20 rfl ?_
      obtain ⟨g2, hf⟩ := gd_some hf
      refine E.iald hw 22 (o + 22) dX12_add_21 rfl rfl g2 ?_
      refine E.iadd dX12_add_22 ?_
      refine E.iload_n 1 dX12_add_23 rfl ?_
      refine E.iadd dX12_add_24 ?_
      refine E.istore_n (lv' := [(3, .int (((a_all (x2 : Int32).toNatClampNeg) + (a_figures (x2 : Int32).toNatClampNeg)) + x1)), (0, .ref (b + o)), (1, .int x1), (2, .int x2)]) dX12_add_25 (by decide) rfl ?_
      refine E.aload_n 1 dX12_add_26 rfl ?_
      refine E.get hw 0 o dX12_add_27 flX12_112 rfl rfl rfl rfl ?_
      refine E.iload_n 3 dX12_add_30 rfl ?_
      refine E.iload_n 0 dX12_add_31 rfl ?_
      refine E.bipush (v := 10) dX12_add_32 (by decide) ?_
      obtain ⟨g3, hf⟩ := gz_some hf
      refine E.irem dX12_add_34 g3 ?_
      obtain ⟨g4, hf⟩ := gd_some hf
      refine E.iast (es' := (wM G b o v_thrown v_status a_refusals a_row a_images a_isKept a_tape v_taped v_from v_to v_sort v_worth v_fault v_bad v_nClauses a_nClause v_nCode a_nOp a_nArg v_nLeaves a_pile a_pileAt v_piled v_opened a_words a_headWords v_law a_set a_rest v_broken v_value v_sum a_chances a_votes a_costs a_table a_prices v_surely a_mostBy a_leastBy v_between v_steadyWays v_quashed v_but a_figures (va_up a_all (x2 : Int32).toNatClampNeg ((((a_all (x2 : Int32).toNatClampNeg) + (a_figures (x2 : Int32).toNatClampNeg)) + x1) - (((a_all (x2 : Int32).toNatClampNeg) + (a_figures (x2 : Int32).toNatClampNeg)) + x1) / 10 * 10)) a_lies a_since v_last v_state)) hw 23 (o + 23) dX12_add_35 rfl rfl g4 rfl ?_
      refine E.iload_n 0 dX12_add_36 rfl ?_
      refine E.bipush (v := 10) dX12_add_37 (by decide) ?_
      obtain ⟨g5, hf⟩ := gz_some hf
      refine E.idiv dX12_add_39 g5 ?_
      refine E.istore_n (lv' := [(1, .int ((((a_all (x2 : Int32).toNatClampNeg) + (a_figures (x2 : Int32).toNatClampNeg)) + x1) / 10)), (3, .int (((a_all (x2 : Int32).toNatClampNeg) + (a_figures (x2 : Int32).toNatClampNeg)) + x1)), (0, .ref (b + o)), (2, .int x2)]) dX12_add_40 (by decide) rfl ?_
      refine E.iinc (q := 3) (v := (x2 + 1)) (lv' := [(2, .int (x2 + 1)), (1, .int ((((a_all (x2 : Int32).toNatClampNeg) + (a_figures (x2 : Int32).toNatClampNeg)) + x1) / 10)), (3, .int (((a_all (x2 : Int32).toNatClampNeg) + (a_figures (x2 : Int32).toNatClampNeg)) + x1)), (0, .ref (b + o))]) dX12_add_41 rfl rfl (by decide) rfl ?_
      refine E.goto dX12_add_44 ?_
      refine E.locals [3, 1, 0] rfl ?_
      exact ih hf
def fX12_add (Fu : Nat) (a_figures : Nat → Int32) (a_all : Nat → Int32) : Option ((Nat → Int32)) := fX12_add_L4 Fu Fu a_figures a_all 0 0
set_option maxHeartbeats 4000000 in
set_option maxRecDepth 100000 in
theorem tX12_add {G : GT} {b : Nat} {o : Nat} {c0 : Hp} {n : Nat} (hw : e_wf (kM o) n) {v_thrown : Int32} {v_status : Int32} {a_refusals : Nat → Int32} {a_row : Nat → Int32} {a_images : Nat → Int32} {a_isKept : Nat → Int32} {a_tape : Nat → Int32} {v_taped : Int32} {v_from : Int32} {v_to : Int32} {v_sort : Int32} {v_worth : Int64} {v_fault : Int32} {v_bad : Int32} {v_nClauses : Int32} {a_nClause : Nat → Int32} {v_nCode : Int32} {a_nOp : Nat → Int32} {a_nArg : Nat → Int32} {v_nLeaves : Int32} {a_pile : Nat → Int32} {a_pileAt : Nat → Int32} {v_piled : Int32} {v_opened : Int32} {a_words : Nat → Int64} {a_headWords : Nat → Int64} {v_law : Int32} {a_set : Nat → Int64} {a_rest : Nat → Int64} {v_broken : Int32} {v_value : Int64} {v_sum : Int64} {a_chances : Nat → Int32} {a_votes : Nat → Int64} {a_costs : Nat → Int32} {a_table : Nat → Int64} {a_prices : Nat → Int32} {v_surely : Int64} {a_mostBy : Nat → Int64} {a_leastBy : Nat → Int64} {v_between : Int64} {v_steadyWays : Int32} {v_quashed : Int32} {v_but : Int32} {a_lies : Nat → Int32} {a_since : Nat → Int32} {v_last : Int32} {v_state : Int64} {Fu : Nat} {a_figures : Nat → Int32} {a_all : Nat → Int32} {R : (Nat → Int32)} (hf : fX12_add Fu a_figures a_all = some R) : E G b yX12_add cX12_add 4 none (e_rm 0 0 0) e_X0 (e_Z G b (pD none (e_ov (kM o) (wM G b o v_thrown v_status a_refusals a_row a_images a_isKept a_tape v_taped v_from v_to v_sort v_worth v_fault v_bad v_nClauses a_nClause v_nCode a_nOp a_nArg v_nLeaves a_pile a_pileAt v_piled v_opened a_words a_headWords v_law a_set a_rest v_broken v_value v_sum a_chances a_votes a_costs a_table a_prices v_surely a_mostBy a_leastBy v_between v_steadyWays v_quashed v_but a_figures R a_lies a_since v_last v_state) c0) n) 0 0) 0 [(0, .ref (b + o))] [] (e_ov (kM o) (wM G b o v_thrown v_status a_refusals a_row a_images a_isKept a_tape v_taped v_from v_to v_sort v_worth v_fault v_bad v_nClauses a_nClause v_nCode a_nOp a_nArg v_nLeaves a_pile a_pileAt v_piled v_opened a_words a_headWords v_law a_set a_rest v_broken v_value v_sum a_chances a_votes a_costs a_table a_prices v_surely a_mostBy a_leastBy v_between v_steadyWays v_quashed v_but a_figures a_all a_lies a_since v_last v_state) c0) n 0 0 := by
  unfold fX12_add at hf
  refine E.iconst (v := 0) dX12_add_0 (by decide) ?_
  refine E.istore_n (lv' := [(1, .int 0), (0, .ref (b + o))]) dX12_add_1 (by decide) rfl ?_
  refine E.iconst (v := 0) dX12_add_2 (by decide) ?_
  refine E.istore_n (lv' := [(2, .int 0), (1, .int 0), (0, .ref (b + o))]) dX12_add_3 (by decide) rfl ?_
  refine E.locals [2, 1, 0] rfl ?_
  exact tX12_add_L4 hw _ hf
set_option maxRecDepth 100000 in
theorem mX12_add {G : GT} {b : Nat} {o : Nat} {c0 : Hp} {n : Nat} (hw : e_wf (kM o) n) {v_thrown : Int32} {v_status : Int32} {a_refusals : Nat → Int32} {a_row : Nat → Int32} {a_images : Nat → Int32} {a_isKept : Nat → Int32} {a_tape : Nat → Int32} {v_taped : Int32} {v_from : Int32} {v_to : Int32} {v_sort : Int32} {v_worth : Int64} {v_fault : Int32} {v_bad : Int32} {v_nClauses : Int32} {a_nClause : Nat → Int32} {v_nCode : Int32} {a_nOp : Nat → Int32} {a_nArg : Nat → Int32} {v_nLeaves : Int32} {a_pile : Nat → Int32} {a_pileAt : Nat → Int32} {v_piled : Int32} {v_opened : Int32} {a_words : Nat → Int64} {a_headWords : Nat → Int64} {v_law : Int32} {a_set : Nat → Int64} {a_rest : Nat → Int64} {v_broken : Int32} {v_value : Int64} {v_sum : Int64} {a_chances : Nat → Int32} {a_votes : Nat → Int64} {a_costs : Nat → Int32} {a_table : Nat → Int64} {a_prices : Nat → Int32} {v_surely : Int64} {a_mostBy : Nat → Int64} {a_leastBy : Nat → Int64} {v_between : Int64} {v_steadyWays : Int32} {v_quashed : Int32} {v_but : Int32} {a_lies : Nat → Int32} {a_since : Nat → Int32} {v_last : Int32} {v_state : Int64} {Fu : Nat} {a_figures : Nat → Int32} {a_all : Nat → Int32} {R : (Nat → Int32)} (hf : fX12_add Fu a_figures a_all = some R) : e_C G b yX12_add cX12_add 4 none 0 0 0 [.ref (b + o)] (e_ov (kM o) (wM G b o v_thrown v_status a_refusals a_row a_images a_isKept a_tape v_taped v_from v_to v_sort v_worth v_fault v_bad v_nClauses a_nClause v_nCode a_nOp a_nArg v_nLeaves a_pile a_pileAt v_piled v_opened a_words a_headWords v_law a_set a_rest v_broken v_value v_sum a_chances a_votes a_costs a_table a_prices v_surely a_mostBy a_leastBy v_between v_steadyWays v_quashed v_but a_figures a_all a_lies a_since v_last v_state) c0) n (pD none (e_ov (kM o) (wM G b o v_thrown v_status a_refusals a_row a_images a_isKept a_tape v_taped v_from v_to v_sort v_worth v_fault v_bad v_nClauses a_nClause v_nCode a_nOp a_nArg v_nLeaves a_pile a_pileAt v_piled v_opened a_words a_headWords v_law a_set a_rest v_broken v_value v_sum a_chances a_votes a_costs a_table a_prices v_surely a_mostBy a_leastBy v_between v_steadyWays v_quashed v_but a_figures R a_lies a_since v_last v_state) c0) n) := e_C.of (by decide) (Nat.le_of_ble_eq_true rfl) (tX12_add hw hf)
def fX12_appeal_L207 (Fu : Nat) : Nat → Int32 → (Nat → Int32) → Int32 → (Nat → Int64) → (Nat → Int64) → Int32 → Int64 → Int64 → (Nat → Int32) → (Nat → Int64) → (Nat → Int32) → (Nat → Int32) → Int32 → Int32 → Int32 → Int32 → Option (Int32 × Int32 × Int32 × (Nat → Int64) × (Nat → Int64) × Int32 × Int64 × Int64 × (Nat → Int32) × (Nat → Int64) × (Nat → Int32) × (Nat → Int32))
  | 0, _, _, _, _, _, _, _, _, _, _, _, _, _, _, _, _ => none
  | k + 1, v_thrown, a_row, v_law, a_set, a_rest, v_broken, v_value, v_sum, a_chances, a_votes, a_figures, a_all, x1, x2, x9, x10 => if (x10 : Int32) < (((2 * x2) * x1) : Int32) then (some (x9, v_thrown, v_law, a_set, a_rest, v_broken, v_value, v_sum, a_chances, a_votes, a_figures, a_all)) else (gd x10 100 ((fX12_appeal_L207 Fu k) v_thrown a_row v_law a_set a_rest v_broken v_value v_sum a_chances a_votes a_figures a_all x1 x2 ((10 * x9) + (a_all (x10 : Int32).toNatClampNeg)) (x10 + (-1 : Int32))))
set_option maxHeartbeats 4000000 in
set_option maxRecDepth 100000 in
theorem tX12_appeal_L207 {G : GT} {b : Nat} {o : Nat} {c0 : Hp} {n : Nat} (hw : e_wf (kM o) n) {v_status : Int32} {a_refusals : Nat → Int32} {a_images : Nat → Int32} {a_isKept : Nat → Int32} {a_tape : Nat → Int32} {v_taped : Int32} {v_from : Int32} {v_to : Int32} {v_sort : Int32} {v_worth : Int64} {v_fault : Int32} {v_bad : Int32} {v_nClauses : Int32} {a_nClause : Nat → Int32} {v_nCode : Int32} {a_nOp : Nat → Int32} {a_nArg : Nat → Int32} {v_nLeaves : Int32} {a_pile : Nat → Int32} {a_pileAt : Nat → Int32} {v_piled : Int32} {v_opened : Int32} {a_words : Nat → Int64} {a_headWords : Nat → Int64} {a_costs : Nat → Int32} {a_table : Nat → Int64} {a_prices : Nat → Int32} {v_surely : Int64} {a_mostBy : Nat → Int64} {a_leastBy : Nat → Int64} {v_between : Int64} {v_steadyWays : Int32} {v_quashed : Int32} {v_but : Int32} {a_lies : Nat → Int32} {a_since : Nat → Int32} {v_last : Int32} {v_state : Int64} {Fu : Nat} : ∀ (k : Nat) {v_thrown : Int32} {a_row : Nat → Int32} {v_law : Int32} {a_set : Nat → Int64} {a_rest : Nat → Int64} {v_broken : Int32} {v_value : Int64} {v_sum : Int64} {a_chances : Nat → Int32} {a_votes : Nat → Int64} {a_figures : Nat → Int32} {a_all : Nat → Int32} {x1 : Int32} {x2 : Int32} {x9 : Int32} {x10 : Int32} {R : Int32 × Int32 × Int32 × (Nat → Int64) × (Nat → Int64) × Int32 × Int64 × Int64 × (Nat → Int32) × (Nat → Int64) × (Nat → Int32) × (Nat → Int32)}, fX12_appeal_L207 Fu k v_thrown a_row v_law a_set a_rest v_broken v_value v_sum a_chances a_votes a_figures a_all x1 x2 x9 x10 = some R → E G b yX12_appeal cX12_appeal 11 (some .int) (e_rm 7 0 0) e_X0 (e_Z G b (pD (some (.int R.1)) (e_ov (kM o) (wM G b o R.2.1 v_status a_refusals a_row a_images a_isKept a_tape v_taped v_from v_to v_sort v_worth v_fault v_bad v_nClauses a_nClause v_nCode a_nOp a_nArg v_nLeaves a_pile a_pileAt v_piled v_opened a_words a_headWords R.2.2.1 R.2.2.2.1 R.2.2.2.2.1 R.2.2.2.2.2.1 R.2.2.2.2.2.2.1 R.2.2.2.2.2.2.2.1 R.2.2.2.2.2.2.2.2.1 R.2.2.2.2.2.2.2.2.2.1 a_costs a_table a_prices v_surely a_mostBy a_leastBy v_between v_steadyWays v_quashed v_but R.2.2.2.2.2.2.2.2.2.2.1 R.2.2.2.2.2.2.2.2.2.2.2 a_lies a_since v_last v_state) c0) n) 0 0) 207 [(0, .ref (b + o)), (1, .int x1), (2, .int x2), (9, .int x9), (10, .int x10)] [] (e_ov (kM o) (wM G b o v_thrown v_status a_refusals a_row a_images a_isKept a_tape v_taped v_from v_to v_sort v_worth v_fault v_bad v_nClauses a_nClause v_nCode a_nOp a_nArg v_nLeaves a_pile a_pileAt v_piled v_opened a_words a_headWords v_law a_set a_rest v_broken v_value v_sum a_chances a_votes a_costs a_table a_prices v_surely a_mostBy a_leastBy v_between v_steadyWays v_quashed v_but a_figures a_all a_lies a_since v_last v_state) c0) n 0 0 := by
  intro k
  induction k with
  | zero =>
    intro _ _ _ _ _ _ _ _ _ _ _ _ _ _ _ _ _ hf
    have hf : (none : Option (Int32 × Int32 × Int32 × (Nat → Int64) × (Nat → Int64) × Int32 × Int64 × Int64 × (Nat → Int32) × (Nat → Int64) × (Nat → Int32) × (Nat → Int32))) = some _ := hf
    cases hf
  | succ k ih =>
    intro v_thrown a_row v_law a_set a_rest v_broken v_value v_sum a_chances a_votes a_figures a_all x1 x2 x9 x10 R hf
    rw [fX12_appeal_L207] at hf
    refine E.iload 4 dX12_appeal_207 rfl ?_
    refine E.iconst (v := 2) dX12_appeal_209 (by decide) ?_
    refine E.iload_n 2 dX12_appeal_210 rfl ?_
    refine E.imul dX12_appeal_211 ?_
    refine E.iload_n 1 dX12_appeal_212 rfl ?_
    refine E.imul dX12_appeal_213 ?_
    refine E.icmp_lt dX12_appeal_214 (fun h => ?_) (fun h => ?_)
    · have hf := e_ift hf h
      refine E.iload 3 dX12_appeal_238 rfl ?_
      cases hf
      exact E.iret dX12_appeal_240 (Nat.le_refl _) (Nat.le_refl _) (pD_rf _ _ _)
    · have hf := e_iff hf h
      refine E.bipush (v := 10) dX12_appeal_217 (by decide) ?_
      refine E.iload 3 dX12_appeal_219 rfl ?_
      refine E.imul dX12_appeal_221 ?_
      refine E.aload_n 0 dX12_appeal_222 rfl ?_
      refine E.get hw 0 o dX12_appeal_223 flX12_112 rfl rfl rfl rfl ?_
      refine E.iload 4 dX12_appeal_226 rfl ?_
      obtain ⟨g9, hf⟩ := gd_some hf
      refine E.iald hw 23 (o + 23) dX12_appeal_228 rfl rfl g9 ?_
      refine E.iadd dX12_appeal_229 ?_
      refine E.istore (lv' := [(9, .int ((10 * x9) + (a_all (x10 : Int32).toNatClampNeg))), (0, .ref (b + o)), (1, .int x1), (2, .int x2), (10, .int x10)]) dX12_appeal_230 (by decide) rfl ?_
      refine E.iinc (q := 4) (v := (x10 + (-1 : Int32))) (lv' := [(10, .int (x10 + (-1 : Int32))), (9, .int ((10 * x9) + (a_all (x10 : Int32).toNatClampNeg))), (0, .ref (b + o)), (1, .int x1), (2, .int x2)]) dX12_appeal_232 rfl rfl (by decide) rfl ?_
      refine E.goto dX12_appeal_235 ?_
      refine E.locals [2, 3, 4, 1, 0] rfl ?_
      exact ih hf
def fX12_appeal_L165 (Fu : Nat) (k91 : Int32 → (Nat → Int32) → Int32 → (Nat → Int64) → (Nat → Int64) → Int32 → Int64 → Int64 → (Nat → Int32) → (Nat → Int64) → (Nat → Int32) → (Nat → Int32) → Int32 → Int32 → Int64 → Int64 → Int64 → Int32 → Option (Int32 × Int32 × Int32 × (Nat → Int64) × (Nat → Int64) × Int32 × Int64 × Int64 × (Nat → Int32) × (Nat → Int64) × (Nat → Int32) × (Nat → Int32))) (k145 : Int32 → (Nat → Int32) → Int32 → (Nat → Int64) → (Nat → Int64) → Int32 → Int64 → Int64 → (Nat → Int32) → (Nat → Int64) → (Nat → Int32) → (Nat → Int32) → Int32 → Int32 → Int64 → Int64 → Int64 → Int32 → Int32 → Option (Int32 × Int32 × Int32 × (Nat → Int64) × (Nat → Int64) × Int32 × Int64 × Int64 × (Nat → Int32) × (Nat → Int64) × (Nat → Int32) × (Nat → Int32))) (v_thrown : Int32) (a_row : Nat → Int32) (v_law : Int32) (a_set : Nat → Int64) (a_rest : Nat → Int64) (v_broken : Int32) (v_value : Int64) (v_sum : Int64) (a_chances : Nat → Int32) (a_votes : Nat → Int64) (a_figures : Nat → Int32) (a_all : Nat → Int32) (x1 : Int32) (x2 : Int32) (x3 : Int64) (x5 : Int64) (x7 : Int64) (x9 : Int32) (x10 : Int32) (s0 : Int64) : Option (Int32 × Int32 × Int32 × (Nat → Int64) × (Nat → Int64) × Int32 × Int64 × Int64 × (Nat → Int32) × (Nat → Int64) × (Nat → Int32) × (Nat → Int32)) := (fX12_times Fu a_figures s0).bind fun r13 => (k145 v_thrown a_row v_law a_set a_rest v_broken v_value v_sum a_chances a_votes r13 a_all x1 x2 x3 x5 x7 x9 (x10 + 1))
set_option maxHeartbeats 4000000 in
set_option maxRecDepth 100000 in
theorem tX12_appeal_L165 {G : GT} {b : Nat} {o : Nat} {c0 : Hp} {n : Nat} (hw : e_wf (kM o) n) {v_status : Int32} {a_refusals : Nat → Int32} {a_images : Nat → Int32} {a_isKept : Nat → Int32} {a_tape : Nat → Int32} {v_taped : Int32} {v_from : Int32} {v_to : Int32} {v_sort : Int32} {v_worth : Int64} {v_fault : Int32} {v_bad : Int32} {v_nClauses : Int32} {a_nClause : Nat → Int32} {v_nCode : Int32} {a_nOp : Nat → Int32} {a_nArg : Nat → Int32} {v_nLeaves : Int32} {a_pile : Nat → Int32} {a_pileAt : Nat → Int32} {v_piled : Int32} {v_opened : Int32} {a_words : Nat → Int64} {a_headWords : Nat → Int64} {a_costs : Nat → Int32} {a_table : Nat → Int64} {a_prices : Nat → Int32} {v_surely : Int64} {a_mostBy : Nat → Int64} {a_leastBy : Nat → Int64} {v_between : Int64} {v_steadyWays : Int32} {v_quashed : Int32} {v_but : Int32} {a_lies : Nat → Int32} {a_since : Nat → Int32} {v_last : Int32} {v_state : Int64} {Fu : Nat} {k91 : Int32 → (Nat → Int32) → Int32 → (Nat → Int64) → (Nat → Int64) → Int32 → Int64 → Int64 → (Nat → Int32) → (Nat → Int64) → (Nat → Int32) → (Nat → Int32) → Int32 → Int32 → Int64 → Int64 → Int64 → Int32 → Option (Int32 × Int32 × Int32 × (Nat → Int64) × (Nat → Int64) × Int32 × Int64 × Int64 × (Nat → Int32) × (Nat → Int64) × (Nat → Int32) × (Nat → Int32))} {k145 : Int32 → (Nat → Int32) → Int32 → (Nat → Int64) → (Nat → Int64) → Int32 → Int64 → Int64 → (Nat → Int32) → (Nat → Int64) → (Nat → Int32) → (Nat → Int32) → Int32 → Int32 → Int64 → Int64 → Int64 → Int32 → Int32 → Option (Int32 × Int32 × Int32 × (Nat → Int64) × (Nat → Int64) × Int32 × Int64 × Int64 × (Nat → Int32) × (Nat → Int64) × (Nat → Int32) × (Nat → Int32))} (hk91 : ∀ {v_thrown : Int32} {a_row : Nat → Int32} {v_law : Int32} {a_set : Nat → Int64} {a_rest : Nat → Int64} {v_broken : Int32} {v_value : Int64} {v_sum : Int64} {a_chances : Nat → Int32} {a_votes : Nat → Int64} {a_figures : Nat → Int32} {a_all : Nat → Int32} {x1 : Int32} {x2 : Int32} {x3 : Int64} {x5 : Int64} {x7 : Int64} {x9 : Int32} {R : Int32 × Int32 × Int32 × (Nat → Int64) × (Nat → Int64) × Int32 × Int64 × Int64 × (Nat → Int32) × (Nat → Int64) × (Nat → Int32) × (Nat → Int32)}, k91 v_thrown a_row v_law a_set a_rest v_broken v_value v_sum a_chances a_votes a_figures a_all x1 x2 x3 x5 x7 x9 = some R → E G b yX12_appeal cX12_appeal 11 (some .int) (e_rm 7 0 0) e_X0 (e_Z G b (pD (some (.int R.1)) (e_ov (kM o) (wM G b o R.2.1 v_status a_refusals a_row a_images a_isKept a_tape v_taped v_from v_to v_sort v_worth v_fault v_bad v_nClauses a_nClause v_nCode a_nOp a_nArg v_nLeaves a_pile a_pileAt v_piled v_opened a_words a_headWords R.2.2.1 R.2.2.2.1 R.2.2.2.2.1 R.2.2.2.2.2.1 R.2.2.2.2.2.2.1 R.2.2.2.2.2.2.2.1 R.2.2.2.2.2.2.2.2.1 R.2.2.2.2.2.2.2.2.2.1 a_costs a_table a_prices v_surely a_mostBy a_leastBy v_between v_steadyWays v_quashed v_but R.2.2.2.2.2.2.2.2.2.2.1 R.2.2.2.2.2.2.2.2.2.2.2 a_lies a_since v_last v_state) c0) n) 0 0) 91 [(0, .ref (b + o)), (1, .int x1), (2, .int x2), (3, .long x3), (5, .long x5), (7, .long x7), (9, .int x9)] [] (e_ov (kM o) (wM G b o v_thrown v_status a_refusals a_row a_images a_isKept a_tape v_taped v_from v_to v_sort v_worth v_fault v_bad v_nClauses a_nClause v_nCode a_nOp a_nArg v_nLeaves a_pile a_pileAt v_piled v_opened a_words a_headWords v_law a_set a_rest v_broken v_value v_sum a_chances a_votes a_costs a_table a_prices v_surely a_mostBy a_leastBy v_between v_steadyWays v_quashed v_but a_figures a_all a_lies a_since v_last v_state) c0) n 0 0) (hk145 : ∀ {v_thrown : Int32} {a_row : Nat → Int32} {v_law : Int32} {a_set : Nat → Int64} {a_rest : Nat → Int64} {v_broken : Int32} {v_value : Int64} {v_sum : Int64} {a_chances : Nat → Int32} {a_votes : Nat → Int64} {a_figures : Nat → Int32} {a_all : Nat → Int32} {x1 : Int32} {x2 : Int32} {x3 : Int64} {x5 : Int64} {x7 : Int64} {x9 : Int32} {x10 : Int32} {R : Int32 × Int32 × Int32 × (Nat → Int64) × (Nat → Int64) × Int32 × Int64 × Int64 × (Nat → Int32) × (Nat → Int64) × (Nat → Int32) × (Nat → Int32)}, k145 v_thrown a_row v_law a_set a_rest v_broken v_value v_sum a_chances a_votes a_figures a_all x1 x2 x3 x5 x7 x9 x10 = some R → E G b yX12_appeal cX12_appeal 11 (some .int) (e_rm 7 0 0) e_X0 (e_Z G b (pD (some (.int R.1)) (e_ov (kM o) (wM G b o R.2.1 v_status a_refusals a_row a_images a_isKept a_tape v_taped v_from v_to v_sort v_worth v_fault v_bad v_nClauses a_nClause v_nCode a_nOp a_nArg v_nLeaves a_pile a_pileAt v_piled v_opened a_words a_headWords R.2.2.1 R.2.2.2.1 R.2.2.2.2.1 R.2.2.2.2.2.1 R.2.2.2.2.2.2.1 R.2.2.2.2.2.2.2.1 R.2.2.2.2.2.2.2.2.1 R.2.2.2.2.2.2.2.2.2.1 a_costs a_table a_prices v_surely a_mostBy a_leastBy v_between v_steadyWays v_quashed v_but R.2.2.2.2.2.2.2.2.2.2.1 R.2.2.2.2.2.2.2.2.2.2.2 a_lies a_since v_last v_state) c0) n) 0 0) 145 [(0, .ref (b + o)), (1, .int x1), (2, .int x2), (3, .long x3), (5, .long x5), (7, .long x7), (9, .int x9), (10, .int x10)] [] (e_ov (kM o) (wM G b o v_thrown v_status a_refusals a_row a_images a_isKept a_tape v_taped v_from v_to v_sort v_worth v_fault v_bad v_nClauses a_nClause v_nCode a_nOp a_nArg v_nLeaves a_pile a_pileAt v_piled v_opened a_words a_headWords v_law a_set a_rest v_broken v_value v_sum a_chances a_votes a_costs a_table a_prices v_surely a_mostBy a_leastBy v_between v_steadyWays v_quashed v_but a_figures a_all a_lies a_since v_last v_state) c0) n 0 0) {v_thrown : Int32} {a_row : Nat → Int32} {v_law : Int32} {a_set : Nat → Int64} {a_rest : Nat → Int64} {v_broken : Int32} {v_value : Int64} {v_sum : Int64} {a_chances : Nat → Int32} {a_votes : Nat → Int64} {a_figures : Nat → Int32} {a_all : Nat → Int32} {x1 : Int32} {x2 : Int32} {x3 : Int64} {x5 : Int64} {x7 : Int64} {x9 : Int32} {x10 : Int32} {s0 : Int64} {R : Int32 × Int32 × Int32 × (Nat → Int64) × (Nat → Int64) × Int32 × Int64 × Int64 × (Nat → Int32) × (Nat → Int64) × (Nat → Int32) × (Nat → Int32)} (hf : fX12_appeal_L165 Fu k91 k145 v_thrown a_row v_law a_set a_rest v_broken v_value v_sum a_chances a_votes a_figures a_all x1 x2 x3 x5 x7 x9 x10 s0 = some R) : E G b yX12_appeal cX12_appeal 11 (some .int) (e_rm 7 0 0) e_X0 (e_Z G b (pD (some (.int R.1)) (e_ov (kM o) (wM G b o R.2.1 v_status a_refusals a_row a_images a_isKept a_tape v_taped v_from v_to v_sort v_worth v_fault v_bad v_nClauses a_nClause v_nCode a_nOp a_nArg v_nLeaves a_pile a_pileAt v_piled v_opened a_words a_headWords R.2.2.1 R.2.2.2.1 R.2.2.2.2.1 R.2.2.2.2.2.1 R.2.2.2.2.2.2.1 R.2.2.2.2.2.2.2.1 R.2.2.2.2.2.2.2.2.1 R.2.2.2.2.2.2.2.2.2.1 a_costs a_table a_prices v_surely a_mostBy a_leastBy v_between v_steadyWays v_quashed v_but R.2.2.2.2.2.2.2.2.2.2.1 R.2.2.2.2.2.2.2.2.2.2.2 a_lies a_since v_last v_state) c0) n) 0 0) 165 [(0, .ref (b + o)), (1, .int x1), (2, .int x2), (3, .long x3), (5, .long x5), (7, .long x7), (9, .int x9), (10, .int x10)] [.long s0, .ref (b + o)] (e_ov (kM o) (wM G b o v_thrown v_status a_refusals a_row a_images a_isKept a_tape v_taped v_from v_to v_sort v_worth v_fault v_bad v_nClauses a_nClause v_nCode a_nOp a_nArg v_nLeaves a_pile a_pileAt v_piled v_opened a_words a_headWords v_law a_set a_rest v_broken v_value v_sum a_chances a_votes a_costs a_table a_prices v_surely a_mostBy a_leastBy v_between v_steadyWays v_quashed v_but a_figures a_all a_lies a_since v_last v_state) c0) n 0 0 := by
  unfold fX12_appeal_L165 at hf
  obtain ⟨r13, hc13, hf⟩ := e_bind hf
  refine E.callVD [] dX12_appeal_165 mlX12_479 ⟨hw.sub (p := 0) rfl, e_ov_get hw.1 (p := 0) rfl rfl⟩ rfl rfl (mX12_times hw hc13) ⟨Nat.le_of_ble_eq_true rfl, Nat.le_of_ble_eq_true rfl⟩ rfl rfl (Nat.le_of_ble_eq_true rfl) ⟨Nat.le_refl _, Nat.le_refl _⟩ rfl ?_
  refine E.iinc (q := 7) (v := (x10 + 1)) (lv' := [(10, .int (x10 + 1)), (0, .ref (b + o)), (1, .int x1), (2, .int x2), (3, .long x3), (5, .long x5), (7, .long x7), (9, .int x9)]) dX12_appeal_168 rfl rfl (by decide) rfl ?_
  refine E.goto dX12_appeal_171 ?_
  refine E.locals [1, 2, 3, 4, 5, 6, 7, 0] rfl ?_
  exact hk145 hf
def fX12_appeal_L145 (Fu : Nat) (k91 : Int32 → (Nat → Int32) → Int32 → (Nat → Int64) → (Nat → Int64) → Int32 → Int64 → Int64 → (Nat → Int32) → (Nat → Int64) → (Nat → Int32) → (Nat → Int32) → Int32 → Int32 → Int64 → Int64 → Int64 → Int32 → Option (Int32 × Int32 × Int32 × (Nat → Int64) × (Nat → Int64) × Int32 × Int64 × Int64 × (Nat → Int32) × (Nat → Int64) × (Nat → Int32) × (Nat → Int32))) : Nat → Int32 → (Nat → Int32) → Int32 → (Nat → Int64) → (Nat → Int64) → Int32 → Int64 → Int64 → (Nat → Int32) → (Nat → Int64) → (Nat → Int32) → (Nat → Int32) → Int32 → Int32 → Int64 → Int64 → Int64 → Int32 → Int32 → Option (Int32 × Int32 × Int32 × (Nat → Int64) × (Nat → Int64) × Int32 × Int64 × Int64 × (Nat → Int32) × (Nat → Int64) × (Nat → Int32) × (Nat → Int32))
  | 0, _, _, _, _, _, _, _, _, _, _, _, _, _, _, _, _, _, _, _ => none
  | k + 1, v_thrown, a_row, v_law, a_set, a_rest, v_broken, v_value, v_sum, a_chances, a_votes, a_figures, a_all, x1, x2, x3, x5, x7, x9, x10 => if (x1 : Int32) ≤ (x10 : Int32) then ((fX12_add Fu a_figures a_all).bind fun r11 => (gzl ((((x1 - x9) + 1) : Int32).toInt64) (k91 v_thrown a_row v_law a_set a_rest v_broken v_value v_sum a_chances a_votes a_figures r11 x1 x2 x3 x5 ((x7 * ((x9 : Int32).toInt64)) / ((((x1 - x9) + 1) : Int32).toInt64)) (x9 + (-1 : Int32))))) else (if (x9 : Int32) ≤ (x10 : Int32) then (fX12_appeal_L165 Fu k91 (fX12_appeal_L145 Fu k91 k) v_thrown a_row v_law a_set a_rest v_broken v_value v_sum a_chances a_votes a_figures a_all x1 x2 x3 x5 x7 x9 x10 x5) else (fX12_appeal_L165 Fu k91 (fX12_appeal_L145 Fu k91 k) v_thrown a_row v_law a_set a_rest v_broken v_value v_sum a_chances a_votes a_figures a_all x1 x2 x3 x5 x7 x9 x10 x3))
set_option maxHeartbeats 4000000 in
set_option maxRecDepth 100000 in
theorem tX12_appeal_L145 {G : GT} {b : Nat} {o : Nat} {c0 : Hp} {n : Nat} (hw : e_wf (kM o) n) {v_status : Int32} {a_refusals : Nat → Int32} {a_images : Nat → Int32} {a_isKept : Nat → Int32} {a_tape : Nat → Int32} {v_taped : Int32} {v_from : Int32} {v_to : Int32} {v_sort : Int32} {v_worth : Int64} {v_fault : Int32} {v_bad : Int32} {v_nClauses : Int32} {a_nClause : Nat → Int32} {v_nCode : Int32} {a_nOp : Nat → Int32} {a_nArg : Nat → Int32} {v_nLeaves : Int32} {a_pile : Nat → Int32} {a_pileAt : Nat → Int32} {v_piled : Int32} {v_opened : Int32} {a_words : Nat → Int64} {a_headWords : Nat → Int64} {a_costs : Nat → Int32} {a_table : Nat → Int64} {a_prices : Nat → Int32} {v_surely : Int64} {a_mostBy : Nat → Int64} {a_leastBy : Nat → Int64} {v_between : Int64} {v_steadyWays : Int32} {v_quashed : Int32} {v_but : Int32} {a_lies : Nat → Int32} {a_since : Nat → Int32} {v_last : Int32} {v_state : Int64} {Fu : Nat} {k91 : Int32 → (Nat → Int32) → Int32 → (Nat → Int64) → (Nat → Int64) → Int32 → Int64 → Int64 → (Nat → Int32) → (Nat → Int64) → (Nat → Int32) → (Nat → Int32) → Int32 → Int32 → Int64 → Int64 → Int64 → Int32 → Option (Int32 × Int32 × Int32 × (Nat → Int64) × (Nat → Int64) × Int32 × Int64 × Int64 × (Nat → Int32) × (Nat → Int64) × (Nat → Int32) × (Nat → Int32))} (hk91 : ∀ {v_thrown : Int32} {a_row : Nat → Int32} {v_law : Int32} {a_set : Nat → Int64} {a_rest : Nat → Int64} {v_broken : Int32} {v_value : Int64} {v_sum : Int64} {a_chances : Nat → Int32} {a_votes : Nat → Int64} {a_figures : Nat → Int32} {a_all : Nat → Int32} {x1 : Int32} {x2 : Int32} {x3 : Int64} {x5 : Int64} {x7 : Int64} {x9 : Int32} {R : Int32 × Int32 × Int32 × (Nat → Int64) × (Nat → Int64) × Int32 × Int64 × Int64 × (Nat → Int32) × (Nat → Int64) × (Nat → Int32) × (Nat → Int32)}, k91 v_thrown a_row v_law a_set a_rest v_broken v_value v_sum a_chances a_votes a_figures a_all x1 x2 x3 x5 x7 x9 = some R → E G b yX12_appeal cX12_appeal 11 (some .int) (e_rm 7 0 0) e_X0 (e_Z G b (pD (some (.int R.1)) (e_ov (kM o) (wM G b o R.2.1 v_status a_refusals a_row a_images a_isKept a_tape v_taped v_from v_to v_sort v_worth v_fault v_bad v_nClauses a_nClause v_nCode a_nOp a_nArg v_nLeaves a_pile a_pileAt v_piled v_opened a_words a_headWords R.2.2.1 R.2.2.2.1 R.2.2.2.2.1 R.2.2.2.2.2.1 R.2.2.2.2.2.2.1 R.2.2.2.2.2.2.2.1 R.2.2.2.2.2.2.2.2.1 R.2.2.2.2.2.2.2.2.2.1 a_costs a_table a_prices v_surely a_mostBy a_leastBy v_between v_steadyWays v_quashed v_but R.2.2.2.2.2.2.2.2.2.2.1 R.2.2.2.2.2.2.2.2.2.2.2 a_lies a_since v_last v_state) c0) n) 0 0) 91 [(0, .ref (b + o)), (1, .int x1), (2, .int x2), (3, .long x3), (5, .long x5), (7, .long x7), (9, .int x9)] [] (e_ov (kM o) (wM G b o v_thrown v_status a_refusals a_row a_images a_isKept a_tape v_taped v_from v_to v_sort v_worth v_fault v_bad v_nClauses a_nClause v_nCode a_nOp a_nArg v_nLeaves a_pile a_pileAt v_piled v_opened a_words a_headWords v_law a_set a_rest v_broken v_value v_sum a_chances a_votes a_costs a_table a_prices v_surely a_mostBy a_leastBy v_between v_steadyWays v_quashed v_but a_figures a_all a_lies a_since v_last v_state) c0) n 0 0) : ∀ (k : Nat) {v_thrown : Int32} {a_row : Nat → Int32} {v_law : Int32} {a_set : Nat → Int64} {a_rest : Nat → Int64} {v_broken : Int32} {v_value : Int64} {v_sum : Int64} {a_chances : Nat → Int32} {a_votes : Nat → Int64} {a_figures : Nat → Int32} {a_all : Nat → Int32} {x1 : Int32} {x2 : Int32} {x3 : Int64} {x5 : Int64} {x7 : Int64} {x9 : Int32} {x10 : Int32} {R : Int32 × Int32 × Int32 × (Nat → Int64) × (Nat → Int64) × Int32 × Int64 × Int64 × (Nat → Int32) × (Nat → Int64) × (Nat → Int32) × (Nat → Int32)}, fX12_appeal_L145 Fu k91 k v_thrown a_row v_law a_set a_rest v_broken v_value v_sum a_chances a_votes a_figures a_all x1 x2 x3 x5 x7 x9 x10 = some R → E G b yX12_appeal cX12_appeal 11 (some .int) (e_rm 7 0 0) e_X0 (e_Z G b (pD (some (.int R.1)) (e_ov (kM o) (wM G b o R.2.1 v_status a_refusals a_row a_images a_isKept a_tape v_taped v_from v_to v_sort v_worth v_fault v_bad v_nClauses a_nClause v_nCode a_nOp a_nArg v_nLeaves a_pile a_pileAt v_piled v_opened a_words a_headWords R.2.2.1 R.2.2.2.1 R.2.2.2.2.1 R.2.2.2.2.2.1 R.2.2.2.2.2.2.1 R.2.2.2.2.2.2.2.1 R.2.2.2.2.2.2.2.2.1 R.2.2.2.2.2.2.2.2.2.1 a_costs a_table a_prices v_surely a_mostBy a_leastBy v_between v_steadyWays v_quashed v_but R.2.2.2.2.2.2.2.2.2.2.1 R.2.2.2.2.2.2.2.2.2.2.2 a_lies a_since v_last v_state) c0) n) 0 0) 145 [(0, .ref (b + o)), (1, .int x1), (2, .int x2), (3, .long x3), (5, .long x5), (7, .long x7), (9, .int x9), (10, .int x10)] [] (e_ov (kM o) (wM G b o v_thrown v_status a_refusals a_row a_images a_isKept a_tape v_taped v_from v_to v_sort v_worth v_fault v_bad v_nClauses a_nClause v_nCode a_nOp a_nArg v_nLeaves a_pile a_pileAt v_piled v_opened a_words a_headWords v_law a_set a_rest v_broken v_value v_sum a_chances a_votes a_costs a_table a_prices v_surely a_mostBy a_leastBy v_between v_steadyWays v_quashed v_but a_figures a_all a_lies a_since v_last v_state) c0) n 0 0 := by
  intro k
  induction k with
  | zero =>
    intro _ _ _ _ _ _ _ _ _ _ _ _ _ _ _ _ _ _ _ _ hf
    have hf : (none : Option (Int32 × Int32 × Int32 × (Nat → Int64) × (Nat → Int64) × Int32 × Int64 × Int64 × (Nat → Int32) × (Nat → Int64) × (Nat → Int32) × (Nat → Int32))) = some _ := hf
    cases hf
  | succ k ih =>
    intro v_thrown a_row v_law a_set a_rest v_broken v_value v_sum a_chances a_votes a_figures a_all x1 x2 x3 x5 x7 x9 x10 R hf
    rw [fX12_appeal_L145] at hf
    refine E.iload 7 dX12_appeal_145 rfl ?_
    refine E.iload_n 1 dX12_appeal_147 rfl ?_
    refine E.icmp_ge dX12_appeal_148 (fun h => ?_) (fun h => ?_)
    · have hf := e_ift hf h
      refine E.aload_n 0 dX12_appeal_174 rfl ?_
      obtain ⟨r11, hc11, hf⟩ := e_bind hf
      refine E.callVD [] dX12_appeal_175 mlX12_483 ⟨hw.sub (p := 0) rfl, e_ov_get hw.1 (p := 0) rfl rfl⟩ rfl rfl (mX12_add hw hc11) ⟨Nat.le_of_ble_eq_true rfl, Nat.le_of_ble_eq_true rfl⟩ rfl rfl (Nat.le_of_ble_eq_true rfl) ⟨Nat.le_refl _, Nat.le_refl _⟩ rfl ?_
      refine E.lload 5 dX12_appeal_178 rfl ?_
      refine E.iload 6 dX12_appeal_180 rfl ?_
      refine E.i2l dX12_appeal_182 ?_
      refine E.lmul dX12_appeal_183 ?_
      refine E.iload_n 1 dX12_appeal_184 rfl ?_
      refine E.iload 6 dX12_appeal_185 rfl ?_
      refine E.isub dX12_appeal_187 ?_
      refine E.iconst (v := 1) dX12_appeal_188 (by decide) ?_
      refine E.iadd dX12_appeal_189 ?_
      refine E.i2l dX12_appeal_190 ?_
      obtain ⟨g12, hf⟩ := gzl_some hf
      refine E.ldiv dX12_appeal_191 g12 ?_
      refine E.lstore (lv' := [(7, .long ((x7 * ((x9 : Int32).toInt64)) / ((((x1 - x9) + 1) : Int32).toInt64))), (0, .ref (b + o)), (1, .int x1), (2, .int x2), (3, .long x3), (5, .long x5), (9, .int x9), (10, .int x10)]) dX12_appeal_192 (by decide) rfl ?_
      refine E.iinc (q := 6) (v := (x9 + (-1 : Int32))) (lv' := [(9, .int (x9 + (-1 : Int32))), (7, .long ((x7 * ((x9 : Int32).toInt64)) / ((((x1 - x9) + 1) : Int32).toInt64))), (0, .ref (b + o)), (1, .int x1), (2, .int x2), (3, .long x3), (5, .long x5), (10, .int x10)]) dX12_appeal_194 rfl rfl (by decide) rfl ?_
      refine E.goto dX12_appeal_197 ?_
      refine E.locals [2, 3, 4, 5, 6, 1, 0] rfl ?_
      exact hk91 hf
    · have hf := e_iff hf h
      refine E.aload_n 0 dX12_appeal_151 rfl ?_
      refine E.iload 7 dX12_appeal_152 rfl ?_
      refine E.iload 6 dX12_appeal_154 rfl ?_
      refine E.icmp_ge dX12_appeal_156 (fun h => ?_) (fun h => ?_)
      · have hf := e_ift hf h
        refine E.lload 4 dX12_appeal_163 rfl ?_
        exact tX12_appeal_L165 hw hk91 ih hf
      · have hf := e_iff hf h
        refine E.lload_n 3 dX12_appeal_159 rfl ?_
        refine E.goto dX12_appeal_160 ?_
        exact tX12_appeal_L165 hw hk91 ih hf
def fX12_appeal_L125 (Fu : Nat) (k91 : Int32 → (Nat → Int32) → Int32 → (Nat → Int64) → (Nat → Int64) → Int32 → Int64 → Int64 → (Nat → Int32) → (Nat → Int64) → (Nat → Int32) → (Nat → Int32) → Int32 → Int32 → Int64 → Int64 → Int64 → Int32 → Option (Int32 × Int32 × Int32 × (Nat → Int64) × (Nat → Int64) × Int32 × Int64 × Int64 × (Nat → Int32) × (Nat → Int64) × (Nat → Int32) × (Nat → Int32))) (k102 : Int32 → (Nat → Int32) → Int32 → (Nat → Int64) → (Nat → Int64) → Int32 → Int64 → Int64 → (Nat → Int32) → (Nat → Int64) → (Nat → Int32) → (Nat → Int32) → Int32 → Int32 → Int64 → Int64 → Int64 → Int32 → Int32 → Option (Int32 × Int32 × Int32 × (Nat → Int64) × (Nat → Int64) × Int32 × Int64 × Int64 × (Nat → Int32) × (Nat → Int64) × (Nat → Int32) × (Nat → Int32))) (v_thrown : Int32) (a_row : Nat → Int32) (v_law : Int32) (a_set : Nat → Int64) (a_rest : Nat → Int64) (v_broken : Int32) (v_value : Int64) (v_sum : Int64) (a_chances : Nat → Int32) (a_votes : Nat → Int64) (a_figures : Nat → Int32) (a_all : Nat → Int32) (x1 : Int32) (x2 : Int32) (x3 : Int64) (x5 : Int64) (x7 : Int64) (x9 : Int32) (x10 : Int32) (s0 : Int32) (s1 : Int32) : Option (Int32 × Int32 × Int32 × (Nat → Int64) × (Nat → Int64) × Int32 × Int64 × Int64 × (Nat → Int32) × (Nat → Int64) × (Nat → Int32) × (Nat → Int32)) := gd s1 100 (k102 v_thrown a_row v_law a_set a_rest v_broken v_value v_sum a_chances a_votes (va_up a_figures (s1 : Int32).toNatClampNeg s0) a_all x1 x2 x3 x5 x7 x9 (x10 + 1))
set_option maxHeartbeats 4000000 in
set_option maxRecDepth 100000 in
theorem tX12_appeal_L125 {G : GT} {b : Nat} {o : Nat} {c0 : Hp} {n : Nat} (hw : e_wf (kM o) n) {v_status : Int32} {a_refusals : Nat → Int32} {a_images : Nat → Int32} {a_isKept : Nat → Int32} {a_tape : Nat → Int32} {v_taped : Int32} {v_from : Int32} {v_to : Int32} {v_sort : Int32} {v_worth : Int64} {v_fault : Int32} {v_bad : Int32} {v_nClauses : Int32} {a_nClause : Nat → Int32} {v_nCode : Int32} {a_nOp : Nat → Int32} {a_nArg : Nat → Int32} {v_nLeaves : Int32} {a_pile : Nat → Int32} {a_pileAt : Nat → Int32} {v_piled : Int32} {v_opened : Int32} {a_words : Nat → Int64} {a_headWords : Nat → Int64} {a_costs : Nat → Int32} {a_table : Nat → Int64} {a_prices : Nat → Int32} {v_surely : Int64} {a_mostBy : Nat → Int64} {a_leastBy : Nat → Int64} {v_between : Int64} {v_steadyWays : Int32} {v_quashed : Int32} {v_but : Int32} {a_lies : Nat → Int32} {a_since : Nat → Int32} {v_last : Int32} {v_state : Int64} {Fu : Nat} {k91 : Int32 → (Nat → Int32) → Int32 → (Nat → Int64) → (Nat → Int64) → Int32 → Int64 → Int64 → (Nat → Int32) → (Nat → Int64) → (Nat → Int32) → (Nat → Int32) → Int32 → Int32 → Int64 → Int64 → Int64 → Int32 → Option (Int32 × Int32 × Int32 × (Nat → Int64) × (Nat → Int64) × Int32 × Int64 × Int64 × (Nat → Int32) × (Nat → Int64) × (Nat → Int32) × (Nat → Int32))} {k102 : Int32 → (Nat → Int32) → Int32 → (Nat → Int64) → (Nat → Int64) → Int32 → Int64 → Int64 → (Nat → Int32) → (Nat → Int64) → (Nat → Int32) → (Nat → Int32) → Int32 → Int32 → Int64 → Int64 → Int64 → Int32 → Int32 → Option (Int32 × Int32 × Int32 × (Nat → Int64) × (Nat → Int64) × Int32 × Int64 × Int64 × (Nat → Int32) × (Nat → Int64) × (Nat → Int32) × (Nat → Int32))} (hk91 : ∀ {v_thrown : Int32} {a_row : Nat → Int32} {v_law : Int32} {a_set : Nat → Int64} {a_rest : Nat → Int64} {v_broken : Int32} {v_value : Int64} {v_sum : Int64} {a_chances : Nat → Int32} {a_votes : Nat → Int64} {a_figures : Nat → Int32} {a_all : Nat → Int32} {x1 : Int32} {x2 : Int32} {x3 : Int64} {x5 : Int64} {x7 : Int64} {x9 : Int32} {R : Int32 × Int32 × Int32 × (Nat → Int64) × (Nat → Int64) × Int32 × Int64 × Int64 × (Nat → Int32) × (Nat → Int64) × (Nat → Int32) × (Nat → Int32)}, k91 v_thrown a_row v_law a_set a_rest v_broken v_value v_sum a_chances a_votes a_figures a_all x1 x2 x3 x5 x7 x9 = some R → E G b yX12_appeal cX12_appeal 11 (some .int) (e_rm 7 0 0) e_X0 (e_Z G b (pD (some (.int R.1)) (e_ov (kM o) (wM G b o R.2.1 v_status a_refusals a_row a_images a_isKept a_tape v_taped v_from v_to v_sort v_worth v_fault v_bad v_nClauses a_nClause v_nCode a_nOp a_nArg v_nLeaves a_pile a_pileAt v_piled v_opened a_words a_headWords R.2.2.1 R.2.2.2.1 R.2.2.2.2.1 R.2.2.2.2.2.1 R.2.2.2.2.2.2.1 R.2.2.2.2.2.2.2.1 R.2.2.2.2.2.2.2.2.1 R.2.2.2.2.2.2.2.2.2.1 a_costs a_table a_prices v_surely a_mostBy a_leastBy v_between v_steadyWays v_quashed v_but R.2.2.2.2.2.2.2.2.2.2.1 R.2.2.2.2.2.2.2.2.2.2.2 a_lies a_since v_last v_state) c0) n) 0 0) 91 [(0, .ref (b + o)), (1, .int x1), (2, .int x2), (3, .long x3), (5, .long x5), (7, .long x7), (9, .int x9)] [] (e_ov (kM o) (wM G b o v_thrown v_status a_refusals a_row a_images a_isKept a_tape v_taped v_from v_to v_sort v_worth v_fault v_bad v_nClauses a_nClause v_nCode a_nOp a_nArg v_nLeaves a_pile a_pileAt v_piled v_opened a_words a_headWords v_law a_set a_rest v_broken v_value v_sum a_chances a_votes a_costs a_table a_prices v_surely a_mostBy a_leastBy v_between v_steadyWays v_quashed v_but a_figures a_all a_lies a_since v_last v_state) c0) n 0 0) (hk102 : ∀ {v_thrown : Int32} {a_row : Nat → Int32} {v_law : Int32} {a_set : Nat → Int64} {a_rest : Nat → Int64} {v_broken : Int32} {v_value : Int64} {v_sum : Int64} {a_chances : Nat → Int32} {a_votes : Nat → Int64} {a_figures : Nat → Int32} {a_all : Nat → Int32} {x1 : Int32} {x2 : Int32} {x3 : Int64} {x5 : Int64} {x7 : Int64} {x9 : Int32} {x10 : Int32} {R : Int32 × Int32 × Int32 × (Nat → Int64) × (Nat → Int64) × Int32 × Int64 × Int64 × (Nat → Int32) × (Nat → Int64) × (Nat → Int32) × (Nat → Int32)}, k102 v_thrown a_row v_law a_set a_rest v_broken v_value v_sum a_chances a_votes a_figures a_all x1 x2 x3 x5 x7 x9 x10 = some R → E G b yX12_appeal cX12_appeal 11 (some .int) (e_rm 7 0 0) e_X0 (e_Z G b (pD (some (.int R.1)) (e_ov (kM o) (wM G b o R.2.1 v_status a_refusals a_row a_images a_isKept a_tape v_taped v_from v_to v_sort v_worth v_fault v_bad v_nClauses a_nClause v_nCode a_nOp a_nArg v_nLeaves a_pile a_pileAt v_piled v_opened a_words a_headWords R.2.2.1 R.2.2.2.1 R.2.2.2.2.1 R.2.2.2.2.2.1 R.2.2.2.2.2.2.1 R.2.2.2.2.2.2.2.1 R.2.2.2.2.2.2.2.2.1 R.2.2.2.2.2.2.2.2.2.1 a_costs a_table a_prices v_surely a_mostBy a_leastBy v_between v_steadyWays v_quashed v_but R.2.2.2.2.2.2.2.2.2.2.1 R.2.2.2.2.2.2.2.2.2.2.2 a_lies a_since v_last v_state) c0) n) 0 0) 102 [(0, .ref (b + o)), (1, .int x1), (2, .int x2), (3, .long x3), (5, .long x5), (7, .long x7), (9, .int x9), (10, .int x10)] [] (e_ov (kM o) (wM G b o v_thrown v_status a_refusals a_row a_images a_isKept a_tape v_taped v_from v_to v_sort v_worth v_fault v_bad v_nClauses a_nClause v_nCode a_nOp a_nArg v_nLeaves a_pile a_pileAt v_piled v_opened a_words a_headWords v_law a_set a_rest v_broken v_value v_sum a_chances a_votes a_costs a_table a_prices v_surely a_mostBy a_leastBy v_between v_steadyWays v_quashed v_but a_figures a_all a_lies a_since v_last v_state) c0) n 0 0) {v_thrown : Int32} {a_row : Nat → Int32} {v_law : Int32} {a_set : Nat → Int64} {a_rest : Nat → Int64} {v_broken : Int32} {v_value : Int64} {v_sum : Int64} {a_chances : Nat → Int32} {a_votes : Nat → Int64} {a_figures : Nat → Int32} {a_all : Nat → Int32} {x1 : Int32} {x2 : Int32} {x3 : Int64} {x5 : Int64} {x7 : Int64} {x9 : Int32} {x10 : Int32} {s0 : Int32} {s1 : Int32} {R : Int32 × Int32 × Int32 × (Nat → Int64) × (Nat → Int64) × Int32 × Int64 × Int64 × (Nat → Int32) × (Nat → Int64) × (Nat → Int32) × (Nat → Int32)} (hf : fX12_appeal_L125 Fu k91 k102 v_thrown a_row v_law a_set a_rest v_broken v_value v_sum a_chances a_votes a_figures a_all x1 x2 x3 x5 x7 x9 x10 s0 s1 = some R) : E G b yX12_appeal cX12_appeal 11 (some .int) (e_rm 7 0 0) e_X0 (e_Z G b (pD (some (.int R.1)) (e_ov (kM o) (wM G b o R.2.1 v_status a_refusals a_row a_images a_isKept a_tape v_taped v_from v_to v_sort v_worth v_fault v_bad v_nClauses a_nClause v_nCode a_nOp a_nArg v_nLeaves a_pile a_pileAt v_piled v_opened a_words a_headWords R.2.2.1 R.2.2.2.1 R.2.2.2.2.1 R.2.2.2.2.2.1 R.2.2.2.2.2.2.1 R.2.2.2.2.2.2.2.1 R.2.2.2.2.2.2.2.2.1 R.2.2.2.2.2.2.2.2.2.1 a_costs a_table a_prices v_surely a_mostBy a_leastBy v_between v_steadyWays v_quashed v_but R.2.2.2.2.2.2.2.2.2.2.1 R.2.2.2.2.2.2.2.2.2.2.2 a_lies a_since v_last v_state) c0) n) 0 0) 125 [(0, .ref (b + o)), (1, .int x1), (2, .int x2), (3, .long x3), (5, .long x5), (7, .long x7), (9, .int x9), (10, .int x10)] [.int s0, .int s1, .ref (b + (o + 22))] (e_ov (kM o) (wM G b o v_thrown v_status a_refusals a_row a_images a_isKept a_tape v_taped v_from v_to v_sort v_worth v_fault v_bad v_nClauses a_nClause v_nCode a_nOp a_nArg v_nLeaves a_pile a_pileAt v_piled v_opened a_words a_headWords v_law a_set a_rest v_broken v_value v_sum a_chances a_votes a_costs a_table a_prices v_surely a_mostBy a_leastBy v_between v_steadyWays v_quashed v_but a_figures a_all a_lies a_since v_last v_state) c0) n 0 0 := by
  unfold fX12_appeal_L125 at hf
  obtain ⟨g14, hf⟩ := gd_some hf
  refine E.iast (es' := (wM G b o v_thrown v_status a_refusals a_row a_images a_isKept a_tape v_taped v_from v_to v_sort v_worth v_fault v_bad v_nClauses a_nClause v_nCode a_nOp a_nArg v_nLeaves a_pile a_pileAt v_piled v_opened a_words a_headWords v_law a_set a_rest v_broken v_value v_sum a_chances a_votes a_costs a_table a_prices v_surely a_mostBy a_leastBy v_between v_steadyWays v_quashed v_but (va_up a_figures (s1 : Int32).toNatClampNeg s0) a_all a_lies a_since v_last v_state)) hw 22 (o + 22) dX12_appeal_125 rfl rfl g14 rfl ?_
  refine E.iinc (q := 7) (v := (x10 + 1)) (lv' := [(10, .int (x10 + 1)), (0, .ref (b + o)), (1, .int x1), (2, .int x2), (3, .long x3), (5, .long x5), (7, .long x7), (9, .int x9)]) dX12_appeal_126 rfl rfl (by decide) rfl ?_
  refine E.goto dX12_appeal_129 ?_
  refine E.locals [1, 2, 3, 4, 5, 6, 7, 0] rfl ?_
  exact hk102 hf
def fX12_appeal_L102 (Fu : Nat) (k91 : Int32 → (Nat → Int32) → Int32 → (Nat → Int64) → (Nat → Int64) → Int32 → Int64 → Int64 → (Nat → Int32) → (Nat → Int64) → (Nat → Int32) → (Nat → Int32) → Int32 → Int32 → Int64 → Int64 → Int64 → Int32 → Option (Int32 × Int32 × Int32 × (Nat → Int64) × (Nat → Int64) × Int32 × Int64 × Int64 × (Nat → Int32) × (Nat → Int64) × (Nat → Int32) × (Nat → Int32))) : Nat → Int32 → (Nat → Int32) → Int32 → (Nat → Int64) → (Nat → Int64) → Int32 → Int64 → Int64 → (Nat → Int32) → (Nat → Int64) → (Nat → Int32) → (Nat → Int32) → Int32 → Int32 → Int64 → Int64 → Int64 → Int32 → Int32 → Option (Int32 × Int32 × Int32 × (Nat → Int64) × (Nat → Int64) × Int32 × Int64 × Int64 × (Nat → Int32) × (Nat → Int64) × (Nat → Int32) × (Nat → Int32))
  | 0, _, _, _, _, _, _, _, _, _, _, _, _, _, _, _, _, _, _, _ => none
  | k + 1, v_thrown, a_row, v_law, a_set, a_rest, v_broken, v_value, v_sum, a_chances, a_votes, a_figures, a_all, x1, x2, x3, x5, x7, x9, x10 => if (100 : Int32) ≤ (x10 : Int32) then ((fX12_times Fu a_figures (1000000 * x7)).bind fun r10 => (fX12_appeal_L145 Fu k91 Fu v_thrown a_row v_law a_set a_rest v_broken v_value v_sum a_chances a_votes r10 a_all x1 x2 x3 x5 x7 x9 0)) else (if (x10 : Int32) = 0 then (fX12_appeal_L125 Fu k91 (fX12_appeal_L102 Fu k91 k) v_thrown a_row v_law a_set a_rest v_broken v_value v_sum a_chances a_votes a_figures a_all x1 x2 x3 x5 x7 x9 x10 1 x10) else (fX12_appeal_L125 Fu k91 (fX12_appeal_L102 Fu k91 k) v_thrown a_row v_law a_set a_rest v_broken v_value v_sum a_chances a_votes a_figures a_all x1 x2 x3 x5 x7 x9 x10 0 x10))
set_option maxHeartbeats 4000000 in
set_option maxRecDepth 100000 in
theorem tX12_appeal_L102 {G : GT} {b : Nat} {o : Nat} {c0 : Hp} {n : Nat} (hw : e_wf (kM o) n) {v_status : Int32} {a_refusals : Nat → Int32} {a_images : Nat → Int32} {a_isKept : Nat → Int32} {a_tape : Nat → Int32} {v_taped : Int32} {v_from : Int32} {v_to : Int32} {v_sort : Int32} {v_worth : Int64} {v_fault : Int32} {v_bad : Int32} {v_nClauses : Int32} {a_nClause : Nat → Int32} {v_nCode : Int32} {a_nOp : Nat → Int32} {a_nArg : Nat → Int32} {v_nLeaves : Int32} {a_pile : Nat → Int32} {a_pileAt : Nat → Int32} {v_piled : Int32} {v_opened : Int32} {a_words : Nat → Int64} {a_headWords : Nat → Int64} {a_costs : Nat → Int32} {a_table : Nat → Int64} {a_prices : Nat → Int32} {v_surely : Int64} {a_mostBy : Nat → Int64} {a_leastBy : Nat → Int64} {v_between : Int64} {v_steadyWays : Int32} {v_quashed : Int32} {v_but : Int32} {a_lies : Nat → Int32} {a_since : Nat → Int32} {v_last : Int32} {v_state : Int64} {Fu : Nat} {k91 : Int32 → (Nat → Int32) → Int32 → (Nat → Int64) → (Nat → Int64) → Int32 → Int64 → Int64 → (Nat → Int32) → (Nat → Int64) → (Nat → Int32) → (Nat → Int32) → Int32 → Int32 → Int64 → Int64 → Int64 → Int32 → Option (Int32 × Int32 × Int32 × (Nat → Int64) × (Nat → Int64) × Int32 × Int64 × Int64 × (Nat → Int32) × (Nat → Int64) × (Nat → Int32) × (Nat → Int32))} (hk91 : ∀ {v_thrown : Int32} {a_row : Nat → Int32} {v_law : Int32} {a_set : Nat → Int64} {a_rest : Nat → Int64} {v_broken : Int32} {v_value : Int64} {v_sum : Int64} {a_chances : Nat → Int32} {a_votes : Nat → Int64} {a_figures : Nat → Int32} {a_all : Nat → Int32} {x1 : Int32} {x2 : Int32} {x3 : Int64} {x5 : Int64} {x7 : Int64} {x9 : Int32} {R : Int32 × Int32 × Int32 × (Nat → Int64) × (Nat → Int64) × Int32 × Int64 × Int64 × (Nat → Int32) × (Nat → Int64) × (Nat → Int32) × (Nat → Int32)}, k91 v_thrown a_row v_law a_set a_rest v_broken v_value v_sum a_chances a_votes a_figures a_all x1 x2 x3 x5 x7 x9 = some R → E G b yX12_appeal cX12_appeal 11 (some .int) (e_rm 7 0 0) e_X0 (e_Z G b (pD (some (.int R.1)) (e_ov (kM o) (wM G b o R.2.1 v_status a_refusals a_row a_images a_isKept a_tape v_taped v_from v_to v_sort v_worth v_fault v_bad v_nClauses a_nClause v_nCode a_nOp a_nArg v_nLeaves a_pile a_pileAt v_piled v_opened a_words a_headWords R.2.2.1 R.2.2.2.1 R.2.2.2.2.1 R.2.2.2.2.2.1 R.2.2.2.2.2.2.1 R.2.2.2.2.2.2.2.1 R.2.2.2.2.2.2.2.2.1 R.2.2.2.2.2.2.2.2.2.1 a_costs a_table a_prices v_surely a_mostBy a_leastBy v_between v_steadyWays v_quashed v_but R.2.2.2.2.2.2.2.2.2.2.1 R.2.2.2.2.2.2.2.2.2.2.2 a_lies a_since v_last v_state) c0) n) 0 0) 91 [(0, .ref (b + o)), (1, .int x1), (2, .int x2), (3, .long x3), (5, .long x5), (7, .long x7), (9, .int x9)] [] (e_ov (kM o) (wM G b o v_thrown v_status a_refusals a_row a_images a_isKept a_tape v_taped v_from v_to v_sort v_worth v_fault v_bad v_nClauses a_nClause v_nCode a_nOp a_nArg v_nLeaves a_pile a_pileAt v_piled v_opened a_words a_headWords v_law a_set a_rest v_broken v_value v_sum a_chances a_votes a_costs a_table a_prices v_surely a_mostBy a_leastBy v_between v_steadyWays v_quashed v_but a_figures a_all a_lies a_since v_last v_state) c0) n 0 0) : ∀ (k : Nat) {v_thrown : Int32} {a_row : Nat → Int32} {v_law : Int32} {a_set : Nat → Int64} {a_rest : Nat → Int64} {v_broken : Int32} {v_value : Int64} {v_sum : Int64} {a_chances : Nat → Int32} {a_votes : Nat → Int64} {a_figures : Nat → Int32} {a_all : Nat → Int32} {x1 : Int32} {x2 : Int32} {x3 : Int64} {x5 : Int64} {x7 : Int64} {x9 : Int32} {x10 : Int32} {R : Int32 × Int32 × Int32 × (Nat → Int64) × (Nat → Int64) × Int32 × Int64 × Int64 × (Nat → Int32) × (Nat → Int64) × (Nat → Int32) × (Nat → Int32)}, fX12_appeal_L102 Fu k91 k v_thrown a_row v_law a_set a_rest v_broken v_value v_sum a_chances a_votes a_figures a_all x1 x2 x3 x5 x7 x9 x10 = some R → E G b yX12_appeal cX12_appeal 11 (some .int) (e_rm 7 0 0) e_X0 (e_Z G b (pD (some (.int R.1)) (e_ov (kM o) (wM G b o R.2.1 v_status a_refusals a_row a_images a_isKept a_tape v_taped v_from v_to v_sort v_worth v_fault v_bad v_nClauses a_nClause v_nCode a_nOp a_nArg v_nLeaves a_pile a_pileAt v_piled v_opened a_words a_headWords R.2.2.1 R.2.2.2.1 R.2.2.2.2.1 R.2.2.2.2.2.1 R.2.2.2.2.2.2.1 R.2.2.2.2.2.2.2.1 R.2.2.2.2.2.2.2.2.1 R.2.2.2.2.2.2.2.2.2.1 a_costs a_table a_prices v_surely a_mostBy a_leastBy v_between v_steadyWays v_quashed v_but R.2.2.2.2.2.2.2.2.2.2.1 R.2.2.2.2.2.2.2.2.2.2.2 a_lies a_since v_last v_state) c0) n) 0 0) 102 [(0, .ref (b + o)), (1, .int x1), (2, .int x2), (3, .long x3), (5, .long x5), (7, .long x7), (9, .int x9), (10, .int x10)] [] (e_ov (kM o) (wM G b o v_thrown v_status a_refusals a_row a_images a_isKept a_tape v_taped v_from v_to v_sort v_worth v_fault v_bad v_nClauses a_nClause v_nCode a_nOp a_nArg v_nLeaves a_pile a_pileAt v_piled v_opened a_words a_headWords v_law a_set a_rest v_broken v_value v_sum a_chances a_votes a_costs a_table a_prices v_surely a_mostBy a_leastBy v_between v_steadyWays v_quashed v_but a_figures a_all a_lies a_since v_last v_state) c0) n 0 0 := by
  intro k
  induction k with
  | zero =>
    intro _ _ _ _ _ _ _ _ _ _ _ _ _ _ _ _ _ _ _ _ hf
    have hf : (none : Option (Int32 × Int32 × Int32 × (Nat → Int64) × (Nat → Int64) × Int32 × Int64 × Int64 × (Nat → Int32) × (Nat → Int64) × (Nat → Int32) × (Nat → Int32))) = some _ := hf
    cases hf
  | succ k ih =>
    intro v_thrown a_row v_law a_set a_rest v_broken v_value v_sum a_chances a_votes a_figures a_all x1 x2 x3 x5 x7 x9 x10 R hf
    rw [fX12_appeal_L102] at hf
    refine E.iload 7 dX12_appeal_102 rfl ?_
    refine E.bipush (v := 100) dX12_appeal_104 (by decide) ?_
    refine E.icmp_ge dX12_appeal_106 (fun h => ?_) (fun h => ?_)
    · have hf := e_ift hf h
      refine E.aload_n 0 dX12_appeal_132 rfl ?_
      refine E.ldc2 dX12_appeal_133 kX12_223 ?_
      refine E.lload 5 dX12_appeal_136 rfl ?_
      refine E.lmul dX12_appeal_138 ?_
      obtain ⟨r10, hc10, hf⟩ := e_bind hf
      refine E.callVD [] dX12_appeal_139 mlX12_479 ⟨hw.sub (p := 0) rfl, e_ov_get hw.1 (p := 0) rfl rfl⟩ rfl rfl (mX12_times hw hc10) ⟨Nat.le_of_ble_eq_true rfl, Nat.le_of_ble_eq_true rfl⟩ rfl rfl (Nat.le_of_ble_eq_true rfl) ⟨Nat.le_refl _, Nat.le_refl _⟩ rfl ?_
      refine E.iconst (v := 0) dX12_appeal_142 (by decide) ?_
      refine E.istore (lv' := [(10, .int 0), (0, .ref (b + o)), (1, .int x1), (2, .int x2), (3, .long x3), (5, .long x5), (7, .long x7), (9, .int x9)]) dX12_appeal_143 (by decide) rfl ?_
      refine E.locals [1, 2, 3, 4, 5, 6, 7, 0] rfl ?_
      exact tX12_appeal_L145 hw hk91 _ hf
    · have hf := e_iff hf h
      refine E.aload_n 0 dX12_appeal_109 rfl ?_
      refine E.get hw 0 o dX12_appeal_110 flX12_109 rfl rfl rfl rfl ?_
      refine E.iload 7 dX12_appeal_113 rfl ?_
      refine E.iload 7 dX12_appeal_115 rfl ?_
      refine E.if_ne dX12_appeal_117 (fun h => ?_) (fun h => ?_)
      · have hf := e_iff hf h
        refine E.iconst (v := 0) dX12_appeal_124 (by decide) ?_
        exact tX12_appeal_L125 hw hk91 ih hf
      · have hf := e_ift hf h
        refine E.iconst (v := 1) dX12_appeal_120 (by decide) ?_
        refine E.goto dX12_appeal_121 ?_
        exact tX12_appeal_L125 hw hk91 ih hf
def fX12_appeal_L91 (Fu : Nat) : Nat → Int32 → (Nat → Int32) → Int32 → (Nat → Int64) → (Nat → Int64) → Int32 → Int64 → Int64 → (Nat → Int32) → (Nat → Int64) → (Nat → Int32) → (Nat → Int32) → Int32 → Int32 → Int64 → Int64 → Int64 → Int32 → Option (Int32 × Int32 × Int32 × (Nat → Int64) × (Nat → Int64) × Int32 × Int64 × Int64 × (Nat → Int32) × (Nat → Int64) × (Nat → Int32) × (Nat → Int32))
  | 0, _, _, _, _, _, _, _, _, _, _, _, _, _, _, _, _, _, _ => none
  | k + 1, v_thrown, a_row, v_law, a_set, a_rest, v_broken, v_value, v_sum, a_chances, a_votes, a_figures, a_all, x1, x2, x3, x5, x7, x9 => if ((2 * x9) : Int32) ≤ (x1 : Int32) then (fX12_appeal_L207 Fu Fu v_thrown a_row v_law a_set a_rest v_broken v_value v_sum a_chances a_votes a_figures a_all x1 x2 0 99) else (fX12_appeal_L102 Fu (fX12_appeal_L91 Fu k) Fu v_thrown a_row v_law a_set a_rest v_broken v_value v_sum a_chances a_votes a_figures a_all x1 x2 x3 x5 x7 x9 0)
set_option maxHeartbeats 4000000 in
set_option maxRecDepth 100000 in
theorem tX12_appeal_L91 {G : GT} {b : Nat} {o : Nat} {c0 : Hp} {n : Nat} (hw : e_wf (kM o) n) {v_status : Int32} {a_refusals : Nat → Int32} {a_images : Nat → Int32} {a_isKept : Nat → Int32} {a_tape : Nat → Int32} {v_taped : Int32} {v_from : Int32} {v_to : Int32} {v_sort : Int32} {v_worth : Int64} {v_fault : Int32} {v_bad : Int32} {v_nClauses : Int32} {a_nClause : Nat → Int32} {v_nCode : Int32} {a_nOp : Nat → Int32} {a_nArg : Nat → Int32} {v_nLeaves : Int32} {a_pile : Nat → Int32} {a_pileAt : Nat → Int32} {v_piled : Int32} {v_opened : Int32} {a_words : Nat → Int64} {a_headWords : Nat → Int64} {a_costs : Nat → Int32} {a_table : Nat → Int64} {a_prices : Nat → Int32} {v_surely : Int64} {a_mostBy : Nat → Int64} {a_leastBy : Nat → Int64} {v_between : Int64} {v_steadyWays : Int32} {v_quashed : Int32} {v_but : Int32} {a_lies : Nat → Int32} {a_since : Nat → Int32} {v_last : Int32} {v_state : Int64} {Fu : Nat} : ∀ (k : Nat) {v_thrown : Int32} {a_row : Nat → Int32} {v_law : Int32} {a_set : Nat → Int64} {a_rest : Nat → Int64} {v_broken : Int32} {v_value : Int64} {v_sum : Int64} {a_chances : Nat → Int32} {a_votes : Nat → Int64} {a_figures : Nat → Int32} {a_all : Nat → Int32} {x1 : Int32} {x2 : Int32} {x3 : Int64} {x5 : Int64} {x7 : Int64} {x9 : Int32} {R : Int32 × Int32 × Int32 × (Nat → Int64) × (Nat → Int64) × Int32 × Int64 × Int64 × (Nat → Int32) × (Nat → Int64) × (Nat → Int32) × (Nat → Int32)}, fX12_appeal_L91 Fu k v_thrown a_row v_law a_set a_rest v_broken v_value v_sum a_chances a_votes a_figures a_all x1 x2 x3 x5 x7 x9 = some R → E G b yX12_appeal cX12_appeal 11 (some .int) (e_rm 7 0 0) e_X0 (e_Z G b (pD (some (.int R.1)) (e_ov (kM o) (wM G b o R.2.1 v_status a_refusals a_row a_images a_isKept a_tape v_taped v_from v_to v_sort v_worth v_fault v_bad v_nClauses a_nClause v_nCode a_nOp a_nArg v_nLeaves a_pile a_pileAt v_piled v_opened a_words a_headWords R.2.2.1 R.2.2.2.1 R.2.2.2.2.1 R.2.2.2.2.2.1 R.2.2.2.2.2.2.1 R.2.2.2.2.2.2.2.1 R.2.2.2.2.2.2.2.2.1 R.2.2.2.2.2.2.2.2.2.1 a_costs a_table a_prices v_surely a_mostBy a_leastBy v_between v_steadyWays v_quashed v_but R.2.2.2.2.2.2.2.2.2.2.1 R.2.2.2.2.2.2.2.2.2.2.2 a_lies a_since v_last v_state) c0) n) 0 0) 91 [(0, .ref (b + o)), (1, .int x1), (2, .int x2), (3, .long x3), (5, .long x5), (7, .long x7), (9, .int x9)] [] (e_ov (kM o) (wM G b o v_thrown v_status a_refusals a_row a_images a_isKept a_tape v_taped v_from v_to v_sort v_worth v_fault v_bad v_nClauses a_nClause v_nCode a_nOp a_nArg v_nLeaves a_pile a_pileAt v_piled v_opened a_words a_headWords v_law a_set a_rest v_broken v_value v_sum a_chances a_votes a_costs a_table a_prices v_surely a_mostBy a_leastBy v_between v_steadyWays v_quashed v_but a_figures a_all a_lies a_since v_last v_state) c0) n 0 0 := by
  intro k
  induction k with
  | zero =>
    intro _ _ _ _ _ _ _ _ _ _ _ _ _ _ _ _ _ _ _ hf
    have hf : (none : Option (Int32 × Int32 × Int32 × (Nat → Int64) × (Nat → Int64) × Int32 × Int64 × Int64 × (Nat → Int32) × (Nat → Int64) × (Nat → Int32) × (Nat → Int32))) = some _ := hf
    cases hf
  | succ k ih =>
    intro v_thrown a_row v_law a_set a_rest v_broken v_value v_sum a_chances a_votes a_figures a_all x1 x2 x3 x5 x7 x9 R hf
    rw [fX12_appeal_L91] at hf
    refine E.iconst (v := 2) dX12_appeal_91 (by decide) ?_
    refine E.iload 6 dX12_appeal_92 rfl ?_
    refine E.imul dX12_appeal_94 ?_
    refine E.iload_n 1 dX12_appeal_95 rfl ?_
    refine E.icmp_le dX12_appeal_96 (fun h => ?_) (fun h => ?_)
    · have hf := e_ift hf h
      refine E.iconst (v := 0) dX12_appeal_200 (by decide) ?_
      refine E.istore (lv' := [(9, .int 0), (0, .ref (b + o)), (1, .int x1), (2, .int x2), (3, .long x3), (5, .long x5), (7, .long x7)]) dX12_appeal_201 (by decide) rfl ?_
      refine E.bipush (v := 99) dX12_appeal_203 (by decide) ?_
      refine E.istore (lv' := [(10, .int 99), (9, .int 0), (0, .ref (b + o)), (1, .int x1), (2, .int x2), (3, .long x3), (5, .long x5), (7, .long x7)]) dX12_appeal_205 (by decide) rfl ?_
      refine E.locals [2, 3, 4, 1, 0] rfl ?_
      exact tX12_appeal_L207 hw _ hf
    · have hf := e_iff hf h
      refine E.iconst (v := 0) dX12_appeal_99 (by decide) ?_
      refine E.istore (lv' := [(10, .int 0), (0, .ref (b + o)), (1, .int x1), (2, .int x2), (3, .long x3), (5, .long x5), (7, .long x7), (9, .int x9)]) dX12_appeal_100 (by decide) rfl ?_
      refine E.locals [1, 2, 3, 4, 5, 6, 7, 0] rfl ?_
      exact tX12_appeal_L102 hw ih _ hf
def fX12_appeal_L64 (Fu : Nat) : Nat → Int32 → (Nat → Int32) → Int32 → (Nat → Int64) → (Nat → Int64) → Int32 → Int64 → Int64 → (Nat → Int32) → (Nat → Int64) → (Nat → Int32) → (Nat → Int32) → Int32 → Int32 → Int64 → Int64 → Int32 → Option (Int32 × Int32 × Int32 × (Nat → Int64) × (Nat → Int64) × Int32 × Int64 × Int64 × (Nat → Int32) × (Nat → Int64) × (Nat → Int32) × (Nat → Int32))
  | 0, _, _, _, _, _, _, _, _, _, _, _, _, _, _, _, _, _ => none
  | k + 1, v_thrown, a_row, v_law, a_set, a_rest, v_broken, v_value, v_sum, a_chances, a_votes, a_figures, a_all, x1, x2, x3, x5, x7 => if (100 : Int32) ≤ (x7 : Int32) then (fX12_appeal_L91 Fu Fu v_thrown a_row v_law a_set a_rest v_broken v_value v_sum a_chances a_votes a_figures a_all x1 x2 x3 x5 1 x1) else (gd x7 100 ((fX12_appeal_L64 Fu k) v_thrown a_row v_law a_set a_rest v_broken v_value v_sum a_chances a_votes a_figures (va_up a_all (x7 : Int32).toNatClampNeg 0) x1 x2 x3 x5 (x7 + 1)))
set_option maxHeartbeats 4000000 in
set_option maxRecDepth 100000 in
theorem tX12_appeal_L64 {G : GT} {b : Nat} {o : Nat} {c0 : Hp} {n : Nat} (hw : e_wf (kM o) n) {v_status : Int32} {a_refusals : Nat → Int32} {a_images : Nat → Int32} {a_isKept : Nat → Int32} {a_tape : Nat → Int32} {v_taped : Int32} {v_from : Int32} {v_to : Int32} {v_sort : Int32} {v_worth : Int64} {v_fault : Int32} {v_bad : Int32} {v_nClauses : Int32} {a_nClause : Nat → Int32} {v_nCode : Int32} {a_nOp : Nat → Int32} {a_nArg : Nat → Int32} {v_nLeaves : Int32} {a_pile : Nat → Int32} {a_pileAt : Nat → Int32} {v_piled : Int32} {v_opened : Int32} {a_words : Nat → Int64} {a_headWords : Nat → Int64} {a_costs : Nat → Int32} {a_table : Nat → Int64} {a_prices : Nat → Int32} {v_surely : Int64} {a_mostBy : Nat → Int64} {a_leastBy : Nat → Int64} {v_between : Int64} {v_steadyWays : Int32} {v_quashed : Int32} {v_but : Int32} {a_lies : Nat → Int32} {a_since : Nat → Int32} {v_last : Int32} {v_state : Int64} {Fu : Nat} : ∀ (k : Nat) {v_thrown : Int32} {a_row : Nat → Int32} {v_law : Int32} {a_set : Nat → Int64} {a_rest : Nat → Int64} {v_broken : Int32} {v_value : Int64} {v_sum : Int64} {a_chances : Nat → Int32} {a_votes : Nat → Int64} {a_figures : Nat → Int32} {a_all : Nat → Int32} {x1 : Int32} {x2 : Int32} {x3 : Int64} {x5 : Int64} {x7 : Int32} {R : Int32 × Int32 × Int32 × (Nat → Int64) × (Nat → Int64) × Int32 × Int64 × Int64 × (Nat → Int32) × (Nat → Int64) × (Nat → Int32) × (Nat → Int32)}, fX12_appeal_L64 Fu k v_thrown a_row v_law a_set a_rest v_broken v_value v_sum a_chances a_votes a_figures a_all x1 x2 x3 x5 x7 = some R → E G b yX12_appeal cX12_appeal 11 (some .int) (e_rm 7 0 0) e_X0 (e_Z G b (pD (some (.int R.1)) (e_ov (kM o) (wM G b o R.2.1 v_status a_refusals a_row a_images a_isKept a_tape v_taped v_from v_to v_sort v_worth v_fault v_bad v_nClauses a_nClause v_nCode a_nOp a_nArg v_nLeaves a_pile a_pileAt v_piled v_opened a_words a_headWords R.2.2.1 R.2.2.2.1 R.2.2.2.2.1 R.2.2.2.2.2.1 R.2.2.2.2.2.2.1 R.2.2.2.2.2.2.2.1 R.2.2.2.2.2.2.2.2.1 R.2.2.2.2.2.2.2.2.2.1 a_costs a_table a_prices v_surely a_mostBy a_leastBy v_between v_steadyWays v_quashed v_but R.2.2.2.2.2.2.2.2.2.2.1 R.2.2.2.2.2.2.2.2.2.2.2 a_lies a_since v_last v_state) c0) n) 0 0) 64 [(0, .ref (b + o)), (1, .int x1), (2, .int x2), (3, .long x3), (5, .long x5), (7, .int x7)] [] (e_ov (kM o) (wM G b o v_thrown v_status a_refusals a_row a_images a_isKept a_tape v_taped v_from v_to v_sort v_worth v_fault v_bad v_nClauses a_nClause v_nCode a_nOp a_nArg v_nLeaves a_pile a_pileAt v_piled v_opened a_words a_headWords v_law a_set a_rest v_broken v_value v_sum a_chances a_votes a_costs a_table a_prices v_surely a_mostBy a_leastBy v_between v_steadyWays v_quashed v_but a_figures a_all a_lies a_since v_last v_state) c0) n 0 0 := by
  intro k
  induction k with
  | zero =>
    intro _ _ _ _ _ _ _ _ _ _ _ _ _ _ _ _ _ _ hf
    have hf : (none : Option (Int32 × Int32 × Int32 × (Nat → Int64) × (Nat → Int64) × Int32 × Int64 × Int64 × (Nat → Int32) × (Nat → Int64) × (Nat → Int32) × (Nat → Int32))) = some _ := hf
    cases hf
  | succ k ih =>
    intro v_thrown a_row v_law a_set a_rest v_broken v_value v_sum a_chances a_votes a_figures a_all x1 x2 x3 x5 x7 R hf
    rw [fX12_appeal_L64] at hf
    refine E.iload 5 dX12_appeal_64 rfl ?_
    refine E.bipush (v := 100) dX12_appeal_66 (by decide) ?_
    refine E.icmp_ge dX12_appeal_68 (fun h => ?_) (fun h => ?_)
    · have hf := e_ift hf h
      refine E.lconst (v := 1) dX12_appeal_85 (by decide) ?_
      refine E.lstore (lv' := [(7, .long 1), (0, .ref (b + o)), (1, .int x1), (2, .int x2), (3, .long x3), (5, .long x5)]) dX12_appeal_86 (by decide) rfl ?_
      refine E.iload_n 2 dX12_appeal_88 rfl ?_
      refine E.istore (lv' := [(9, .int x1), (7, .long 1), (0, .ref (b + o)), (1, .int x1), (2, .int x2), (3, .long x3), (5, .long x5)]) dX12_appeal_89 (by decide) rfl ?_
      refine E.locals [2, 3, 4, 5, 6, 1, 0] rfl ?_
      exact tX12_appeal_L91 hw _ hf
    · have hf := e_iff hf h
      refine E.aload_n 0 dX12_appeal_71 rfl ?_
      refine E.get hw 0 o dX12_appeal_72 flX12_112 rfl rfl rfl rfl ?_
      refine E.iload 5 dX12_appeal_75 rfl ?_
      refine E.iconst (v := 0) dX12_appeal_77 (by decide) ?_
      obtain ⟨g8, hf⟩ := gd_some hf
      refine E.iast (es' := (wM G b o v_thrown v_status a_refusals a_row a_images a_isKept a_tape v_taped v_from v_to v_sort v_worth v_fault v_bad v_nClauses a_nClause v_nCode a_nOp a_nArg v_nLeaves a_pile a_pileAt v_piled v_opened a_words a_headWords v_law a_set a_rest v_broken v_value v_sum a_chances a_votes a_costs a_table a_prices v_surely a_mostBy a_leastBy v_between v_steadyWays v_quashed v_but a_figures (va_up a_all (x7 : Int32).toNatClampNeg 0) a_lies a_since v_last v_state)) hw 23 (o + 23) dX12_appeal_78 rfl rfl g8 rfl ?_
      refine E.iinc (q := 5) (v := (x7 + 1)) (lv' := [(7, .int (x7 + 1)), (0, .ref (b + o)), (1, .int x1), (2, .int x2), (3, .long x3), (5, .long x5)]) dX12_appeal_79 rfl rfl (by decide) rfl ?_
      refine E.goto dX12_appeal_82 ?_
      refine E.locals [1, 2, 3, 4, 5, 0] rfl ?_
      exact ih hf
def fX12_appeal_L22 (Fu : Nat) (v_thrown : Int32) (a_row : Nat → Int32) (v_law : Int32) (a_set : Nat → Int64) (a_rest : Nat → Int64) (v_broken : Int32) (v_value : Int64) (v_sum : Int64) (a_chances : Nat → Int32) (a_votes : Nat → Int64) (a_figures : Nat → Int32) (a_all : Nat → Int32) (x1 : Int32) : Option (Int32 × Int32 × Int32 × (Nat → Int64) × (Nat → Int64) × Int32 × Int64 × Int64 × (Nat → Int32) × (Nat → Int64) × (Nat → Int32) × (Nat → Int32)) := (fX12_layNow Fu a_row v_law a_set a_rest v_broken v_value v_sum a_chances).bind fun r1 => (gd 4 5570 ((fX12_bits Fu (a_row (4 : Int32).toNatClampNeg)).bind fun r3 => (gd 4 5570 ((fX12_quota a_row).bind fun r5 => ((fX12_wins Fu a_row r1.2.2.2.2.2.2 a_votes (a_row (4 : Int32).toNatClampNeg) 0 0 r5).bind fun r6 => ((fX12_power Fu r3).bind fun r7 => (fX12_appeal_L64 Fu Fu v_thrown a_row r1.1 r1.2.1 r1.2.2.1 r1.2.2.2.1 r1.2.2.2.2.1 r1.2.2.2.2.2.1 r1.2.2.2.2.2.2 r6.2 a_figures a_all x1 r3 r6.1 (r7 - r6.1) 0)))))))
set_option maxHeartbeats 4000000 in
set_option maxRecDepth 100000 in
theorem tX12_appeal_L22 {G : GT} {b : Nat} {o : Nat} {c0 : Hp} {n : Nat} (hw : e_wf (kM o) n) {v_status : Int32} {a_refusals : Nat → Int32} {a_images : Nat → Int32} {a_isKept : Nat → Int32} {a_tape : Nat → Int32} {v_taped : Int32} {v_from : Int32} {v_to : Int32} {v_sort : Int32} {v_worth : Int64} {v_fault : Int32} {v_bad : Int32} {v_nClauses : Int32} {a_nClause : Nat → Int32} {v_nCode : Int32} {a_nOp : Nat → Int32} {a_nArg : Nat → Int32} {v_nLeaves : Int32} {a_pile : Nat → Int32} {a_pileAt : Nat → Int32} {v_piled : Int32} {v_opened : Int32} {a_words : Nat → Int64} {a_headWords : Nat → Int64} {a_costs : Nat → Int32} {a_table : Nat → Int64} {a_prices : Nat → Int32} {v_surely : Int64} {a_mostBy : Nat → Int64} {a_leastBy : Nat → Int64} {v_between : Int64} {v_steadyWays : Int32} {v_quashed : Int32} {v_but : Int32} {a_lies : Nat → Int32} {a_since : Nat → Int32} {v_last : Int32} {v_state : Int64} {Fu : Nat} {v_thrown : Int32} {a_row : Nat → Int32} {v_law : Int32} {a_set : Nat → Int64} {a_rest : Nat → Int64} {v_broken : Int32} {v_value : Int64} {v_sum : Int64} {a_chances : Nat → Int32} {a_votes : Nat → Int64} {a_figures : Nat → Int32} {a_all : Nat → Int32} {x1 : Int32} {R : Int32 × Int32 × Int32 × (Nat → Int64) × (Nat → Int64) × Int32 × Int64 × Int64 × (Nat → Int32) × (Nat → Int64) × (Nat → Int32) × (Nat → Int32)} (hf : fX12_appeal_L22 Fu v_thrown a_row v_law a_set a_rest v_broken v_value v_sum a_chances a_votes a_figures a_all x1 = some R) : E G b yX12_appeal cX12_appeal 11 (some .int) (e_rm 7 0 0) e_X0 (e_Z G b (pD (some (.int R.1)) (e_ov (kM o) (wM G b o R.2.1 v_status a_refusals a_row a_images a_isKept a_tape v_taped v_from v_to v_sort v_worth v_fault v_bad v_nClauses a_nClause v_nCode a_nOp a_nArg v_nLeaves a_pile a_pileAt v_piled v_opened a_words a_headWords R.2.2.1 R.2.2.2.1 R.2.2.2.2.1 R.2.2.2.2.2.1 R.2.2.2.2.2.2.1 R.2.2.2.2.2.2.2.1 R.2.2.2.2.2.2.2.2.1 R.2.2.2.2.2.2.2.2.2.1 a_costs a_table a_prices v_surely a_mostBy a_leastBy v_between v_steadyWays v_quashed v_but R.2.2.2.2.2.2.2.2.2.2.1 R.2.2.2.2.2.2.2.2.2.2.2 a_lies a_since v_last v_state) c0) n) 0 0) 22 [(0, .ref (b + o)), (1, .int x1)] [] (e_ov (kM o) (wM G b o v_thrown v_status a_refusals a_row a_images a_isKept a_tape v_taped v_from v_to v_sort v_worth v_fault v_bad v_nClauses a_nClause v_nCode a_nOp a_nArg v_nLeaves a_pile a_pileAt v_piled v_opened a_words a_headWords v_law a_set a_rest v_broken v_value v_sum a_chances a_votes a_costs a_table a_prices v_surely a_mostBy a_leastBy v_between v_steadyWays v_quashed v_but a_figures a_all a_lies a_since v_last v_state) c0) n 0 0 := by
  unfold fX12_appeal_L22 at hf
  refine E.aload_n 0 dX12_appeal_22 rfl ?_
  obtain ⟨r1, hc1, hf⟩ := e_bind hf
  refine E.callVD [] dX12_appeal_23 mlX12_374 ⟨hw.sub (p := 0) rfl, e_ov_get hw.1 (p := 0) rfl rfl⟩ rfl rfl (mX12_layNow hw hc1) ⟨Nat.le_of_ble_eq_true rfl, Nat.le_of_ble_eq_true rfl⟩ rfl rfl (Nat.le_of_ble_eq_true rfl) ⟨Nat.le_refl _, Nat.le_refl _⟩ rfl ?_
  refine E.aload_n 0 dX12_appeal_26 rfl ?_
  refine E.get hw 0 o dX12_appeal_27 flX12_13 rfl rfl rfl rfl ?_
  refine E.iconst (v := 4) dX12_appeal_30 (by decide) ?_
  obtain ⟨g2, hf⟩ := gd_some hf
  refine E.iald hw 2 (o + 2) dX12_appeal_31 rfl rfl g2 ?_
  obtain ⟨r3, hc3, hf⟩ := e_bind hf
  refine E.callSD [] dX12_appeal_32 mlX12_435 (mX12_bits hc3) ⟨Nat.le_of_ble_eq_true rfl, Nat.le_of_ble_eq_true rfl⟩ rfl rfl (Nat.le_of_ble_eq_true rfl) ⟨Nat.le_refl _, Nat.le_refl _⟩ rfl ?_
  refine E.istore_n (lv' := [(2, .int r3), (0, .ref (b + o)), (1, .int x1)]) dX12_appeal_35 (by decide) rfl ?_
  refine E.aload_n 1 dX12_appeal_36 rfl ?_
  refine E.aload_n 1 dX12_appeal_37 rfl ?_
  refine E.get hw 0 o dX12_appeal_38 flX12_13 rfl rfl rfl rfl ?_
  refine E.iconst (v := 4) dX12_appeal_41 (by decide) ?_
  obtain ⟨g4, hf⟩ := gd_some hf
  refine E.iald hw 2 (o + 2) dX12_appeal_42 rfl rfl g4 ?_
  refine E.iconst (v := 0) dX12_appeal_43 (by decide) ?_
  refine E.iconst (v := 0) dX12_appeal_44 (by decide) ?_
  refine E.aload_n 1 dX12_appeal_45 rfl ?_
  obtain ⟨r5, hc5, hf⟩ := e_bind hf
  refine E.callVD [.int 0, .int 0, .int (a_row (4 : Int32).toNatClampNeg), .ref (b + o)] dX12_appeal_46 mlX12_377 ⟨hw.sub (p := 0) rfl, e_ov_get hw.1 (p := 0) rfl rfl⟩ rfl rfl (mX12_quota hw hc5) ⟨Nat.le_of_ble_eq_true rfl, Nat.le_of_ble_eq_true rfl⟩ rfl rfl (Nat.le_of_ble_eq_true rfl) ⟨Nat.le_refl _, Nat.le_refl _⟩ rfl ?_
  obtain ⟨r6, hc6, hf⟩ := e_bind hf
  refine E.callVD [] dX12_appeal_49 mlX12_380 ⟨hw.sub (p := 0) rfl, e_ov_get hw.1 (p := 0) rfl rfl⟩ rfl rfl (mX12_wins hw hc6) ⟨Nat.le_of_ble_eq_true rfl, Nat.le_of_ble_eq_true rfl⟩ rfl rfl (Nat.le_of_ble_eq_true rfl) ⟨Nat.le_refl _, Nat.le_refl _⟩ rfl ?_
  refine E.lstore_n (lv' := [(3, .long r6.1), (2, .int r3), (0, .ref (b + o)), (1, .int x1)]) dX12_appeal_52 (by decide) rfl ?_
  refine E.iload_n 1 dX12_appeal_53 rfl ?_
  obtain ⟨r7, hc7, hf⟩ := e_bind hf
  refine E.callSD [] dX12_appeal_54 mlX12_431 (mX12_power hc7) ⟨Nat.le_of_ble_eq_true rfl, Nat.le_of_ble_eq_true rfl⟩ rfl rfl (Nat.le_of_ble_eq_true rfl) ⟨Nat.le_refl _, Nat.le_refl _⟩ rfl ?_
  refine E.lload_n 0 dX12_appeal_57 rfl ?_
  refine E.lsub dX12_appeal_58 ?_
  refine E.lstore (lv' := [(5, .long (r7 - r6.1)), (3, .long r6.1), (2, .int r3), (0, .ref (b + o)), (1, .int x1)]) dX12_appeal_59 (by decide) rfl ?_
  refine E.iconst (v := 0) dX12_appeal_61 (by decide) ?_
  refine E.istore (lv' := [(7, .int 0), (5, .long (r7 - r6.1)), (3, .long r6.1), (2, .int r3), (0, .ref (b + o)), (1, .int x1)]) dX12_appeal_62 (by decide) rfl ?_
  refine E.locals [4, 5, 3, 2, 1, 0] rfl ?_
  exact tX12_appeal_L64 hw _ hf
def fX12_appeal (Fu : Nat) (v_thrown : Int32) (a_row : Nat → Int32) (v_law : Int32) (a_set : Nat → Int64) (a_rest : Nat → Int64) (v_broken : Int32) (v_value : Int64) (v_sum : Int64) (a_chances : Nat → Int32) (a_votes : Nat → Int64) (a_figures : Nat → Int32) (a_all : Nat → Int32) (x1 : Int32) : Option (Int32 × Int32 × Int32 × (Nat → Int64) × (Nat → Int64) × Int32 × Int64 × Int64 × (Nat → Int32) × (Nat → Int64) × (Nat → Int32) × (Nat → Int32)) := if (x1 : Int32) = (1 : Int32) then (fX12_appeal_L22 Fu 0 a_row v_law a_set a_rest v_broken v_value v_sum a_chances a_votes a_figures a_all x1) else (if (x1 : Int32) = (3 : Int32) then (fX12_appeal_L22 Fu 0 a_row v_law a_set a_rest v_broken v_value v_sum a_chances a_votes a_figures a_all x1) else (if (x1 : Int32) = (5 : Int32) then (fX12_appeal_L22 Fu 0 a_row v_law a_set a_rest v_broken v_value v_sum a_chances a_votes a_figures a_all x1) else (some ((-1 : Int32), 0, v_law, a_set, a_rest, v_broken, v_value, v_sum, a_chances, a_votes, a_figures, a_all))))
set_option maxHeartbeats 4000000 in
set_option maxRecDepth 100000 in
theorem tX12_appeal {G : GT} {b : Nat} {o : Nat} {c0 : Hp} {n : Nat} (hw : e_wf (kM o) n) {v_status : Int32} {a_refusals : Nat → Int32} {a_images : Nat → Int32} {a_isKept : Nat → Int32} {a_tape : Nat → Int32} {v_taped : Int32} {v_from : Int32} {v_to : Int32} {v_sort : Int32} {v_worth : Int64} {v_fault : Int32} {v_bad : Int32} {v_nClauses : Int32} {a_nClause : Nat → Int32} {v_nCode : Int32} {a_nOp : Nat → Int32} {a_nArg : Nat → Int32} {v_nLeaves : Int32} {a_pile : Nat → Int32} {a_pileAt : Nat → Int32} {v_piled : Int32} {v_opened : Int32} {a_words : Nat → Int64} {a_headWords : Nat → Int64} {a_costs : Nat → Int32} {a_table : Nat → Int64} {a_prices : Nat → Int32} {v_surely : Int64} {a_mostBy : Nat → Int64} {a_leastBy : Nat → Int64} {v_between : Int64} {v_steadyWays : Int32} {v_quashed : Int32} {v_but : Int32} {a_lies : Nat → Int32} {a_since : Nat → Int32} {v_last : Int32} {v_state : Int64} {Fu : Nat} {v_thrown : Int32} {a_row : Nat → Int32} {v_law : Int32} {a_set : Nat → Int64} {a_rest : Nat → Int64} {v_broken : Int32} {v_value : Int64} {v_sum : Int64} {a_chances : Nat → Int32} {a_votes : Nat → Int64} {a_figures : Nat → Int32} {a_all : Nat → Int32} {x1 : Int32} {R : Int32 × Int32 × Int32 × (Nat → Int64) × (Nat → Int64) × Int32 × Int64 × Int64 × (Nat → Int32) × (Nat → Int64) × (Nat → Int32) × (Nat → Int32)} (hf : fX12_appeal Fu v_thrown a_row v_law a_set a_rest v_broken v_value v_sum a_chances a_votes a_figures a_all x1 = some R) : E G b yX12_appeal cX12_appeal 11 (some .int) (e_rm 7 0 0) e_X0 (e_Z G b (pD (some (.int R.1)) (e_ov (kM o) (wM G b o R.2.1 v_status a_refusals a_row a_images a_isKept a_tape v_taped v_from v_to v_sort v_worth v_fault v_bad v_nClauses a_nClause v_nCode a_nOp a_nArg v_nLeaves a_pile a_pileAt v_piled v_opened a_words a_headWords R.2.2.1 R.2.2.2.1 R.2.2.2.2.1 R.2.2.2.2.2.1 R.2.2.2.2.2.2.1 R.2.2.2.2.2.2.2.1 R.2.2.2.2.2.2.2.2.1 R.2.2.2.2.2.2.2.2.2.1 a_costs a_table a_prices v_surely a_mostBy a_leastBy v_between v_steadyWays v_quashed v_but R.2.2.2.2.2.2.2.2.2.2.1 R.2.2.2.2.2.2.2.2.2.2.2 a_lies a_since v_last v_state) c0) n) 0 0) 0 [(0, .ref (b + o)), (1, .int x1)] [] (e_ov (kM o) (wM G b o v_thrown v_status a_refusals a_row a_images a_isKept a_tape v_taped v_from v_to v_sort v_worth v_fault v_bad v_nClauses a_nClause v_nCode a_nOp a_nArg v_nLeaves a_pile a_pileAt v_piled v_opened a_words a_headWords v_law a_set a_rest v_broken v_value v_sum a_chances a_votes a_costs a_table a_prices v_surely a_mostBy a_leastBy v_between v_steadyWays v_quashed v_but a_figures a_all a_lies a_since v_last v_state) c0) n 0 0 := by
  unfold fX12_appeal at hf
  refine E.aload_n 0 dX12_appeal_0 rfl ?_
  refine E.iconst (v := 0) dX12_appeal_1 (by decide) ?_
  refine E.put (es' := (wM G b o 0 v_status a_refusals a_row a_images a_isKept a_tape v_taped v_from v_to v_sort v_worth v_fault v_bad v_nClauses a_nClause v_nCode a_nOp a_nArg v_nLeaves a_pile a_pileAt v_piled v_opened a_words a_headWords v_law a_set a_rest v_broken v_value v_sum a_chances a_votes a_costs a_table a_prices v_surely a_mostBy a_leastBy v_between v_steadyWays v_quashed v_but a_figures a_all a_lies a_since v_last v_state)) hw 0 o dX12_appeal_2 flX12_124 ftX12 rfl rfl rfl rfl rfl rfl (Nat.le_of_ble_eq_true rfl) rfl ?_
  refine E.iload_n 1 dX12_appeal_5 rfl ?_
  refine E.iconst (v := 1) dX12_appeal_6 (by decide) ?_
  refine E.icmp_eq dX12_appeal_7 (fun h => ?_) (fun h => ?_)
  · have hf := e_ift hf h
    exact tX12_appeal_L22 hw hf
  · have hf := e_iff hf h
    refine E.iload_n 1 dX12_appeal_10 rfl ?_
    refine E.iconst (v := 3) dX12_appeal_11 (by decide) ?_
    refine E.icmp_eq dX12_appeal_12 (fun h => ?_) (fun h => ?_)
    · have hf := e_ift hf h
      exact tX12_appeal_L22 hw hf
    · have hf := e_iff hf h
      refine E.iload_n 1 dX12_appeal_15 rfl ?_
      refine E.iconst (v := 5) dX12_appeal_16 (by decide) ?_
      refine E.icmp_eq dX12_appeal_17 (fun h => ?_) (fun h => ?_)
      · have hf := e_ift hf h
        exact tX12_appeal_L22 hw hf
      · have hf := e_iff hf h
        refine E.iconst (v := -1) dX12_appeal_20 (by decide) ?_
        cases hf
        exact E.iret dX12_appeal_21 (Nat.le_refl _) (Nat.le_refl _) (pD_rf _ _ _)
set_option maxRecDepth 100000 in
theorem mX12_appeal {G : GT} {b : Nat} {o : Nat} {c0 : Hp} {n : Nat} (hw : e_wf (kM o) n) {v_status : Int32} {a_refusals : Nat → Int32} {a_images : Nat → Int32} {a_isKept : Nat → Int32} {a_tape : Nat → Int32} {v_taped : Int32} {v_from : Int32} {v_to : Int32} {v_sort : Int32} {v_worth : Int64} {v_fault : Int32} {v_bad : Int32} {v_nClauses : Int32} {a_nClause : Nat → Int32} {v_nCode : Int32} {a_nOp : Nat → Int32} {a_nArg : Nat → Int32} {v_nLeaves : Int32} {a_pile : Nat → Int32} {a_pileAt : Nat → Int32} {v_piled : Int32} {v_opened : Int32} {a_words : Nat → Int64} {a_headWords : Nat → Int64} {a_costs : Nat → Int32} {a_table : Nat → Int64} {a_prices : Nat → Int32} {v_surely : Int64} {a_mostBy : Nat → Int64} {a_leastBy : Nat → Int64} {v_between : Int64} {v_steadyWays : Int32} {v_quashed : Int32} {v_but : Int32} {a_lies : Nat → Int32} {a_since : Nat → Int32} {v_last : Int32} {v_state : Int64} {Fu : Nat} {v_thrown : Int32} {a_row : Nat → Int32} {v_law : Int32} {a_set : Nat → Int64} {a_rest : Nat → Int64} {v_broken : Int32} {v_value : Int64} {v_sum : Int64} {a_chances : Nat → Int32} {a_votes : Nat → Int64} {a_figures : Nat → Int32} {a_all : Nat → Int32} {x1 : Int32} {R : Int32 × Int32 × Int32 × (Nat → Int64) × (Nat → Int64) × Int32 × Int64 × Int64 × (Nat → Int32) × (Nat → Int64) × (Nat → Int32) × (Nat → Int32)} (hf : fX12_appeal Fu v_thrown a_row v_law a_set a_rest v_broken v_value v_sum a_chances a_votes a_figures a_all x1 = some R) : e_C G b yX12_appeal cX12_appeal 11 (some .int) 7 0 0 [.ref (b + o), .int x1] (e_ov (kM o) (wM G b o v_thrown v_status a_refusals a_row a_images a_isKept a_tape v_taped v_from v_to v_sort v_worth v_fault v_bad v_nClauses a_nClause v_nCode a_nOp a_nArg v_nLeaves a_pile a_pileAt v_piled v_opened a_words a_headWords v_law a_set a_rest v_broken v_value v_sum a_chances a_votes a_costs a_table a_prices v_surely a_mostBy a_leastBy v_between v_steadyWays v_quashed v_but a_figures a_all a_lies a_since v_last v_state) c0) n (pD (some (.int R.1)) (e_ov (kM o) (wM G b o R.2.1 v_status a_refusals a_row a_images a_isKept a_tape v_taped v_from v_to v_sort v_worth v_fault v_bad v_nClauses a_nClause v_nCode a_nOp a_nArg v_nLeaves a_pile a_pileAt v_piled v_opened a_words a_headWords R.2.2.1 R.2.2.2.1 R.2.2.2.2.1 R.2.2.2.2.2.1 R.2.2.2.2.2.2.1 R.2.2.2.2.2.2.2.1 R.2.2.2.2.2.2.2.2.1 R.2.2.2.2.2.2.2.2.2.1 a_costs a_table a_prices v_surely a_mostBy a_leastBy v_between v_steadyWays v_quashed v_but R.2.2.2.2.2.2.2.2.2.2.1 R.2.2.2.2.2.2.2.2.2.2.2 a_lies a_since v_last v_state) c0) n) := e_C.of (by decide) (Nat.le_of_ble_eq_true rfl) (tX12_appeal hw hf)
def fX12_draw (v_state : Int64) : Option (Int32 × Int64) := gzl 1000003 (gzl 100 (some (((((((v_state * 1103) + 12345) - ((v_state * 1103) + 12345) / 1000003 * 1000003) - (((v_state * 1103) + 12345) - ((v_state * 1103) + 12345) / 1000003 * 1000003) / 100 * 100) : Int64).toInt32), (((v_state * 1103) + 12345) - ((v_state * 1103) + 12345) / 1000003 * 1000003))))
set_option maxHeartbeats 4000000 in
set_option maxRecDepth 100000 in
theorem tX12_draw {G : GT} {b : Nat} {o : Nat} {c0 : Hp} {n : Nat} (hw : e_wf (kM o) n) {v_thrown : Int32} {v_status : Int32} {a_refusals : Nat → Int32} {a_row : Nat → Int32} {a_images : Nat → Int32} {a_isKept : Nat → Int32} {a_tape : Nat → Int32} {v_taped : Int32} {v_from : Int32} {v_to : Int32} {v_sort : Int32} {v_worth : Int64} {v_fault : Int32} {v_bad : Int32} {v_nClauses : Int32} {a_nClause : Nat → Int32} {v_nCode : Int32} {a_nOp : Nat → Int32} {a_nArg : Nat → Int32} {v_nLeaves : Int32} {a_pile : Nat → Int32} {a_pileAt : Nat → Int32} {v_piled : Int32} {v_opened : Int32} {a_words : Nat → Int64} {a_headWords : Nat → Int64} {v_law : Int32} {a_set : Nat → Int64} {a_rest : Nat → Int64} {v_broken : Int32} {v_value : Int64} {v_sum : Int64} {a_chances : Nat → Int32} {a_votes : Nat → Int64} {a_costs : Nat → Int32} {a_table : Nat → Int64} {a_prices : Nat → Int32} {v_surely : Int64} {a_mostBy : Nat → Int64} {a_leastBy : Nat → Int64} {v_between : Int64} {v_steadyWays : Int32} {v_quashed : Int32} {v_but : Int32} {a_figures : Nat → Int32} {a_all : Nat → Int32} {a_lies : Nat → Int32} {a_since : Nat → Int32} {v_last : Int32} {v_state : Int64} {R : Int32 × Int64} (hf : fX12_draw v_state = some R) : E G b yX12_draw cX12_draw 1 (some .int) (e_rm 0 0 0) e_X0 (e_Z G b (pD (some (.int R.1)) (e_ov (kM o) (wM G b o v_thrown v_status a_refusals a_row a_images a_isKept a_tape v_taped v_from v_to v_sort v_worth v_fault v_bad v_nClauses a_nClause v_nCode a_nOp a_nArg v_nLeaves a_pile a_pileAt v_piled v_opened a_words a_headWords v_law a_set a_rest v_broken v_value v_sum a_chances a_votes a_costs a_table a_prices v_surely a_mostBy a_leastBy v_between v_steadyWays v_quashed v_but a_figures a_all a_lies a_since v_last R.2) c0) n) 0 0) 0 [(0, .ref (b + o))] [] (e_ov (kM o) (wM G b o v_thrown v_status a_refusals a_row a_images a_isKept a_tape v_taped v_from v_to v_sort v_worth v_fault v_bad v_nClauses a_nClause v_nCode a_nOp a_nArg v_nLeaves a_pile a_pileAt v_piled v_opened a_words a_headWords v_law a_set a_rest v_broken v_value v_sum a_chances a_votes a_costs a_table a_prices v_surely a_mostBy a_leastBy v_between v_steadyWays v_quashed v_but a_figures a_all a_lies a_since v_last v_state) c0) n 0 0 := by
  unfold fX12_draw at hf
  refine E.aload_n 0 dX12_draw_0 rfl ?_
  refine E.aload_n 0 dX12_draw_1 rfl ?_
  refine E.get hw 0 o dX12_draw_2 flX12_486 rfl rfl rfl rfl ?_
  refine E.ldc2 dX12_draw_5 kX12_489 ?_
  refine E.lmul dX12_draw_8 ?_
  refine E.ldc2 dX12_draw_9 kX12_491 ?_
  refine E.ladd dX12_draw_12 ?_
  refine E.ldc2 dX12_draw_13 kX12_493 ?_
  obtain ⟨g1, hf⟩ := gzl_some hf
  refine E.lrem dX12_draw_16 g1 ?_
  refine E.put (es' := (wM G b o v_thrown v_status a_refusals a_row a_images a_isKept a_tape v_taped v_from v_to v_sort v_worth v_fault v_bad v_nClauses a_nClause v_nCode a_nOp a_nArg v_nLeaves a_pile a_pileAt v_piled v_opened a_words a_headWords v_law a_set a_rest v_broken v_value v_sum a_chances a_votes a_costs a_table a_prices v_surely a_mostBy a_leastBy v_between v_steadyWays v_quashed v_but a_figures a_all a_lies a_since v_last (((v_state * 1103) + 12345) - ((v_state * 1103) + 12345) / 1000003 * 1000003))) hw 0 o dX12_draw_17 flX12_486 ftX12 rfl rfl rfl rfl rfl rfl (Nat.le_of_ble_eq_true rfl) rfl ?_
  refine E.aload_n 0 dX12_draw_20 rfl ?_
  refine E.get hw 0 o dX12_draw_21 flX12_486 rfl rfl rfl rfl ?_
  refine E.ldc2 dX12_draw_24 kX12_179 ?_
  obtain ⟨g2, hf⟩ := gzl_some hf
  refine E.lrem dX12_draw_27 g2 ?_
  refine E.l2i dX12_draw_28 ?_
  cases hf
  exact E.iret dX12_draw_29 (Nat.le_refl _) (Nat.le_refl _) (pD_rf _ _ _)
set_option maxRecDepth 100000 in
theorem mX12_draw {G : GT} {b : Nat} {o : Nat} {c0 : Hp} {n : Nat} (hw : e_wf (kM o) n) {v_thrown : Int32} {v_status : Int32} {a_refusals : Nat → Int32} {a_row : Nat → Int32} {a_images : Nat → Int32} {a_isKept : Nat → Int32} {a_tape : Nat → Int32} {v_taped : Int32} {v_from : Int32} {v_to : Int32} {v_sort : Int32} {v_worth : Int64} {v_fault : Int32} {v_bad : Int32} {v_nClauses : Int32} {a_nClause : Nat → Int32} {v_nCode : Int32} {a_nOp : Nat → Int32} {a_nArg : Nat → Int32} {v_nLeaves : Int32} {a_pile : Nat → Int32} {a_pileAt : Nat → Int32} {v_piled : Int32} {v_opened : Int32} {a_words : Nat → Int64} {a_headWords : Nat → Int64} {v_law : Int32} {a_set : Nat → Int64} {a_rest : Nat → Int64} {v_broken : Int32} {v_value : Int64} {v_sum : Int64} {a_chances : Nat → Int32} {a_votes : Nat → Int64} {a_costs : Nat → Int32} {a_table : Nat → Int64} {a_prices : Nat → Int32} {v_surely : Int64} {a_mostBy : Nat → Int64} {a_leastBy : Nat → Int64} {v_between : Int64} {v_steadyWays : Int32} {v_quashed : Int32} {v_but : Int32} {a_figures : Nat → Int32} {a_all : Nat → Int32} {a_lies : Nat → Int32} {a_since : Nat → Int32} {v_last : Int32} {v_state : Int64} {R : Int32 × Int64} (hf : fX12_draw v_state = some R) : e_C G b yX12_draw cX12_draw 1 (some .int) 0 0 0 [.ref (b + o)] (e_ov (kM o) (wM G b o v_thrown v_status a_refusals a_row a_images a_isKept a_tape v_taped v_from v_to v_sort v_worth v_fault v_bad v_nClauses a_nClause v_nCode a_nOp a_nArg v_nLeaves a_pile a_pileAt v_piled v_opened a_words a_headWords v_law a_set a_rest v_broken v_value v_sum a_chances a_votes a_costs a_table a_prices v_surely a_mostBy a_leastBy v_between v_steadyWays v_quashed v_but a_figures a_all a_lies a_since v_last v_state) c0) n (pD (some (.int R.1)) (e_ov (kM o) (wM G b o v_thrown v_status a_refusals a_row a_images a_isKept a_tape v_taped v_from v_to v_sort v_worth v_fault v_bad v_nClauses a_nClause v_nCode a_nOp a_nArg v_nLeaves a_pile a_pileAt v_piled v_opened a_words a_headWords v_law a_set a_rest v_broken v_value v_sum a_chances a_votes a_costs a_table a_prices v_surely a_mostBy a_leastBy v_between v_steadyWays v_quashed v_but a_figures a_all a_lies a_since v_last R.2) c0) n) := e_C.of (by decide) (Nat.le_of_ble_eq_true rfl) (tX12_draw hw hf)
def fX12_minute_L153 (Fu : Nat) (k16 : (Nat → Int32) → Int32 → (Nat → Int64) → (Nat → Int64) → Int32 → Int64 → Int64 → (Nat → Int32) → (Nat → Int32) → Int64 → Int32 → Int32 → Int32 → Int32 → Int32 → Option (Int32 × Int32 × (Nat → Int64) × (Nat → Int64) × Int32 × Int64 × Int64 × (Nat → Int32) × (Nat → Int32) × Int64)) (a_row : Nat → Int32) (v_law : Int32) (a_set : Nat → Int64) (a_rest : Nat → Int64) (v_broken : Int32) (v_value : Int64) (v_sum : Int64) (a_lies : Nat → Int32) (a_since : Nat → Int32) (v_state : Int64) (x1 : Int32) (x2 : Int32) (x3 : Int32) (x5 : Int32) (s0 : Int32) (s1 : Int32) : Option (Int32 × Int32 × (Nat → Int64) × (Nat → Int64) × Int32 × Int64 × Int64 × (Nat → Int32) × (Nat → Int32) × Int64) := k16 a_row v_law a_set a_rest v_broken v_value v_sum a_lies a_since v_state x1 x2 x3 (s1 + s0) (x5 + 1)
set_option maxHeartbeats 4000000 in
set_option maxRecDepth 100000 in
theorem tX12_minute_L153 {G : GT} {b : Nat} {o : Nat} {c0 : Hp} {n : Nat} (hw : e_wf (kM o) n) {v_thrown : Int32} {v_status : Int32} {a_refusals : Nat → Int32} {a_images : Nat → Int32} {a_isKept : Nat → Int32} {a_tape : Nat → Int32} {v_taped : Int32} {v_from : Int32} {v_to : Int32} {v_sort : Int32} {v_worth : Int64} {v_fault : Int32} {v_bad : Int32} {v_nClauses : Int32} {a_nClause : Nat → Int32} {v_nCode : Int32} {a_nOp : Nat → Int32} {a_nArg : Nat → Int32} {v_nLeaves : Int32} {a_pile : Nat → Int32} {a_pileAt : Nat → Int32} {v_piled : Int32} {v_opened : Int32} {a_words : Nat → Int64} {a_headWords : Nat → Int64} {a_chances : Nat → Int32} {a_votes : Nat → Int64} {a_costs : Nat → Int32} {a_table : Nat → Int64} {a_prices : Nat → Int32} {v_surely : Int64} {a_mostBy : Nat → Int64} {a_leastBy : Nat → Int64} {v_between : Int64} {v_steadyWays : Int32} {v_quashed : Int32} {v_but : Int32} {a_figures : Nat → Int32} {a_all : Nat → Int32} {v_last : Int32} {Fu : Nat} {k16 : (Nat → Int32) → Int32 → (Nat → Int64) → (Nat → Int64) → Int32 → Int64 → Int64 → (Nat → Int32) → (Nat → Int32) → Int64 → Int32 → Int32 → Int32 → Int32 → Int32 → Option (Int32 × Int32 × (Nat → Int64) × (Nat → Int64) × Int32 × Int64 × Int64 × (Nat → Int32) × (Nat → Int32) × Int64)} (hk16 : ∀ {a_row : Nat → Int32} {v_law : Int32} {a_set : Nat → Int64} {a_rest : Nat → Int64} {v_broken : Int32} {v_value : Int64} {v_sum : Int64} {a_lies : Nat → Int32} {a_since : Nat → Int32} {v_state : Int64} {x1 : Int32} {x2 : Int32} {x3 : Int32} {x4 : Int32} {x5 : Int32} {R : Int32 × Int32 × (Nat → Int64) × (Nat → Int64) × Int32 × Int64 × Int64 × (Nat → Int32) × (Nat → Int32) × Int64}, k16 a_row v_law a_set a_rest v_broken v_value v_sum a_lies a_since v_state x1 x2 x3 x4 x5 = some R → E G b yX12_minute cX12_minute 7 (some .int) (e_rm 5 0 0) e_X0 (e_Z G b (pD (some (.int R.1)) (e_ov (kM o) (wM G b o v_thrown v_status a_refusals a_row a_images a_isKept a_tape v_taped v_from v_to v_sort v_worth v_fault v_bad v_nClauses a_nClause v_nCode a_nOp a_nArg v_nLeaves a_pile a_pileAt v_piled v_opened a_words a_headWords R.2.1 R.2.2.1 R.2.2.2.1 R.2.2.2.2.1 R.2.2.2.2.2.1 R.2.2.2.2.2.2.1 a_chances a_votes a_costs a_table a_prices v_surely a_mostBy a_leastBy v_between v_steadyWays v_quashed v_but a_figures a_all R.2.2.2.2.2.2.2.1 R.2.2.2.2.2.2.2.2.1 v_last R.2.2.2.2.2.2.2.2.2) c0) n) 0 0) 16 [(0, .ref (b + o)), (1, .int x1), (2, .int x2), (3, .int x3), (4, .int x4), (5, .int x5)] [] (e_ov (kM o) (wM G b o v_thrown v_status a_refusals a_row a_images a_isKept a_tape v_taped v_from v_to v_sort v_worth v_fault v_bad v_nClauses a_nClause v_nCode a_nOp a_nArg v_nLeaves a_pile a_pileAt v_piled v_opened a_words a_headWords v_law a_set a_rest v_broken v_value v_sum a_chances a_votes a_costs a_table a_prices v_surely a_mostBy a_leastBy v_between v_steadyWays v_quashed v_but a_figures a_all a_lies a_since v_last v_state) c0) n 0 0) {a_row : Nat → Int32} {v_law : Int32} {a_set : Nat → Int64} {a_rest : Nat → Int64} {v_broken : Int32} {v_value : Int64} {v_sum : Int64} {a_lies : Nat → Int32} {a_since : Nat → Int32} {v_state : Int64} {x1 : Int32} {x2 : Int32} {x3 : Int32} {x5 : Int32} {s0 : Int32} {s1 : Int32} {R : Int32 × Int32 × (Nat → Int64) × (Nat → Int64) × Int32 × Int64 × Int64 × (Nat → Int32) × (Nat → Int32) × Int64} (hf : fX12_minute_L153 Fu k16 a_row v_law a_set a_rest v_broken v_value v_sum a_lies a_since v_state x1 x2 x3 x5 s0 s1 = some R) : E G b yX12_minute cX12_minute 7 (some .int) (e_rm 5 0 0) e_X0 (e_Z G b (pD (some (.int R.1)) (e_ov (kM o) (wM G b o v_thrown v_status a_refusals a_row a_images a_isKept a_tape v_taped v_from v_to v_sort v_worth v_fault v_bad v_nClauses a_nClause v_nCode a_nOp a_nArg v_nLeaves a_pile a_pileAt v_piled v_opened a_words a_headWords R.2.1 R.2.2.1 R.2.2.2.1 R.2.2.2.2.1 R.2.2.2.2.2.1 R.2.2.2.2.2.2.1 a_chances a_votes a_costs a_table a_prices v_surely a_mostBy a_leastBy v_between v_steadyWays v_quashed v_but a_figures a_all R.2.2.2.2.2.2.2.1 R.2.2.2.2.2.2.2.2.1 v_last R.2.2.2.2.2.2.2.2.2) c0) n) 0 0) 153 [(0, .ref (b + o)), (1, .int x1), (2, .int x2), (3, .int x3), (5, .int x5)] [.int s0, .int s1] (e_ov (kM o) (wM G b o v_thrown v_status a_refusals a_row a_images a_isKept a_tape v_taped v_from v_to v_sort v_worth v_fault v_bad v_nClauses a_nClause v_nCode a_nOp a_nArg v_nLeaves a_pile a_pileAt v_piled v_opened a_words a_headWords v_law a_set a_rest v_broken v_value v_sum a_chances a_votes a_costs a_table a_prices v_surely a_mostBy a_leastBy v_between v_steadyWays v_quashed v_but a_figures a_all a_lies a_since v_last v_state) c0) n 0 0 := by
  unfold fX12_minute_L153 at hf
  refine E.iadd dX12_minute_153 ?_
  refine E.istore (lv' := [(4, .int (s1 + s0)), (0, .ref (b + o)), (1, .int x1), (2, .int x2), (3, .int x3), (5, .int x5)]) dX12_minute_154 (by decide) rfl ?_
  refine E.iinc (q := 5) (v := (x5 + 1)) (lv' := [(5, .int (x5 + 1)), (4, .int (s1 + s0)), (0, .ref (b + o)), (1, .int x1), (2, .int x2), (3, .int x3)]) dX12_minute_156 rfl rfl (by decide) rfl ?_
  refine E.goto dX12_minute_159 ?_
  refine E.locals [2, 3, 4, 5, 1, 0] rfl ?_
  exact hk16 hf
def fX12_minute_L133 (Fu : Nat) (k16 : (Nat → Int32) → Int32 → (Nat → Int64) → (Nat → Int64) → Int32 → Int64 → Int64 → (Nat → Int32) → (Nat → Int32) → Int64 → Int32 → Int32 → Int32 → Int32 → Int32 → Option (Int32 × Int32 × (Nat → Int64) × (Nat → Int64) × Int32 × Int64 × Int64 × (Nat → Int32) × (Nat → Int32) × Int64)) (a_row : Nat → Int32) (v_law : Int32) (a_set : Nat → Int64) (a_rest : Nat → Int64) (v_broken : Int32) (v_value : Int64) (v_sum : Int64) (a_lies : Nat → Int32) (a_since : Nat → Int32) (v_state : Int64) (x1 : Int32) (x2 : Int32) (x4 : Int32) (x5 : Int32) (s0 : Int32) (s1 : Int32) : Option (Int32 × Int32 × (Nat → Int64) × (Nat → Int64) × Int32 × Int64 × Int64 × (Nat → Int32) × (Nat → Int32) × Int64) := gd x5 8 (if ((a_lies (x5 : Int32).toNatClampNeg) : Int32) = (1 : Int32) then (fX12_minute_L153 Fu k16 a_row v_law a_set a_rest v_broken v_value v_sum a_lies a_since v_state x1 x2 (s1 + s0) x5 1 x4) else (fX12_minute_L153 Fu k16 a_row v_law a_set a_rest v_broken v_value v_sum a_lies a_since v_state x1 x2 (s1 + s0) x5 0 x4))
set_option maxHeartbeats 4000000 in
set_option maxRecDepth 100000 in
theorem tX12_minute_L133 {G : GT} {b : Nat} {o : Nat} {c0 : Hp} {n : Nat} (hw : e_wf (kM o) n) {v_thrown : Int32} {v_status : Int32} {a_refusals : Nat → Int32} {a_images : Nat → Int32} {a_isKept : Nat → Int32} {a_tape : Nat → Int32} {v_taped : Int32} {v_from : Int32} {v_to : Int32} {v_sort : Int32} {v_worth : Int64} {v_fault : Int32} {v_bad : Int32} {v_nClauses : Int32} {a_nClause : Nat → Int32} {v_nCode : Int32} {a_nOp : Nat → Int32} {a_nArg : Nat → Int32} {v_nLeaves : Int32} {a_pile : Nat → Int32} {a_pileAt : Nat → Int32} {v_piled : Int32} {v_opened : Int32} {a_words : Nat → Int64} {a_headWords : Nat → Int64} {a_chances : Nat → Int32} {a_votes : Nat → Int64} {a_costs : Nat → Int32} {a_table : Nat → Int64} {a_prices : Nat → Int32} {v_surely : Int64} {a_mostBy : Nat → Int64} {a_leastBy : Nat → Int64} {v_between : Int64} {v_steadyWays : Int32} {v_quashed : Int32} {v_but : Int32} {a_figures : Nat → Int32} {a_all : Nat → Int32} {v_last : Int32} {Fu : Nat} {k16 : (Nat → Int32) → Int32 → (Nat → Int64) → (Nat → Int64) → Int32 → Int64 → Int64 → (Nat → Int32) → (Nat → Int32) → Int64 → Int32 → Int32 → Int32 → Int32 → Int32 → Option (Int32 × Int32 × (Nat → Int64) × (Nat → Int64) × Int32 × Int64 × Int64 × (Nat → Int32) × (Nat → Int32) × Int64)} (hk16 : ∀ {a_row : Nat → Int32} {v_law : Int32} {a_set : Nat → Int64} {a_rest : Nat → Int64} {v_broken : Int32} {v_value : Int64} {v_sum : Int64} {a_lies : Nat → Int32} {a_since : Nat → Int32} {v_state : Int64} {x1 : Int32} {x2 : Int32} {x3 : Int32} {x4 : Int32} {x5 : Int32} {R : Int32 × Int32 × (Nat → Int64) × (Nat → Int64) × Int32 × Int64 × Int64 × (Nat → Int32) × (Nat → Int32) × Int64}, k16 a_row v_law a_set a_rest v_broken v_value v_sum a_lies a_since v_state x1 x2 x3 x4 x5 = some R → E G b yX12_minute cX12_minute 7 (some .int) (e_rm 5 0 0) e_X0 (e_Z G b (pD (some (.int R.1)) (e_ov (kM o) (wM G b o v_thrown v_status a_refusals a_row a_images a_isKept a_tape v_taped v_from v_to v_sort v_worth v_fault v_bad v_nClauses a_nClause v_nCode a_nOp a_nArg v_nLeaves a_pile a_pileAt v_piled v_opened a_words a_headWords R.2.1 R.2.2.1 R.2.2.2.1 R.2.2.2.2.1 R.2.2.2.2.2.1 R.2.2.2.2.2.2.1 a_chances a_votes a_costs a_table a_prices v_surely a_mostBy a_leastBy v_between v_steadyWays v_quashed v_but a_figures a_all R.2.2.2.2.2.2.2.1 R.2.2.2.2.2.2.2.2.1 v_last R.2.2.2.2.2.2.2.2.2) c0) n) 0 0) 16 [(0, .ref (b + o)), (1, .int x1), (2, .int x2), (3, .int x3), (4, .int x4), (5, .int x5)] [] (e_ov (kM o) (wM G b o v_thrown v_status a_refusals a_row a_images a_isKept a_tape v_taped v_from v_to v_sort v_worth v_fault v_bad v_nClauses a_nClause v_nCode a_nOp a_nArg v_nLeaves a_pile a_pileAt v_piled v_opened a_words a_headWords v_law a_set a_rest v_broken v_value v_sum a_chances a_votes a_costs a_table a_prices v_surely a_mostBy a_leastBy v_between v_steadyWays v_quashed v_but a_figures a_all a_lies a_since v_last v_state) c0) n 0 0) {a_row : Nat → Int32} {v_law : Int32} {a_set : Nat → Int64} {a_rest : Nat → Int64} {v_broken : Int32} {v_value : Int64} {v_sum : Int64} {a_lies : Nat → Int32} {a_since : Nat → Int32} {v_state : Int64} {x1 : Int32} {x2 : Int32} {x4 : Int32} {x5 : Int32} {s0 : Int32} {s1 : Int32} {R : Int32 × Int32 × (Nat → Int64) × (Nat → Int64) × Int32 × Int64 × Int64 × (Nat → Int32) × (Nat → Int32) × Int64} (hf : fX12_minute_L133 Fu k16 a_row v_law a_set a_rest v_broken v_value v_sum a_lies a_since v_state x1 x2 x4 x5 s0 s1 = some R) : E G b yX12_minute cX12_minute 7 (some .int) (e_rm 5 0 0) e_X0 (e_Z G b (pD (some (.int R.1)) (e_ov (kM o) (wM G b o v_thrown v_status a_refusals a_row a_images a_isKept a_tape v_taped v_from v_to v_sort v_worth v_fault v_bad v_nClauses a_nClause v_nCode a_nOp a_nArg v_nLeaves a_pile a_pileAt v_piled v_opened a_words a_headWords R.2.1 R.2.2.1 R.2.2.2.1 R.2.2.2.2.1 R.2.2.2.2.2.1 R.2.2.2.2.2.2.1 a_chances a_votes a_costs a_table a_prices v_surely a_mostBy a_leastBy v_between v_steadyWays v_quashed v_but a_figures a_all R.2.2.2.2.2.2.2.1 R.2.2.2.2.2.2.2.2.1 v_last R.2.2.2.2.2.2.2.2.2) c0) n) 0 0) 133 [(0, .ref (b + o)), (1, .int x1), (2, .int x2), (4, .int x4), (5, .int x5)] [.int s0, .int s1] (e_ov (kM o) (wM G b o v_thrown v_status a_refusals a_row a_images a_isKept a_tape v_taped v_from v_to v_sort v_worth v_fault v_bad v_nClauses a_nClause v_nCode a_nOp a_nArg v_nLeaves a_pile a_pileAt v_piled v_opened a_words a_headWords v_law a_set a_rest v_broken v_value v_sum a_chances a_votes a_costs a_table a_prices v_surely a_mostBy a_leastBy v_between v_steadyWays v_quashed v_but a_figures a_all a_lies a_since v_last v_state) c0) n 0 0 := by
  unfold fX12_minute_L133 at hf
  refine E.iadd dX12_minute_133 ?_
  refine E.istore_n (lv' := [(3, .int (s1 + s0)), (0, .ref (b + o)), (1, .int x1), (2, .int x2), (4, .int x4), (5, .int x5)]) dX12_minute_134 (by decide) rfl ?_
  refine E.iload 4 dX12_minute_135 rfl ?_
  refine E.aload_n 1 dX12_minute_137 rfl ?_
  refine E.get hw 0 o dX12_minute_138 flX12_115 rfl rfl rfl rfl ?_
  refine E.iload 5 dX12_minute_141 rfl ?_
  obtain ⟨g15, hf⟩ := gd_some hf
  refine E.iald hw 24 (o + 24) dX12_minute_143 rfl rfl g15 ?_
  refine E.iconst (v := 1) dX12_minute_144 (by decide) ?_
  refine E.icmp_ne dX12_minute_145 (fun h => ?_) (fun h => ?_)
  · have hf := e_iff hf h
    refine E.iconst (v := 0) dX12_minute_152 (by decide) ?_
    refine E.locals [1, 2, 3, 0, 5] rfl ?_
    exact tX12_minute_L153 hw hk16 hf
  · have hf := e_ift hf h
    refine E.iconst (v := 1) dX12_minute_148 (by decide) ?_
    refine E.goto dX12_minute_149 ?_
    refine E.locals [1, 2, 3, 0, 5] rfl ?_
    exact tX12_minute_L153 hw hk16 hf
def fX12_minute_L117 (Fu : Nat) (k16 : (Nat → Int32) → Int32 → (Nat → Int64) → (Nat → Int64) → Int32 → Int64 → Int64 → (Nat → Int32) → (Nat → Int32) → Int64 → Int32 → Int32 → Int32 → Int32 → Int32 → Option (Int32 × Int32 × (Nat → Int64) × (Nat → Int64) × Int32 × Int64 × Int64 × (Nat → Int32) × (Nat → Int32) × Int64)) (a_row : Nat → Int32) (v_law : Int32) (a_set : Nat → Int64) (a_rest : Nat → Int64) (v_broken : Int32) (v_value : Int64) (v_sum : Int64) (a_lies : Nat → Int32) (a_since : Nat → Int32) (v_state : Int64) (x1 : Int32) (x2 : Int32) (x3 : Int32) (x4 : Int32) (x5 : Int32) : Option (Int32 × Int32 × (Nat → Int64) × (Nat → Int64) × Int32 × Int64 × Int64 × (Nat → Int32) × (Nat → Int32) × Int64) := gd x5 8 (if ((a_lies (x5 : Int32).toNatClampNeg) : Int32) = 0 then (fX12_minute_L133 Fu k16 a_row v_law a_set a_rest v_broken v_value v_sum a_lies a_since v_state x1 x2 x4 x5 1 x3) else (fX12_minute_L133 Fu k16 a_row v_law a_set a_rest v_broken v_value v_sum a_lies a_since v_state x1 x2 x4 x5 0 x3))
set_option maxHeartbeats 4000000 in
set_option maxRecDepth 100000 in
theorem tX12_minute_L117 {G : GT} {b : Nat} {o : Nat} {c0 : Hp} {n : Nat} (hw : e_wf (kM o) n) {v_thrown : Int32} {v_status : Int32} {a_refusals : Nat → Int32} {a_images : Nat → Int32} {a_isKept : Nat → Int32} {a_tape : Nat → Int32} {v_taped : Int32} {v_from : Int32} {v_to : Int32} {v_sort : Int32} {v_worth : Int64} {v_fault : Int32} {v_bad : Int32} {v_nClauses : Int32} {a_nClause : Nat → Int32} {v_nCode : Int32} {a_nOp : Nat → Int32} {a_nArg : Nat → Int32} {v_nLeaves : Int32} {a_pile : Nat → Int32} {a_pileAt : Nat → Int32} {v_piled : Int32} {v_opened : Int32} {a_words : Nat → Int64} {a_headWords : Nat → Int64} {a_chances : Nat → Int32} {a_votes : Nat → Int64} {a_costs : Nat → Int32} {a_table : Nat → Int64} {a_prices : Nat → Int32} {v_surely : Int64} {a_mostBy : Nat → Int64} {a_leastBy : Nat → Int64} {v_between : Int64} {v_steadyWays : Int32} {v_quashed : Int32} {v_but : Int32} {a_figures : Nat → Int32} {a_all : Nat → Int32} {v_last : Int32} {Fu : Nat} {k16 : (Nat → Int32) → Int32 → (Nat → Int64) → (Nat → Int64) → Int32 → Int64 → Int64 → (Nat → Int32) → (Nat → Int32) → Int64 → Int32 → Int32 → Int32 → Int32 → Int32 → Option (Int32 × Int32 × (Nat → Int64) × (Nat → Int64) × Int32 × Int64 × Int64 × (Nat → Int32) × (Nat → Int32) × Int64)} (hk16 : ∀ {a_row : Nat → Int32} {v_law : Int32} {a_set : Nat → Int64} {a_rest : Nat → Int64} {v_broken : Int32} {v_value : Int64} {v_sum : Int64} {a_lies : Nat → Int32} {a_since : Nat → Int32} {v_state : Int64} {x1 : Int32} {x2 : Int32} {x3 : Int32} {x4 : Int32} {x5 : Int32} {R : Int32 × Int32 × (Nat → Int64) × (Nat → Int64) × Int32 × Int64 × Int64 × (Nat → Int32) × (Nat → Int32) × Int64}, k16 a_row v_law a_set a_rest v_broken v_value v_sum a_lies a_since v_state x1 x2 x3 x4 x5 = some R → E G b yX12_minute cX12_minute 7 (some .int) (e_rm 5 0 0) e_X0 (e_Z G b (pD (some (.int R.1)) (e_ov (kM o) (wM G b o v_thrown v_status a_refusals a_row a_images a_isKept a_tape v_taped v_from v_to v_sort v_worth v_fault v_bad v_nClauses a_nClause v_nCode a_nOp a_nArg v_nLeaves a_pile a_pileAt v_piled v_opened a_words a_headWords R.2.1 R.2.2.1 R.2.2.2.1 R.2.2.2.2.1 R.2.2.2.2.2.1 R.2.2.2.2.2.2.1 a_chances a_votes a_costs a_table a_prices v_surely a_mostBy a_leastBy v_between v_steadyWays v_quashed v_but a_figures a_all R.2.2.2.2.2.2.2.1 R.2.2.2.2.2.2.2.2.1 v_last R.2.2.2.2.2.2.2.2.2) c0) n) 0 0) 16 [(0, .ref (b + o)), (1, .int x1), (2, .int x2), (3, .int x3), (4, .int x4), (5, .int x5)] [] (e_ov (kM o) (wM G b o v_thrown v_status a_refusals a_row a_images a_isKept a_tape v_taped v_from v_to v_sort v_worth v_fault v_bad v_nClauses a_nClause v_nCode a_nOp a_nArg v_nLeaves a_pile a_pileAt v_piled v_opened a_words a_headWords v_law a_set a_rest v_broken v_value v_sum a_chances a_votes a_costs a_table a_prices v_surely a_mostBy a_leastBy v_between v_steadyWays v_quashed v_but a_figures a_all a_lies a_since v_last v_state) c0) n 0 0) {a_row : Nat → Int32} {v_law : Int32} {a_set : Nat → Int64} {a_rest : Nat → Int64} {v_broken : Int32} {v_value : Int64} {v_sum : Int64} {a_lies : Nat → Int32} {a_since : Nat → Int32} {v_state : Int64} {x1 : Int32} {x2 : Int32} {x3 : Int32} {x4 : Int32} {x5 : Int32} {R : Int32 × Int32 × (Nat → Int64) × (Nat → Int64) × Int32 × Int64 × Int64 × (Nat → Int32) × (Nat → Int32) × Int64} (hf : fX12_minute_L117 Fu k16 a_row v_law a_set a_rest v_broken v_value v_sum a_lies a_since v_state x1 x2 x3 x4 x5 = some R) : E G b yX12_minute cX12_minute 7 (some .int) (e_rm 5 0 0) e_X0 (e_Z G b (pD (some (.int R.1)) (e_ov (kM o) (wM G b o v_thrown v_status a_refusals a_row a_images a_isKept a_tape v_taped v_from v_to v_sort v_worth v_fault v_bad v_nClauses a_nClause v_nCode a_nOp a_nArg v_nLeaves a_pile a_pileAt v_piled v_opened a_words a_headWords R.2.1 R.2.2.1 R.2.2.2.1 R.2.2.2.2.1 R.2.2.2.2.2.1 R.2.2.2.2.2.2.1 a_chances a_votes a_costs a_table a_prices v_surely a_mostBy a_leastBy v_between v_steadyWays v_quashed v_but a_figures a_all R.2.2.2.2.2.2.2.1 R.2.2.2.2.2.2.2.2.1 v_last R.2.2.2.2.2.2.2.2.2) c0) n) 0 0) 117 [(0, .ref (b + o)), (1, .int x1), (2, .int x2), (3, .int x3), (4, .int x4), (5, .int x5)] [] (e_ov (kM o) (wM G b o v_thrown v_status a_refusals a_row a_images a_isKept a_tape v_taped v_from v_to v_sort v_worth v_fault v_bad v_nClauses a_nClause v_nCode a_nOp a_nArg v_nLeaves a_pile a_pileAt v_piled v_opened a_words a_headWords v_law a_set a_rest v_broken v_value v_sum a_chances a_votes a_costs a_table a_prices v_surely a_mostBy a_leastBy v_between v_steadyWays v_quashed v_but a_figures a_all a_lies a_since v_last v_state) c0) n 0 0 := by
  unfold fX12_minute_L117 at hf
  refine E.iload_n 3 dX12_minute_117 rfl ?_
  refine E.aload_n 0 dX12_minute_118 rfl ?_
  refine E.get hw 0 o dX12_minute_119 flX12_115 rfl rfl rfl rfl ?_
  refine E.iload 5 dX12_minute_122 rfl ?_
  obtain ⟨g14, hf⟩ := gd_some hf
  refine E.iald hw 24 (o + 24) dX12_minute_124 rfl rfl g14 ?_
  refine E.if_ne dX12_minute_125 (fun h => ?_) (fun h => ?_)
  · have hf := e_iff hf h
    refine E.iconst (v := 0) dX12_minute_132 (by decide) ?_
    refine E.locals [0, 1, 2, 4, 5] rfl ?_
    exact tX12_minute_L133 hw hk16 hf
  · have hf := e_ift hf h
    refine E.iconst (v := 1) dX12_minute_128 (by decide) ?_
    refine E.goto dX12_minute_129 ?_
    refine E.locals [0, 1, 2, 4, 5] rfl ?_
    exact tX12_minute_L133 hw hk16 hf
def fX12_minute_L108 (Fu : Nat) (k16 : (Nat → Int32) → Int32 → (Nat → Int64) → (Nat → Int64) → Int32 → Int64 → Int64 → (Nat → Int32) → (Nat → Int32) → Int64 → Int32 → Int32 → Int32 → Int32 → Int32 → Option (Int32 × Int32 × (Nat → Int64) × (Nat → Int64) × Int32 × Int64 × Int64 × (Nat → Int32) × (Nat → Int32) × Int64)) (a_row : Nat → Int32) (v_law : Int32) (a_set : Nat → Int64) (a_rest : Nat → Int64) (v_broken : Int32) (v_value : Int64) (v_sum : Int64) (a_lies : Nat → Int32) (a_since : Nat → Int32) (v_state : Int64) (x1 : Int32) (x2 : Int32) (x3 : Int32) (x4 : Int32) (x5 : Int32) (s0 : Int32) (s1 : Int32) : Option (Int32 × Int32 × (Nat → Int64) × (Nat → Int64) × Int32 × Int64 × Int64 × (Nat → Int32) × (Nat → Int32) × Int64) := gd s1 8 (gd x5 8 (fX12_minute_L117 Fu k16 a_row v_law a_set a_rest v_broken v_value v_sum (va_up a_lies (s1 : Int32).toNatClampNeg s0) (va_up a_since (x5 : Int32).toNatClampNeg x1) v_state x1 x2 x3 x4 x5))
set_option maxHeartbeats 4000000 in
set_option maxRecDepth 100000 in
theorem tX12_minute_L108 {G : GT} {b : Nat} {o : Nat} {c0 : Hp} {n : Nat} (hw : e_wf (kM o) n) {v_thrown : Int32} {v_status : Int32} {a_refusals : Nat → Int32} {a_images : Nat → Int32} {a_isKept : Nat → Int32} {a_tape : Nat → Int32} {v_taped : Int32} {v_from : Int32} {v_to : Int32} {v_sort : Int32} {v_worth : Int64} {v_fault : Int32} {v_bad : Int32} {v_nClauses : Int32} {a_nClause : Nat → Int32} {v_nCode : Int32} {a_nOp : Nat → Int32} {a_nArg : Nat → Int32} {v_nLeaves : Int32} {a_pile : Nat → Int32} {a_pileAt : Nat → Int32} {v_piled : Int32} {v_opened : Int32} {a_words : Nat → Int64} {a_headWords : Nat → Int64} {a_chances : Nat → Int32} {a_votes : Nat → Int64} {a_costs : Nat → Int32} {a_table : Nat → Int64} {a_prices : Nat → Int32} {v_surely : Int64} {a_mostBy : Nat → Int64} {a_leastBy : Nat → Int64} {v_between : Int64} {v_steadyWays : Int32} {v_quashed : Int32} {v_but : Int32} {a_figures : Nat → Int32} {a_all : Nat → Int32} {v_last : Int32} {Fu : Nat} {k16 : (Nat → Int32) → Int32 → (Nat → Int64) → (Nat → Int64) → Int32 → Int64 → Int64 → (Nat → Int32) → (Nat → Int32) → Int64 → Int32 → Int32 → Int32 → Int32 → Int32 → Option (Int32 × Int32 × (Nat → Int64) × (Nat → Int64) × Int32 × Int64 × Int64 × (Nat → Int32) × (Nat → Int32) × Int64)} (hk16 : ∀ {a_row : Nat → Int32} {v_law : Int32} {a_set : Nat → Int64} {a_rest : Nat → Int64} {v_broken : Int32} {v_value : Int64} {v_sum : Int64} {a_lies : Nat → Int32} {a_since : Nat → Int32} {v_state : Int64} {x1 : Int32} {x2 : Int32} {x3 : Int32} {x4 : Int32} {x5 : Int32} {R : Int32 × Int32 × (Nat → Int64) × (Nat → Int64) × Int32 × Int64 × Int64 × (Nat → Int32) × (Nat → Int32) × Int64}, k16 a_row v_law a_set a_rest v_broken v_value v_sum a_lies a_since v_state x1 x2 x3 x4 x5 = some R → E G b yX12_minute cX12_minute 7 (some .int) (e_rm 5 0 0) e_X0 (e_Z G b (pD (some (.int R.1)) (e_ov (kM o) (wM G b o v_thrown v_status a_refusals a_row a_images a_isKept a_tape v_taped v_from v_to v_sort v_worth v_fault v_bad v_nClauses a_nClause v_nCode a_nOp a_nArg v_nLeaves a_pile a_pileAt v_piled v_opened a_words a_headWords R.2.1 R.2.2.1 R.2.2.2.1 R.2.2.2.2.1 R.2.2.2.2.2.1 R.2.2.2.2.2.2.1 a_chances a_votes a_costs a_table a_prices v_surely a_mostBy a_leastBy v_between v_steadyWays v_quashed v_but a_figures a_all R.2.2.2.2.2.2.2.1 R.2.2.2.2.2.2.2.2.1 v_last R.2.2.2.2.2.2.2.2.2) c0) n) 0 0) 16 [(0, .ref (b + o)), (1, .int x1), (2, .int x2), (3, .int x3), (4, .int x4), (5, .int x5)] [] (e_ov (kM o) (wM G b o v_thrown v_status a_refusals a_row a_images a_isKept a_tape v_taped v_from v_to v_sort v_worth v_fault v_bad v_nClauses a_nClause v_nCode a_nOp a_nArg v_nLeaves a_pile a_pileAt v_piled v_opened a_words a_headWords v_law a_set a_rest v_broken v_value v_sum a_chances a_votes a_costs a_table a_prices v_surely a_mostBy a_leastBy v_between v_steadyWays v_quashed v_but a_figures a_all a_lies a_since v_last v_state) c0) n 0 0) {a_row : Nat → Int32} {v_law : Int32} {a_set : Nat → Int64} {a_rest : Nat → Int64} {v_broken : Int32} {v_value : Int64} {v_sum : Int64} {a_lies : Nat → Int32} {a_since : Nat → Int32} {v_state : Int64} {x1 : Int32} {x2 : Int32} {x3 : Int32} {x4 : Int32} {x5 : Int32} {s0 : Int32} {s1 : Int32} {R : Int32 × Int32 × (Nat → Int64) × (Nat → Int64) × Int32 × Int64 × Int64 × (Nat → Int32) × (Nat → Int32) × Int64} (hf : fX12_minute_L108 Fu k16 a_row v_law a_set a_rest v_broken v_value v_sum a_lies a_since v_state x1 x2 x3 x4 x5 s0 s1 = some R) : E G b yX12_minute cX12_minute 7 (some .int) (e_rm 5 0 0) e_X0 (e_Z G b (pD (some (.int R.1)) (e_ov (kM o) (wM G b o v_thrown v_status a_refusals a_row a_images a_isKept a_tape v_taped v_from v_to v_sort v_worth v_fault v_bad v_nClauses a_nClause v_nCode a_nOp a_nArg v_nLeaves a_pile a_pileAt v_piled v_opened a_words a_headWords R.2.1 R.2.2.1 R.2.2.2.1 R.2.2.2.2.1 R.2.2.2.2.2.1 R.2.2.2.2.2.2.1 a_chances a_votes a_costs a_table a_prices v_surely a_mostBy a_leastBy v_between v_steadyWays v_quashed v_but a_figures a_all R.2.2.2.2.2.2.2.1 R.2.2.2.2.2.2.2.2.1 v_last R.2.2.2.2.2.2.2.2.2) c0) n) 0 0) 108 [(0, .ref (b + o)), (1, .int x1), (2, .int x2), (3, .int x3), (4, .int x4), (5, .int x5)] [.int s0, .int s1, .ref (b + (o + 24))] (e_ov (kM o) (wM G b o v_thrown v_status a_refusals a_row a_images a_isKept a_tape v_taped v_from v_to v_sort v_worth v_fault v_bad v_nClauses a_nClause v_nCode a_nOp a_nArg v_nLeaves a_pile a_pileAt v_piled v_opened a_words a_headWords v_law a_set a_rest v_broken v_value v_sum a_chances a_votes a_costs a_table a_prices v_surely a_mostBy a_leastBy v_between v_steadyWays v_quashed v_but a_figures a_all a_lies a_since v_last v_state) c0) n 0 0 := by
  unfold fX12_minute_L108 at hf
  obtain ⟨g16, hf⟩ := gd_some hf
  refine E.iast (es' := (wM G b o v_thrown v_status a_refusals a_row a_images a_isKept a_tape v_taped v_from v_to v_sort v_worth v_fault v_bad v_nClauses a_nClause v_nCode a_nOp a_nArg v_nLeaves a_pile a_pileAt v_piled v_opened a_words a_headWords v_law a_set a_rest v_broken v_value v_sum a_chances a_votes a_costs a_table a_prices v_surely a_mostBy a_leastBy v_between v_steadyWays v_quashed v_but a_figures a_all (va_up a_lies (s1 : Int32).toNatClampNeg s0) a_since v_last v_state)) hw 24 (o + 24) dX12_minute_108 rfl rfl g16 rfl ?_
  refine E.aload_n 0 dX12_minute_109 rfl ?_
  refine E.get hw 0 o dX12_minute_110 flX12_118 rfl rfl rfl rfl ?_
  refine E.iload 5 dX12_minute_113 rfl ?_
  refine E.iload_n 1 dX12_minute_115 rfl ?_
  obtain ⟨g17, hf⟩ := gd_some hf
  refine E.iast (es' := (wM G b o v_thrown v_status a_refusals a_row a_images a_isKept a_tape v_taped v_from v_to v_sort v_worth v_fault v_bad v_nClauses a_nClause v_nCode a_nOp a_nArg v_nLeaves a_pile a_pileAt v_piled v_opened a_words a_headWords v_law a_set a_rest v_broken v_value v_sum a_chances a_votes a_costs a_table a_prices v_surely a_mostBy a_leastBy v_between v_steadyWays v_quashed v_but a_figures a_all (va_up a_lies (s1 : Int32).toNatClampNeg s0) (va_up a_since (x5 : Int32).toNatClampNeg x1) v_last v_state)) hw 25 (o + 25) dX12_minute_116 rfl rfl g17 rfl ?_
  exact tX12_minute_L117 hw hk16 hf
def fX12_minute_L16 (Fu : Nat) : Nat → (Nat → Int32) → Int32 → (Nat → Int64) → (Nat → Int64) → Int32 → Int64 → Int64 → (Nat → Int32) → (Nat → Int32) → Int64 → Int32 → Int32 → Int32 → Int32 → Int32 → Option (Int32 × Int32 × (Nat → Int64) × (Nat → Int64) × Int32 × Int64 × Int64 × (Nat → Int32) × (Nat → Int32) × Int64)
  | 0, _, _, _, _, _, _, _, _, _, _, _, _, _, _, _ => none
  | k + 1, a_row, v_law, a_set, a_rest, v_broken, v_value, v_sum, a_lies, a_since, v_state, x1, x2, x3, x4, x5 => if (8 : Int32) ≤ (x5 : Int32) then ((fX12_quota a_row).bind fun r2 => (if (x3 : Int32) < (r2 : Int32) then (gd 4 5570 ((fX12_bits Fu (a_row (4 : Int32).toNatClampNeg)).bind fun r4 => ((fX12_quota a_row).bind fun r5 => (if (x4 : Int32) ≤ ((r4 - r5) : Int32) then (some (2, v_law, a_set, a_rest, v_broken, v_value, v_sum, a_lies, a_since, v_state)) else (some (1, v_law, a_set, a_rest, v_broken, v_value, v_sum, a_lies, a_since, v_state)))))) else (some (0, v_law, a_set, a_rest, v_broken, v_value, v_sum, a_lies, a_since, v_state)))) else (gd 4 5570 ((fX12_is (a_row (4 : Int32).toNatClampNeg) x5).bind fun r7 => (if (r7 : Int32) = 0 then ((fX12_minute_L16 Fu k) a_row v_law a_set a_rest v_broken v_value v_sum a_lies a_since v_state x1 x2 x3 x4 (x5 + 1)) else ((fX12_ofBeast a_row x5 5).bind fun r8 => (gd x5 8 (if ((a_lies (x5 : Int32).toNatClampNeg) : Int32) = ((-1 : Int32) : Int32) then ((fX12_draw v_state).bind fun r10 => ((fX12_tells Fu a_row v_law a_set a_rest v_broken v_value v_sum 1 x5 x2 r8 (-1 : Int32) x1 10 100).bind fun r11 => (if (r11.1 : Int32) ≤ (r10.1 : Int32) then (fX12_minute_L117 Fu (fX12_minute_L16 Fu k) a_row r11.2.1 r11.2.2.1 r11.2.2.2.1 r11.2.2.2.2.1 r11.2.2.2.2.2.1 r11.2.2.2.2.2.2 a_lies a_since r10.2 x1 x2 x3 x4 x5) else ((fX12_draw r10.2).bind fun r12 => ((fX12_chanceOf Fu a_row r11.2.1 r11.2.2.1 r11.2.2.2.1 r11.2.2.2.2.1 r11.2.2.2.2.2.1 r11.2.2.2.2.2.2 x5 x2 r8 x1).bind fun r13 => (if (r13.1 : Int32) ≤ (r12.1 : Int32) then (fX12_minute_L108 Fu (fX12_minute_L16 Fu k) a_row r13.2.1 r13.2.2.1 r13.2.2.2.1 r13.2.2.2.2.1 r13.2.2.2.2.2.1 r13.2.2.2.2.2.2 a_lies a_since r12.2 x1 x2 x3 x4 x5 1 x5) else (fX12_minute_L108 Fu (fX12_minute_L16 Fu k) a_row r13.2.1 r13.2.2.1 r13.2.2.2.1 r13.2.2.2.2.1 r13.2.2.2.2.2.1 r13.2.2.2.2.2.2 a_lies a_since r12.2 x1 x2 x3 x4 x5 0 x5))))))) else (fX12_minute_L117 Fu (fX12_minute_L16 Fu k) a_row v_law a_set a_rest v_broken v_value v_sum a_lies a_since v_state x1 x2 x3 x4 x5)))))))
set_option maxHeartbeats 4000000 in
set_option maxRecDepth 100000 in
theorem tX12_minute_L16 {G : GT} {b : Nat} {o : Nat} {c0 : Hp} {n : Nat} (hw : e_wf (kM o) n) {v_thrown : Int32} {v_status : Int32} {a_refusals : Nat → Int32} {a_images : Nat → Int32} {a_isKept : Nat → Int32} {a_tape : Nat → Int32} {v_taped : Int32} {v_from : Int32} {v_to : Int32} {v_sort : Int32} {v_worth : Int64} {v_fault : Int32} {v_bad : Int32} {v_nClauses : Int32} {a_nClause : Nat → Int32} {v_nCode : Int32} {a_nOp : Nat → Int32} {a_nArg : Nat → Int32} {v_nLeaves : Int32} {a_pile : Nat → Int32} {a_pileAt : Nat → Int32} {v_piled : Int32} {v_opened : Int32} {a_words : Nat → Int64} {a_headWords : Nat → Int64} {a_chances : Nat → Int32} {a_votes : Nat → Int64} {a_costs : Nat → Int32} {a_table : Nat → Int64} {a_prices : Nat → Int32} {v_surely : Int64} {a_mostBy : Nat → Int64} {a_leastBy : Nat → Int64} {v_between : Int64} {v_steadyWays : Int32} {v_quashed : Int32} {v_but : Int32} {a_figures : Nat → Int32} {a_all : Nat → Int32} {v_last : Int32} {Fu : Nat} : ∀ (k : Nat) {a_row : Nat → Int32} {v_law : Int32} {a_set : Nat → Int64} {a_rest : Nat → Int64} {v_broken : Int32} {v_value : Int64} {v_sum : Int64} {a_lies : Nat → Int32} {a_since : Nat → Int32} {v_state : Int64} {x1 : Int32} {x2 : Int32} {x3 : Int32} {x4 : Int32} {x5 : Int32} {R : Int32 × Int32 × (Nat → Int64) × (Nat → Int64) × Int32 × Int64 × Int64 × (Nat → Int32) × (Nat → Int32) × Int64}, fX12_minute_L16 Fu k a_row v_law a_set a_rest v_broken v_value v_sum a_lies a_since v_state x1 x2 x3 x4 x5 = some R → E G b yX12_minute cX12_minute 7 (some .int) (e_rm 5 0 0) e_X0 (e_Z G b (pD (some (.int R.1)) (e_ov (kM o) (wM G b o v_thrown v_status a_refusals a_row a_images a_isKept a_tape v_taped v_from v_to v_sort v_worth v_fault v_bad v_nClauses a_nClause v_nCode a_nOp a_nArg v_nLeaves a_pile a_pileAt v_piled v_opened a_words a_headWords R.2.1 R.2.2.1 R.2.2.2.1 R.2.2.2.2.1 R.2.2.2.2.2.1 R.2.2.2.2.2.2.1 a_chances a_votes a_costs a_table a_prices v_surely a_mostBy a_leastBy v_between v_steadyWays v_quashed v_but a_figures a_all R.2.2.2.2.2.2.2.1 R.2.2.2.2.2.2.2.2.1 v_last R.2.2.2.2.2.2.2.2.2) c0) n) 0 0) 16 [(0, .ref (b + o)), (1, .int x1), (2, .int x2), (3, .int x3), (4, .int x4), (5, .int x5)] [] (e_ov (kM o) (wM G b o v_thrown v_status a_refusals a_row a_images a_isKept a_tape v_taped v_from v_to v_sort v_worth v_fault v_bad v_nClauses a_nClause v_nCode a_nOp a_nArg v_nLeaves a_pile a_pileAt v_piled v_opened a_words a_headWords v_law a_set a_rest v_broken v_value v_sum a_chances a_votes a_costs a_table a_prices v_surely a_mostBy a_leastBy v_between v_steadyWays v_quashed v_but a_figures a_all a_lies a_since v_last v_state) c0) n 0 0 := by
  intro k
  induction k with
  | zero =>
    intro _ _ _ _ _ _ _ _ _ _ _ _ _ _ _ _ hf
    have hf : (none : Option (Int32 × Int32 × (Nat → Int64) × (Nat → Int64) × Int32 × Int64 × Int64 × (Nat → Int32) × (Nat → Int32) × Int64)) = some _ := hf
    cases hf
  | succ k ih =>
    intro a_row v_law a_set a_rest v_broken v_value v_sum a_lies a_since v_state x1 x2 x3 x4 x5 R hf
    rw [fX12_minute_L16] at hf
    refine E.iload 5 dX12_minute_16 rfl ?_
    refine E.bipush (v := 8) dX12_minute_18 (by decide) ?_
    refine E.icmp_ge dX12_minute_20 (fun h => ?_) (fun h => ?_)
    · have hf := e_ift hf h
      refine E.iload_n 3 dX12_minute_162 rfl ?_
      refine E.aload_n 0 dX12_minute_163 rfl ?_
      obtain ⟨r2, hc2, hf⟩ := e_bind hf
      refine E.callVD [.int x3] dX12_minute_164 mlX12_377 ⟨hw.sub (p := 0) rfl, e_ov_get hw.1 (p := 0) rfl rfl⟩ rfl rfl (mX12_quota hw hc2) ⟨Nat.le_of_ble_eq_true rfl, Nat.le_of_ble_eq_true rfl⟩ rfl rfl (Nat.le_of_ble_eq_true rfl) ⟨Nat.le_refl _, Nat.le_refl _⟩ rfl ?_
      refine E.icmp_lt dX12_minute_167 (fun h => ?_) (fun h => ?_)
      · have hf := e_ift hf h
        refine E.iload 4 dX12_minute_174 rfl ?_
        refine E.aload_n 0 dX12_minute_176 rfl ?_
        refine E.get hw 0 o dX12_minute_177 flX12_13 rfl rfl rfl rfl ?_
        refine E.iconst (v := 4) dX12_minute_180 (by decide) ?_
        obtain ⟨g3, hf⟩ := gd_some hf
        refine E.iald hw 2 (o + 2) dX12_minute_181 rfl rfl g3 ?_
        obtain ⟨r4, hc4, hf⟩ := e_bind hf
        refine E.callSD [.int x4] dX12_minute_182 mlX12_435 (mX12_bits hc4) ⟨Nat.le_of_ble_eq_true rfl, Nat.le_of_ble_eq_true rfl⟩ rfl rfl (Nat.le_of_ble_eq_true rfl) ⟨Nat.le_refl _, Nat.le_refl _⟩ rfl ?_
        refine E.aload_n 0 dX12_minute_185 rfl ?_
        obtain ⟨r5, hc5, hf⟩ := e_bind hf
        refine E.callVD [.int r4, .int x4] dX12_minute_186 mlX12_377 ⟨hw.sub (p := 0) rfl, e_ov_get hw.1 (p := 0) rfl rfl⟩ rfl rfl (mX12_quota hw hc5) ⟨Nat.le_of_ble_eq_true rfl, Nat.le_of_ble_eq_true rfl⟩ rfl rfl (Nat.le_of_ble_eq_true rfl) ⟨Nat.le_refl _, Nat.le_refl _⟩ rfl ?_
        refine E.isub dX12_minute_189 ?_
        refine E.icmp_le dX12_minute_190 (fun h => ?_) (fun h => ?_)
        · have hf := e_ift hf h
          refine E.iconst (v := 2) dX12_minute_197 (by decide) ?_
          cases hf
          exact E.iret dX12_minute_198 (Nat.le_refl _) (Nat.le_refl _) (pD_rf _ _ _)
        · have hf := e_iff hf h
          refine E.iconst (v := 1) dX12_minute_193 (by decide) ?_
          refine E.goto dX12_minute_194 ?_
          cases hf
          exact E.iret dX12_minute_198 (Nat.le_refl _) (Nat.le_refl _) (pD_rf _ _ _)
      · have hf := e_iff hf h
        refine E.iconst (v := 0) dX12_minute_170 (by decide) ?_
        refine E.goto dX12_minute_171 ?_
        cases hf
        exact E.iret dX12_minute_198 (Nat.le_refl _) (Nat.le_refl _) (pD_rf _ _ _)
    · have hf := e_iff hf h
      refine E.aload_n 0 dX12_minute_23 rfl ?_
      refine E.get hw 0 o dX12_minute_24 flX12_13 rfl rfl rfl rfl ?_
      refine E.iconst (v := 4) dX12_minute_27 (by decide) ?_
      obtain ⟨g6, hf⟩ := gd_some hf
      refine E.iald hw 2 (o + 2) dX12_minute_28 rfl rfl g6 ?_
      refine E.iload 5 dX12_minute_29 rfl ?_
      obtain ⟨r7, hc7, hf⟩ := e_bind hf
      refine E.callSD [] dX12_minute_31 mlX12_364 (mX12_is hc7) ⟨Nat.le_of_ble_eq_true rfl, Nat.le_of_ble_eq_true rfl⟩ rfl rfl (Nat.le_of_ble_eq_true rfl) ⟨Nat.le_refl _, Nat.le_refl _⟩ rfl ?_
      refine E.if_eq dX12_minute_34 (fun h => ?_) (fun h => ?_)
      · have hf := e_ift hf h
        refine E.iinc (q := 5) (v := (x5 + 1)) (lv' := [(5, .int (x5 + 1)), (0, .ref (b + o)), (1, .int x1), (2, .int x2), (3, .int x3), (4, .int x4)]) dX12_minute_156 rfl rfl (by decide) rfl ?_
        refine E.goto dX12_minute_159 ?_
        refine E.locals [1, 2, 3, 4, 5, 0] rfl ?_
        exact ih hf
      · have hf := e_iff hf h
        refine E.aload_n 0 dX12_minute_37 rfl ?_
        refine E.iload 5 dX12_minute_38 rfl ?_
        refine E.iconst (v := 5) dX12_minute_40 (by decide) ?_
        obtain ⟨r8, hc8, hf⟩ := e_bind hf
        refine E.callVD [] dX12_minute_41 mlX12_163 ⟨hw.sub (p := 0) rfl, e_ov_get hw.1 (p := 0) rfl rfl⟩ rfl rfl (mX12_ofBeast hw hc8) ⟨Nat.le_of_ble_eq_true rfl, Nat.le_of_ble_eq_true rfl⟩ rfl rfl (Nat.le_of_ble_eq_true rfl) ⟨Nat.le_refl _, Nat.le_refl _⟩ rfl ?_
        refine E.istore (lv' := [(6, .int r8), (0, .ref (b + o)), (1, .int x1), (2, .int x2), (3, .int x3), (4, .int x4), (5, .int x5)]) dX12_minute_44 (by decide) rfl ?_
        refine E.aload_n 1 dX12_minute_46 rfl ?_
        refine E.get hw 0 o dX12_minute_47 flX12_115 rfl rfl rfl rfl ?_
        refine E.iload 6 dX12_minute_50 rfl ?_
        obtain ⟨g9, hf⟩ := gd_some hf
        refine E.iald hw 24 (o + 24) dX12_minute_52 rfl rfl g9 ?_
        refine E.iconst (v := -1) dX12_minute_53 (by decide) ?_
        refine E.icmp_ne dX12_minute_54 (fun h => ?_) (fun h => ?_)
        · have hf := e_iff hf h
          refine E.locals [1, 2, 3, 4, 5, 6] rfl ?_
          exact tX12_minute_L117 hw ih hf
        · have hf := e_ift hf h
          refine E.aload_n 1 dX12_minute_57 rfl ?_
          obtain ⟨r10, hc10, hf⟩ := e_bind hf
          refine E.callVD [] dX12_minute_58 mlX12_498 ⟨hw.sub (p := 0) rfl, e_ov_get hw.1 (p := 0) rfl rfl⟩ rfl rfl (mX12_draw hw hc10) ⟨Nat.le_of_ble_eq_true rfl, Nat.le_of_ble_eq_true rfl⟩ rfl rfl (Nat.le_of_ble_eq_true rfl) ⟨Nat.le_refl _, Nat.le_refl _⟩ rfl ?_
          refine E.aload_n 1 dX12_minute_61 rfl ?_
          refine E.iconst (v := 1) dX12_minute_62 (by decide) ?_
          refine E.iload 6 dX12_minute_63 rfl ?_
          refine E.iload_n 3 dX12_minute_65 rfl ?_
          refine E.iload 0 dX12_minute_66 rfl ?_
          refine E.iconst (v := -1) dX12_minute_68 (by decide) ?_
          refine E.iload_n 2 dX12_minute_69 rfl ?_
          refine E.bipush (v := 10) dX12_minute_70 (by decide) ?_
          refine E.bipush (v := 100) dX12_minute_72 (by decide) ?_
          obtain ⟨r11, hc11, hf⟩ := e_bind hf
          refine E.callVD [.int r10.1] dX12_minute_74 mlX12_350 ⟨hw.sub (p := 0) rfl, e_ov_get hw.1 (p := 0) rfl rfl⟩ rfl rfl (mX12_tells hw hc11) ⟨Nat.le_of_ble_eq_true rfl, Nat.le_of_ble_eq_true rfl⟩ rfl rfl (Nat.le_of_ble_eq_true rfl) ⟨Nat.le_refl _, Nat.le_refl _⟩ rfl ?_
          refine E.icmp_ge dX12_minute_77 (fun h => ?_) (fun h => ?_)
          · have hf := e_ift hf h
            refine E.locals [1, 2, 3, 4, 5, 6] rfl ?_
            exact tX12_minute_L117 hw ih hf
          · have hf := e_iff hf h
            refine E.aload_n 1 dX12_minute_80 rfl ?_
            refine E.get hw 0 o dX12_minute_81 flX12_115 rfl rfl rfl rfl ?_
            refine E.iload 6 dX12_minute_84 rfl ?_
            refine E.aload_n 1 dX12_minute_86 rfl ?_
            obtain ⟨r12, hc12, hf⟩ := e_bind hf
            refine E.callVD [.int x5, .ref (b + (o + 24))] dX12_minute_87 mlX12_498 ⟨hw.sub (p := 0) rfl, e_ov_get hw.1 (p := 0) rfl rfl⟩ rfl rfl (mX12_draw hw hc12) ⟨Nat.le_of_ble_eq_true rfl, Nat.le_of_ble_eq_true rfl⟩ rfl rfl (Nat.le_of_ble_eq_true rfl) ⟨Nat.le_refl _, Nat.le_refl _⟩ rfl ?_
            refine E.aload_n 1 dX12_minute_90 rfl ?_
            refine E.iload 6 dX12_minute_91 rfl ?_
            refine E.iload_n 3 dX12_minute_93 rfl ?_
            refine E.iload 0 dX12_minute_94 rfl ?_
            refine E.iload_n 2 dX12_minute_96 rfl ?_
            obtain ⟨r13, hc13, hf⟩ := e_bind hf
            refine E.callVD [.int r12.1, .int x5, .ref (b + (o + 24))] dX12_minute_97 mlX12_354 ⟨hw.sub (p := 0) rfl, e_ov_get hw.1 (p := 0) rfl rfl⟩ rfl rfl (mX12_chanceOf hw hc13) ⟨Nat.le_of_ble_eq_true rfl, Nat.le_of_ble_eq_true rfl⟩ rfl rfl (Nat.le_of_ble_eq_true rfl) ⟨Nat.le_refl _, Nat.le_refl _⟩ rfl ?_
            refine E.icmp_ge dX12_minute_100 (fun h => ?_) (fun h => ?_)
            · have hf := e_ift hf h
              refine E.iconst (v := 1) dX12_minute_107 (by decide) ?_
              refine E.locals [1, 2, 3, 4, 5, 6] rfl ?_
              exact tX12_minute_L108 hw ih hf
            · have hf := e_iff hf h
              refine E.iconst (v := 0) dX12_minute_103 (by decide) ?_
              refine E.goto dX12_minute_104 ?_
              refine E.locals [1, 2, 3, 4, 5, 6] rfl ?_
              exact tX12_minute_L108 hw ih hf
def fX12_minute (Fu : Nat) (a_row : Nat → Int32) (v_law : Int32) (a_set : Nat → Int64) (a_rest : Nat → Int64) (v_broken : Int32) (v_value : Int64) (v_sum : Int64) (a_lies : Nat → Int32) (a_since : Nat → Int32) (v_state : Int64) (x1 : Int32) : Option (Int32 × Int32 × (Nat → Int64) × (Nat → Int64) × Int32 × Int64 × Int64 × (Nat → Int32) × (Nat → Int32) × Int64) := gd 6 5570 (fX12_minute_L16 Fu Fu a_row v_law a_set a_rest v_broken v_value v_sum a_lies a_since v_state x1 (a_row (6 : Int32).toNatClampNeg) 0 0 0)
set_option maxHeartbeats 4000000 in
set_option maxRecDepth 100000 in
theorem tX12_minute {G : GT} {b : Nat} {o : Nat} {c0 : Hp} {n : Nat} (hw : e_wf (kM o) n) {v_thrown : Int32} {v_status : Int32} {a_refusals : Nat → Int32} {a_images : Nat → Int32} {a_isKept : Nat → Int32} {a_tape : Nat → Int32} {v_taped : Int32} {v_from : Int32} {v_to : Int32} {v_sort : Int32} {v_worth : Int64} {v_fault : Int32} {v_bad : Int32} {v_nClauses : Int32} {a_nClause : Nat → Int32} {v_nCode : Int32} {a_nOp : Nat → Int32} {a_nArg : Nat → Int32} {v_nLeaves : Int32} {a_pile : Nat → Int32} {a_pileAt : Nat → Int32} {v_piled : Int32} {v_opened : Int32} {a_words : Nat → Int64} {a_headWords : Nat → Int64} {a_chances : Nat → Int32} {a_votes : Nat → Int64} {a_costs : Nat → Int32} {a_table : Nat → Int64} {a_prices : Nat → Int32} {v_surely : Int64} {a_mostBy : Nat → Int64} {a_leastBy : Nat → Int64} {v_between : Int64} {v_steadyWays : Int32} {v_quashed : Int32} {v_but : Int32} {a_figures : Nat → Int32} {a_all : Nat → Int32} {v_last : Int32} {Fu : Nat} {a_row : Nat → Int32} {v_law : Int32} {a_set : Nat → Int64} {a_rest : Nat → Int64} {v_broken : Int32} {v_value : Int64} {v_sum : Int64} {a_lies : Nat → Int32} {a_since : Nat → Int32} {v_state : Int64} {x1 : Int32} {R : Int32 × Int32 × (Nat → Int64) × (Nat → Int64) × Int32 × Int64 × Int64 × (Nat → Int32) × (Nat → Int32) × Int64} (hf : fX12_minute Fu a_row v_law a_set a_rest v_broken v_value v_sum a_lies a_since v_state x1 = some R) : E G b yX12_minute cX12_minute 7 (some .int) (e_rm 5 0 0) e_X0 (e_Z G b (pD (some (.int R.1)) (e_ov (kM o) (wM G b o v_thrown v_status a_refusals a_row a_images a_isKept a_tape v_taped v_from v_to v_sort v_worth v_fault v_bad v_nClauses a_nClause v_nCode a_nOp a_nArg v_nLeaves a_pile a_pileAt v_piled v_opened a_words a_headWords R.2.1 R.2.2.1 R.2.2.2.1 R.2.2.2.2.1 R.2.2.2.2.2.1 R.2.2.2.2.2.2.1 a_chances a_votes a_costs a_table a_prices v_surely a_mostBy a_leastBy v_between v_steadyWays v_quashed v_but a_figures a_all R.2.2.2.2.2.2.2.1 R.2.2.2.2.2.2.2.2.1 v_last R.2.2.2.2.2.2.2.2.2) c0) n) 0 0) 0 [(0, .ref (b + o)), (1, .int x1)] [] (e_ov (kM o) (wM G b o v_thrown v_status a_refusals a_row a_images a_isKept a_tape v_taped v_from v_to v_sort v_worth v_fault v_bad v_nClauses a_nClause v_nCode a_nOp a_nArg v_nLeaves a_pile a_pileAt v_piled v_opened a_words a_headWords v_law a_set a_rest v_broken v_value v_sum a_chances a_votes a_costs a_table a_prices v_surely a_mostBy a_leastBy v_between v_steadyWays v_quashed v_but a_figures a_all a_lies a_since v_last v_state) c0) n 0 0 := by
  unfold fX12_minute at hf
  refine E.aload_n 0 dX12_minute_0 rfl ?_
  refine E.get hw 0 o dX12_minute_1 flX12_13 rfl rfl rfl rfl ?_
  refine E.bipush (v := 6) dX12_minute_4 (by decide) ?_
  obtain ⟨g1, hf⟩ := gd_some hf
  refine E.iald hw 2 (o + 2) dX12_minute_6 rfl rfl g1 ?_
  refine E.istore_n (lv' := [(2, .int (a_row (6 : Int32).toNatClampNeg)), (0, .ref (b + o)), (1, .int x1)]) dX12_minute_7 (by decide) rfl ?_
  refine E.iconst (v := 0) dX12_minute_8 (by decide) ?_
  refine E.istore_n (lv' := [(3, .int 0), (2, .int (a_row (6 : Int32).toNatClampNeg)), (0, .ref (b + o)), (1, .int x1)]) dX12_minute_9 (by decide) rfl ?_
  refine E.iconst (v := 0) dX12_minute_10 (by decide) ?_
  refine E.istore (lv' := [(4, .int 0), (3, .int 0), (2, .int (a_row (6 : Int32).toNatClampNeg)), (0, .ref (b + o)), (1, .int x1)]) dX12_minute_11 (by decide) rfl ?_
  refine E.iconst (v := 0) dX12_minute_13 (by decide) ?_
  refine E.istore (lv' := [(5, .int 0), (4, .int 0), (3, .int 0), (2, .int (a_row (6 : Int32).toNatClampNeg)), (0, .ref (b + o)), (1, .int x1)]) dX12_minute_14 (by decide) rfl ?_
  refine E.locals [4, 5, 3, 2, 1, 0] rfl ?_
  exact tX12_minute_L16 hw _ hf
set_option maxRecDepth 100000 in
theorem mX12_minute {G : GT} {b : Nat} {o : Nat} {c0 : Hp} {n : Nat} (hw : e_wf (kM o) n) {v_thrown : Int32} {v_status : Int32} {a_refusals : Nat → Int32} {a_images : Nat → Int32} {a_isKept : Nat → Int32} {a_tape : Nat → Int32} {v_taped : Int32} {v_from : Int32} {v_to : Int32} {v_sort : Int32} {v_worth : Int64} {v_fault : Int32} {v_bad : Int32} {v_nClauses : Int32} {a_nClause : Nat → Int32} {v_nCode : Int32} {a_nOp : Nat → Int32} {a_nArg : Nat → Int32} {v_nLeaves : Int32} {a_pile : Nat → Int32} {a_pileAt : Nat → Int32} {v_piled : Int32} {v_opened : Int32} {a_words : Nat → Int64} {a_headWords : Nat → Int64} {a_chances : Nat → Int32} {a_votes : Nat → Int64} {a_costs : Nat → Int32} {a_table : Nat → Int64} {a_prices : Nat → Int32} {v_surely : Int64} {a_mostBy : Nat → Int64} {a_leastBy : Nat → Int64} {v_between : Int64} {v_steadyWays : Int32} {v_quashed : Int32} {v_but : Int32} {a_figures : Nat → Int32} {a_all : Nat → Int32} {v_last : Int32} {Fu : Nat} {a_row : Nat → Int32} {v_law : Int32} {a_set : Nat → Int64} {a_rest : Nat → Int64} {v_broken : Int32} {v_value : Int64} {v_sum : Int64} {a_lies : Nat → Int32} {a_since : Nat → Int32} {v_state : Int64} {x1 : Int32} {R : Int32 × Int32 × (Nat → Int64) × (Nat → Int64) × Int32 × Int64 × Int64 × (Nat → Int32) × (Nat → Int32) × Int64} (hf : fX12_minute Fu a_row v_law a_set a_rest v_broken v_value v_sum a_lies a_since v_state x1 = some R) : e_C G b yX12_minute cX12_minute 7 (some .int) 5 0 0 [.ref (b + o), .int x1] (e_ov (kM o) (wM G b o v_thrown v_status a_refusals a_row a_images a_isKept a_tape v_taped v_from v_to v_sort v_worth v_fault v_bad v_nClauses a_nClause v_nCode a_nOp a_nArg v_nLeaves a_pile a_pileAt v_piled v_opened a_words a_headWords v_law a_set a_rest v_broken v_value v_sum a_chances a_votes a_costs a_table a_prices v_surely a_mostBy a_leastBy v_between v_steadyWays v_quashed v_but a_figures a_all a_lies a_since v_last v_state) c0) n (pD (some (.int R.1)) (e_ov (kM o) (wM G b o v_thrown v_status a_refusals a_row a_images a_isKept a_tape v_taped v_from v_to v_sort v_worth v_fault v_bad v_nClauses a_nClause v_nCode a_nOp a_nArg v_nLeaves a_pile a_pileAt v_piled v_opened a_words a_headWords R.2.1 R.2.2.1 R.2.2.2.1 R.2.2.2.2.1 R.2.2.2.2.2.1 R.2.2.2.2.2.2.1 a_chances a_votes a_costs a_table a_prices v_surely a_mostBy a_leastBy v_between v_steadyWays v_quashed v_but a_figures a_all R.2.2.2.2.2.2.2.1 R.2.2.2.2.2.2.2.2.1 v_last R.2.2.2.2.2.2.2.2.2) c0) n) := e_C.of (by decide) (Nat.le_of_ble_eq_true rfl) (tX12_minute hw hf)
