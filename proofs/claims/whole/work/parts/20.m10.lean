def fX12_sitting_L89 (Fu : Nat) (v_thrown : Int32) (v_status : Int32) (a_refusals : Nat → Int32) (a_row : Nat → Int32) (v_law : Int32) (a_set : Nat → Int64) (a_rest : Nat → Int64) (v_broken : Int32) (v_value : Int64) (v_sum : Int64) (a_lies : Nat → Int32) (a_since : Nat → Int32) (v_last : Int32) (v_state : Int64) (x2 : Int32) : Option (Int32 × Int32 × Int32 × (Nat → Int32) × Int32 × (Nat → Int64) × (Nat → Int64) × Int32 × Int64 × Int64 × (Nat → Int32) × (Nat → Int32) × Int32 × Int64) := (fX12_tell v_status a_refusals x2).bind fun r6 => (some (r6.1, v_thrown, r6.2.1, r6.2.2, v_law, a_set, a_rest, v_broken, v_value, v_sum, a_lies, a_since, v_last, v_state))
set_option maxHeartbeats 4000000 in
set_option maxRecDepth 100000 in
theorem tX12_sitting_L89 {G : GT} {b : Nat} {o : Nat} {c0 : Hp} {n : Nat} (hw : e_wf (kM o) n) {a_images : Nat → Int32} {a_isKept : Nat → Int32} {a_tape : Nat → Int32} {v_taped : Int32} {v_from : Int32} {v_to : Int32} {v_sort : Int32} {v_worth : Int64} {v_fault : Int32} {v_bad : Int32} {v_nClauses : Int32} {a_nClause : Nat → Int32} {v_nCode : Int32} {a_nOp : Nat → Int32} {a_nArg : Nat → Int32} {v_nLeaves : Int32} {a_pile : Nat → Int32} {a_pileAt : Nat → Int32} {v_piled : Int32} {v_opened : Int32} {a_words : Nat → Int64} {a_headWords : Nat → Int64} {a_chances : Nat → Int32} {a_votes : Nat → Int64} {a_costs : Nat → Int32} {a_table : Nat → Int64} {a_prices : Nat → Int32} {v_surely : Int64} {a_mostBy : Nat → Int64} {a_leastBy : Nat → Int64} {v_between : Int64} {v_steadyWays : Int32} {v_quashed : Int32} {v_but : Int32} {a_figures : Nat → Int32} {a_all : Nat → Int32} {Fu : Nat} {v_thrown : Int32} {v_status : Int32} {a_refusals : Nat → Int32} {a_row : Nat → Int32} {v_law : Int32} {a_set : Nat → Int64} {a_rest : Nat → Int64} {v_broken : Int32} {v_value : Int64} {v_sum : Int64} {a_lies : Nat → Int32} {a_since : Nat → Int32} {v_last : Int32} {v_state : Int64} {x2 : Int32} {R : Int32 × Int32 × Int32 × (Nat → Int32) × Int32 × (Nat → Int64) × (Nat → Int64) × Int32 × Int64 × Int64 × (Nat → Int32) × (Nat → Int32) × Int32 × Int64} (hf : fX12_sitting_L89 Fu v_thrown v_status a_refusals a_row v_law a_set a_rest v_broken v_value v_sum a_lies a_since v_last v_state x2 = some R) : E G b yX12_sitting cX12_sitting 4 (some .int) (e_rm 6 0 0) e_X0 (e_Z G b (pD (some (.int R.1)) (e_ov (kM o) (wM G b o R.2.1 R.2.2.1 R.2.2.2.1 a_row a_images a_isKept a_tape v_taped v_from v_to v_sort v_worth v_fault v_bad v_nClauses a_nClause v_nCode a_nOp a_nArg v_nLeaves a_pile a_pileAt v_piled v_opened a_words a_headWords R.2.2.2.2.1 R.2.2.2.2.2.1 R.2.2.2.2.2.2.1 R.2.2.2.2.2.2.2.1 R.2.2.2.2.2.2.2.2.1 R.2.2.2.2.2.2.2.2.2.1 a_chances a_votes a_costs a_table a_prices v_surely a_mostBy a_leastBy v_between v_steadyWays v_quashed v_but a_figures a_all R.2.2.2.2.2.2.2.2.2.2.1 R.2.2.2.2.2.2.2.2.2.2.2.1 R.2.2.2.2.2.2.2.2.2.2.2.2.1 R.2.2.2.2.2.2.2.2.2.2.2.2.2) c0) n) 0 0) 89 [(0, .ref (b + o)), (2, .int x2)] [] (e_ov (kM o) (wM G b o v_thrown v_status a_refusals a_row a_images a_isKept a_tape v_taped v_from v_to v_sort v_worth v_fault v_bad v_nClauses a_nClause v_nCode a_nOp a_nArg v_nLeaves a_pile a_pileAt v_piled v_opened a_words a_headWords v_law a_set a_rest v_broken v_value v_sum a_chances a_votes a_costs a_table a_prices v_surely a_mostBy a_leastBy v_between v_steadyWays v_quashed v_but a_figures a_all a_lies a_since v_last v_state) c0) n 0 0 := by
  unfold fX12_sitting_L89 at hf
  refine E.aload_n 0 dX12_sitting_89 rfl ?_
  refine E.iload_n 1 dX12_sitting_90 rfl ?_
  obtain ⟨r6, hc6, hf⟩ := e_bind hf
  refine E.callVD [] dX12_sitting_91 mlX12_138 ⟨hw.sub (p := 0) rfl, e_ov_get hw.1 (p := 0) rfl rfl⟩ rfl rfl (mX12_tell hw hc6) ⟨Nat.le_of_ble_eq_true rfl, Nat.le_of_ble_eq_true rfl⟩ rfl rfl (Nat.le_of_ble_eq_true rfl) ⟨Nat.le_refl _, Nat.le_refl _⟩ rfl ?_
  cases hf
  exact E.iret dX12_sitting_94 (Nat.le_refl _) (Nat.le_refl _) (pD_rf _ _ _)
def fX12_sitting_L61 (Fu : Nat) : Nat → Int32 → Int32 → (Nat → Int32) → (Nat → Int32) → Int32 → (Nat → Int64) → (Nat → Int64) → Int32 → Int64 → Int64 → (Nat → Int32) → (Nat → Int32) → Int32 → Int64 → Int32 → Int32 → Option (Int32 × Int32 × Int32 × (Nat → Int32) × Int32 × (Nat → Int64) × (Nat → Int64) × Int32 × Int64 × Int64 × (Nat → Int32) × (Nat → Int32) × Int32 × Int64)
  | 0, _, _, _, _, _, _, _, _, _, _, _, _, _, _, _, _ => none
  | k + 1, v_thrown, v_status, a_refusals, a_row, v_law, a_set, a_rest, v_broken, v_value, v_sum, a_lies, a_since, v_last, v_state, x2, x3 => if (60 : Int32) ≤ (x3 : Int32) then (fX12_sitting_L89 Fu v_thrown v_status a_refusals a_row v_law a_set a_rest v_broken v_value v_sum a_lies a_since v_last v_state x2) else (if (x2 : Int32) = (2 : Int32) then ((fX12_minute Fu a_row v_law a_set a_rest v_broken v_value v_sum a_lies a_since v_state x3).bind fun r5 => ((fX12_sitting_L61 Fu k) v_thrown v_status a_refusals a_row r5.2.1 r5.2.2.1 r5.2.2.2.1 r5.2.2.2.2.1 r5.2.2.2.2.2.1 r5.2.2.2.2.2.2.1 r5.2.2.2.2.2.2.2.1 r5.2.2.2.2.2.2.2.2.1 x3 r5.2.2.2.2.2.2.2.2.2 r5.1 (x3 + 1))) else (fX12_sitting_L89 Fu v_thrown v_status a_refusals a_row v_law a_set a_rest v_broken v_value v_sum a_lies a_since v_last v_state x2))
set_option maxHeartbeats 4000000 in
set_option maxRecDepth 100000 in
theorem tX12_sitting_L61 {G : GT} {b : Nat} {o : Nat} {c0 : Hp} {n : Nat} (hw : e_wf (kM o) n) {a_images : Nat → Int32} {a_isKept : Nat → Int32} {a_tape : Nat → Int32} {v_taped : Int32} {v_from : Int32} {v_to : Int32} {v_sort : Int32} {v_worth : Int64} {v_fault : Int32} {v_bad : Int32} {v_nClauses : Int32} {a_nClause : Nat → Int32} {v_nCode : Int32} {a_nOp : Nat → Int32} {a_nArg : Nat → Int32} {v_nLeaves : Int32} {a_pile : Nat → Int32} {a_pileAt : Nat → Int32} {v_piled : Int32} {v_opened : Int32} {a_words : Nat → Int64} {a_headWords : Nat → Int64} {a_chances : Nat → Int32} {a_votes : Nat → Int64} {a_costs : Nat → Int32} {a_table : Nat → Int64} {a_prices : Nat → Int32} {v_surely : Int64} {a_mostBy : Nat → Int64} {a_leastBy : Nat → Int64} {v_between : Int64} {v_steadyWays : Int32} {v_quashed : Int32} {v_but : Int32} {a_figures : Nat → Int32} {a_all : Nat → Int32} {Fu : Nat} : ∀ (k : Nat) {v_thrown : Int32} {v_status : Int32} {a_refusals : Nat → Int32} {a_row : Nat → Int32} {v_law : Int32} {a_set : Nat → Int64} {a_rest : Nat → Int64} {v_broken : Int32} {v_value : Int64} {v_sum : Int64} {a_lies : Nat → Int32} {a_since : Nat → Int32} {v_last : Int32} {v_state : Int64} {x2 : Int32} {x3 : Int32} {R : Int32 × Int32 × Int32 × (Nat → Int32) × Int32 × (Nat → Int64) × (Nat → Int64) × Int32 × Int64 × Int64 × (Nat → Int32) × (Nat → Int32) × Int32 × Int64}, fX12_sitting_L61 Fu k v_thrown v_status a_refusals a_row v_law a_set a_rest v_broken v_value v_sum a_lies a_since v_last v_state x2 x3 = some R → E G b yX12_sitting cX12_sitting 4 (some .int) (e_rm 6 0 0) e_X0 (e_Z G b (pD (some (.int R.1)) (e_ov (kM o) (wM G b o R.2.1 R.2.2.1 R.2.2.2.1 a_row a_images a_isKept a_tape v_taped v_from v_to v_sort v_worth v_fault v_bad v_nClauses a_nClause v_nCode a_nOp a_nArg v_nLeaves a_pile a_pileAt v_piled v_opened a_words a_headWords R.2.2.2.2.1 R.2.2.2.2.2.1 R.2.2.2.2.2.2.1 R.2.2.2.2.2.2.2.1 R.2.2.2.2.2.2.2.2.1 R.2.2.2.2.2.2.2.2.2.1 a_chances a_votes a_costs a_table a_prices v_surely a_mostBy a_leastBy v_between v_steadyWays v_quashed v_but a_figures a_all R.2.2.2.2.2.2.2.2.2.2.1 R.2.2.2.2.2.2.2.2.2.2.2.1 R.2.2.2.2.2.2.2.2.2.2.2.2.1 R.2.2.2.2.2.2.2.2.2.2.2.2.2) c0) n) 0 0) 61 [(0, .ref (b + o)), (2, .int x2), (3, .int x3)] [] (e_ov (kM o) (wM G b o v_thrown v_status a_refusals a_row a_images a_isKept a_tape v_taped v_from v_to v_sort v_worth v_fault v_bad v_nClauses a_nClause v_nCode a_nOp a_nArg v_nLeaves a_pile a_pileAt v_piled v_opened a_words a_headWords v_law a_set a_rest v_broken v_value v_sum a_chances a_votes a_costs a_table a_prices v_surely a_mostBy a_leastBy v_between v_steadyWays v_quashed v_but a_figures a_all a_lies a_since v_last v_state) c0) n 0 0 := by
  intro k
  induction k with
  | zero =>
    intro _ _ _ _ _ _ _ _ _ _ _ _ _ _ _ _ _ hf
    have hf : (none : Option (Int32 × Int32 × Int32 × (Nat → Int32) × Int32 × (Nat → Int64) × (Nat → Int64) × Int32 × Int64 × Int64 × (Nat → Int32) × (Nat → Int32) × Int32 × Int64)) = some _ := hf
    cases hf
  | succ k ih =>
    intro v_thrown v_status a_refusals a_row v_law a_set a_rest v_broken v_value v_sum a_lies a_since v_last v_state x2 x3 R hf
    rw [fX12_sitting_L61] at hf
    refine E.iload_n 2 dX12_sitting_61 rfl ?_
    refine E.bipush (v := 60) dX12_sitting_62 (by decide) ?_
    refine E.icmp_ge dX12_sitting_64 (fun h => ?_) (fun h => ?_)
    · have hf := e_ift hf h
      refine E.locals [0, 1] rfl ?_
      exact tX12_sitting_L89 hw hf
    · have hf := e_iff hf h
      refine E.iload_n 1 dX12_sitting_67 rfl ?_
      refine E.iconst (v := 2) dX12_sitting_68 (by decide) ?_
      refine E.icmp_ne dX12_sitting_69 (fun h => ?_) (fun h => ?_)
      · have hf := e_iff hf h
        refine E.locals [0, 1] rfl ?_
        exact tX12_sitting_L89 hw hf
      · have hf := e_ift hf h
        refine E.aload_n 0 dX12_sitting_72 rfl ?_
        refine E.iload_n 2 dX12_sitting_73 rfl ?_
        refine E.put (es' := (wM G b o v_thrown v_status a_refusals a_row a_images a_isKept a_tape v_taped v_from v_to v_sort v_worth v_fault v_bad v_nClauses a_nClause v_nCode a_nOp a_nArg v_nLeaves a_pile a_pileAt v_piled v_opened a_words a_headWords v_law a_set a_rest v_broken v_value v_sum a_chances a_votes a_costs a_table a_prices v_surely a_mostBy a_leastBy v_between v_steadyWays v_quashed v_but a_figures a_all a_lies a_since x3 v_state)) hw 0 o dX12_sitting_74 flX12_121 ftX12 rfl rfl rfl rfl rfl rfl (Nat.le_of_ble_eq_true rfl) rfl ?_
        refine E.aload_n 0 dX12_sitting_77 rfl ?_
        refine E.iload_n 2 dX12_sitting_78 rfl ?_
        obtain ⟨r5, hc5, hf⟩ := e_bind hf
        refine E.callVD [] dX12_sitting_79 mlX12_495 ⟨hw.sub (p := 0) rfl, e_ov_get hw.1 (p := 0) rfl rfl⟩ rfl rfl (mX12_minute hw hc5) ⟨Nat.le_of_ble_eq_true rfl, Nat.le_of_ble_eq_true rfl⟩ rfl rfl (Nat.le_of_ble_eq_true rfl) ⟨Nat.le_refl _, Nat.le_refl _⟩ rfl ?_
        refine E.istore_n (lv' := [(2, .int r5.1), (0, .ref (b + o)), (3, .int x3)]) dX12_sitting_82 (by decide) rfl ?_
        refine E.iinc (q := 2) (v := (x3 + 1)) (lv' := [(3, .int (x3 + 1)), (2, .int r5.1), (0, .ref (b + o))]) dX12_sitting_83 rfl rfl (by decide) rfl ?_
        refine E.goto dX12_sitting_86 ?_
        refine E.locals [2, 1, 0] rfl ?_
        exact ih hf
def fX12_sitting_L31 (Fu : Nat) : Nat → Int32 → Int32 → (Nat → Int32) → (Nat → Int32) → Int32 → (Nat → Int64) → (Nat → Int64) → Int32 → Int64 → Int64 → (Nat → Int32) → (Nat → Int32) → Int32 → Int64 → Int32 → Option (Int32 × Int32 × Int32 × (Nat → Int32) × Int32 × (Nat → Int64) × (Nat → Int64) × Int32 × Int64 × Int64 × (Nat → Int32) × (Nat → Int32) × Int32 × Int64)
  | 0, _, _, _, _, _, _, _, _, _, _, _, _, _, _, _ => none
  | k + 1, v_thrown, v_status, a_refusals, a_row, v_law, a_set, a_rest, v_broken, v_value, v_sum, a_lies, a_since, v_last, v_state, x2 => if (8 : Int32) ≤ (x2 : Int32) then (fX12_sitting_L61 Fu Fu v_thrown v_status a_refusals a_row v_law a_set a_rest v_broken v_value v_sum a_lies a_since v_last v_state 2 0) else (gd x2 8 (gd x2 8 ((fX12_sitting_L31 Fu k) v_thrown v_status a_refusals a_row v_law a_set a_rest v_broken v_value v_sum (va_up a_lies (x2 : Int32).toNatClampNeg (-1 : Int32)) (va_up a_since (x2 : Int32).toNatClampNeg (-1 : Int32)) v_last v_state (x2 + 1))))
set_option maxHeartbeats 4000000 in
set_option maxRecDepth 100000 in
theorem tX12_sitting_L31 {G : GT} {b : Nat} {o : Nat} {c0 : Hp} {n : Nat} (hw : e_wf (kM o) n) {a_images : Nat → Int32} {a_isKept : Nat → Int32} {a_tape : Nat → Int32} {v_taped : Int32} {v_from : Int32} {v_to : Int32} {v_sort : Int32} {v_worth : Int64} {v_fault : Int32} {v_bad : Int32} {v_nClauses : Int32} {a_nClause : Nat → Int32} {v_nCode : Int32} {a_nOp : Nat → Int32} {a_nArg : Nat → Int32} {v_nLeaves : Int32} {a_pile : Nat → Int32} {a_pileAt : Nat → Int32} {v_piled : Int32} {v_opened : Int32} {a_words : Nat → Int64} {a_headWords : Nat → Int64} {a_chances : Nat → Int32} {a_votes : Nat → Int64} {a_costs : Nat → Int32} {a_table : Nat → Int64} {a_prices : Nat → Int32} {v_surely : Int64} {a_mostBy : Nat → Int64} {a_leastBy : Nat → Int64} {v_between : Int64} {v_steadyWays : Int32} {v_quashed : Int32} {v_but : Int32} {a_figures : Nat → Int32} {a_all : Nat → Int32} {Fu : Nat} : ∀ (k : Nat) {v_thrown : Int32} {v_status : Int32} {a_refusals : Nat → Int32} {a_row : Nat → Int32} {v_law : Int32} {a_set : Nat → Int64} {a_rest : Nat → Int64} {v_broken : Int32} {v_value : Int64} {v_sum : Int64} {a_lies : Nat → Int32} {a_since : Nat → Int32} {v_last : Int32} {v_state : Int64} {x2 : Int32} {R : Int32 × Int32 × Int32 × (Nat → Int32) × Int32 × (Nat → Int64) × (Nat → Int64) × Int32 × Int64 × Int64 × (Nat → Int32) × (Nat → Int32) × Int32 × Int64}, fX12_sitting_L31 Fu k v_thrown v_status a_refusals a_row v_law a_set a_rest v_broken v_value v_sum a_lies a_since v_last v_state x2 = some R → E G b yX12_sitting cX12_sitting 4 (some .int) (e_rm 6 0 0) e_X0 (e_Z G b (pD (some (.int R.1)) (e_ov (kM o) (wM G b o R.2.1 R.2.2.1 R.2.2.2.1 a_row a_images a_isKept a_tape v_taped v_from v_to v_sort v_worth v_fault v_bad v_nClauses a_nClause v_nCode a_nOp a_nArg v_nLeaves a_pile a_pileAt v_piled v_opened a_words a_headWords R.2.2.2.2.1 R.2.2.2.2.2.1 R.2.2.2.2.2.2.1 R.2.2.2.2.2.2.2.1 R.2.2.2.2.2.2.2.2.1 R.2.2.2.2.2.2.2.2.2.1 a_chances a_votes a_costs a_table a_prices v_surely a_mostBy a_leastBy v_between v_steadyWays v_quashed v_but a_figures a_all R.2.2.2.2.2.2.2.2.2.2.1 R.2.2.2.2.2.2.2.2.2.2.2.1 R.2.2.2.2.2.2.2.2.2.2.2.2.1 R.2.2.2.2.2.2.2.2.2.2.2.2.2) c0) n) 0 0) 31 [(0, .ref (b + o)), (2, .int x2)] [] (e_ov (kM o) (wM G b o v_thrown v_status a_refusals a_row a_images a_isKept a_tape v_taped v_from v_to v_sort v_worth v_fault v_bad v_nClauses a_nClause v_nCode a_nOp a_nArg v_nLeaves a_pile a_pileAt v_piled v_opened a_words a_headWords v_law a_set a_rest v_broken v_value v_sum a_chances a_votes a_costs a_table a_prices v_surely a_mostBy a_leastBy v_between v_steadyWays v_quashed v_but a_figures a_all a_lies a_since v_last v_state) c0) n 0 0 := by
  intro k
  induction k with
  | zero =>
    intro _ _ _ _ _ _ _ _ _ _ _ _ _ _ _ _ hf
    have hf : (none : Option (Int32 × Int32 × Int32 × (Nat → Int32) × Int32 × (Nat → Int64) × (Nat → Int64) × Int32 × Int64 × Int64 × (Nat → Int32) × (Nat → Int32) × Int32 × Int64)) = some _ := hf
    cases hf
  | succ k ih =>
    intro v_thrown v_status a_refusals a_row v_law a_set a_rest v_broken v_value v_sum a_lies a_since v_last v_state x2 R hf
    rw [fX12_sitting_L31] at hf
    refine E.iload_n 1 dX12_sitting_31 rfl ?_
    refine E.bipush (v := 8) dX12_sitting_32 (by decide) ?_
    refine E.icmp_ge dX12_sitting_34 (fun h => ?_) (fun h => ?_)
    · have hf := e_ift hf h
      refine E.iconst (v := 2) dX12_sitting_57 (by decide) ?_
      refine E.istore_n (lv' := [(2, .int 2), (0, .ref (b + o))]) dX12_sitting_58 (by decide) rfl ?_
      refine E.iconst (v := 0) dX12_sitting_59 (by decide) ?_
      refine E.istore_n (lv' := [(3, .int 0), (2, .int 2), (0, .ref (b + o))]) dX12_sitting_60 (by decide) rfl ?_
      refine E.locals [2, 1, 0] rfl ?_
      exact tX12_sitting_L61 hw _ hf
    · have hf := e_iff hf h
      refine E.aload_n 0 dX12_sitting_37 rfl ?_
      refine E.get hw 0 o dX12_sitting_38 flX12_115 rfl rfl rfl rfl ?_
      refine E.iload_n 1 dX12_sitting_41 rfl ?_
      refine E.iconst (v := -1) dX12_sitting_42 (by decide) ?_
      obtain ⟨g3, hf⟩ := gd_some hf
      refine E.iast (es' := (wM G b o v_thrown v_status a_refusals a_row a_images a_isKept a_tape v_taped v_from v_to v_sort v_worth v_fault v_bad v_nClauses a_nClause v_nCode a_nOp a_nArg v_nLeaves a_pile a_pileAt v_piled v_opened a_words a_headWords v_law a_set a_rest v_broken v_value v_sum a_chances a_votes a_costs a_table a_prices v_surely a_mostBy a_leastBy v_between v_steadyWays v_quashed v_but a_figures a_all (va_up a_lies (x2 : Int32).toNatClampNeg (-1 : Int32)) a_since v_last v_state)) hw 24 (o + 24) dX12_sitting_43 rfl rfl g3 rfl ?_
      refine E.aload_n 0 dX12_sitting_44 rfl ?_
      refine E.get hw 0 o dX12_sitting_45 flX12_118 rfl rfl rfl rfl ?_
      refine E.iload_n 1 dX12_sitting_48 rfl ?_
      refine E.iconst (v := -1) dX12_sitting_49 (by decide) ?_
      obtain ⟨g4, hf⟩ := gd_some hf
      refine E.iast (es' := (wM G b o v_thrown v_status a_refusals a_row a_images a_isKept a_tape v_taped v_from v_to v_sort v_worth v_fault v_bad v_nClauses a_nClause v_nCode a_nOp a_nArg v_nLeaves a_pile a_pileAt v_piled v_opened a_words a_headWords v_law a_set a_rest v_broken v_value v_sum a_chances a_votes a_costs a_table a_prices v_surely a_mostBy a_leastBy v_between v_steadyWays v_quashed v_but a_figures a_all (va_up a_lies (x2 : Int32).toNatClampNeg (-1 : Int32)) (va_up a_since (x2 : Int32).toNatClampNeg (-1 : Int32)) v_last v_state)) hw 25 (o + 25) dX12_sitting_50 rfl rfl g4 rfl ?_
      refine E.iinc (q := 1) (v := (x2 + 1)) (lv' := [(2, .int (x2 + 1)), (0, .ref (b + o))]) dX12_sitting_51 rfl rfl (by decide) rfl ?_
      refine E.goto dX12_sitting_54 ?_
      refine E.locals [1, 0] rfl ?_
      exact ih hf
def fX12_sitting (Fu : Nat) (v_thrown : Int32) (v_status : Int32) (a_refusals : Nat → Int32) (a_row : Nat → Int32) (v_law : Int32) (a_set : Nat → Int64) (a_rest : Nat → Int64) (v_broken : Int32) (v_value : Int64) (v_sum : Int64) (a_lies : Nat → Int32) (a_since : Nat → Int32) (v_last : Int32) (v_state : Int64) (x1 : Int32) : Option (Int32 × Int32 × Int32 × (Nat → Int32) × Int32 × (Nat → Int64) × (Nat → Int64) × Int32 × Int64 × Int64 × (Nat → Int32) × (Nat → Int32) × Int32 × Int64) := (fX12_in ((x1 : Int32).toInt64) 0 1000000).bind fun r1 => (if (r1 : Int32) = 0 then ((fX12_tell v_status a_refusals (-1 : Int32)).bind fun r2 => (some (r2.1, 0, r2.2.1, r2.2.2, v_law, a_set, a_rest, v_broken, v_value, v_sum, a_lies, a_since, v_last, v_state))) else (fX12_sitting_L31 Fu Fu 0 v_status a_refusals a_row v_law a_set a_rest v_broken v_value v_sum a_lies a_since v_last ((x1 : Int32).toInt64) 0))
set_option maxHeartbeats 4000000 in
set_option maxRecDepth 100000 in
theorem tX12_sitting {G : GT} {b : Nat} {o : Nat} {c0 : Hp} {n : Nat} (hw : e_wf (kM o) n) {a_images : Nat → Int32} {a_isKept : Nat → Int32} {a_tape : Nat → Int32} {v_taped : Int32} {v_from : Int32} {v_to : Int32} {v_sort : Int32} {v_worth : Int64} {v_fault : Int32} {v_bad : Int32} {v_nClauses : Int32} {a_nClause : Nat → Int32} {v_nCode : Int32} {a_nOp : Nat → Int32} {a_nArg : Nat → Int32} {v_nLeaves : Int32} {a_pile : Nat → Int32} {a_pileAt : Nat → Int32} {v_piled : Int32} {v_opened : Int32} {a_words : Nat → Int64} {a_headWords : Nat → Int64} {a_chances : Nat → Int32} {a_votes : Nat → Int64} {a_costs : Nat → Int32} {a_table : Nat → Int64} {a_prices : Nat → Int32} {v_surely : Int64} {a_mostBy : Nat → Int64} {a_leastBy : Nat → Int64} {v_between : Int64} {v_steadyWays : Int32} {v_quashed : Int32} {v_but : Int32} {a_figures : Nat → Int32} {a_all : Nat → Int32} {Fu : Nat} {v_thrown : Int32} {v_status : Int32} {a_refusals : Nat → Int32} {a_row : Nat → Int32} {v_law : Int32} {a_set : Nat → Int64} {a_rest : Nat → Int64} {v_broken : Int32} {v_value : Int64} {v_sum : Int64} {a_lies : Nat → Int32} {a_since : Nat → Int32} {v_last : Int32} {v_state : Int64} {x1 : Int32} {R : Int32 × Int32 × Int32 × (Nat → Int32) × Int32 × (Nat → Int64) × (Nat → Int64) × Int32 × Int64 × Int64 × (Nat → Int32) × (Nat → Int32) × Int32 × Int64} (hf : fX12_sitting Fu v_thrown v_status a_refusals a_row v_law a_set a_rest v_broken v_value v_sum a_lies a_since v_last v_state x1 = some R) : E G b yX12_sitting cX12_sitting 4 (some .int) (e_rm 6 0 0) e_X0 (e_Z G b (pD (some (.int R.1)) (e_ov (kM o) (wM G b o R.2.1 R.2.2.1 R.2.2.2.1 a_row a_images a_isKept a_tape v_taped v_from v_to v_sort v_worth v_fault v_bad v_nClauses a_nClause v_nCode a_nOp a_nArg v_nLeaves a_pile a_pileAt v_piled v_opened a_words a_headWords R.2.2.2.2.1 R.2.2.2.2.2.1 R.2.2.2.2.2.2.1 R.2.2.2.2.2.2.2.1 R.2.2.2.2.2.2.2.2.1 R.2.2.2.2.2.2.2.2.2.1 a_chances a_votes a_costs a_table a_prices v_surely a_mostBy a_leastBy v_between v_steadyWays v_quashed v_but a_figures a_all R.2.2.2.2.2.2.2.2.2.2.1 R.2.2.2.2.2.2.2.2.2.2.2.1 R.2.2.2.2.2.2.2.2.2.2.2.2.1 R.2.2.2.2.2.2.2.2.2.2.2.2.2) c0) n) 0 0) 0 [(0, .ref (b + o)), (1, .int x1)] [] (e_ov (kM o) (wM G b o v_thrown v_status a_refusals a_row a_images a_isKept a_tape v_taped v_from v_to v_sort v_worth v_fault v_bad v_nClauses a_nClause v_nCode a_nOp a_nArg v_nLeaves a_pile a_pileAt v_piled v_opened a_words a_headWords v_law a_set a_rest v_broken v_value v_sum a_chances a_votes a_costs a_table a_prices v_surely a_mostBy a_leastBy v_between v_steadyWays v_quashed v_but a_figures a_all a_lies a_since v_last v_state) c0) n 0 0 := by
  unfold fX12_sitting at hf
  refine E.aload_n 0 dX12_sitting_0 rfl ?_
  refine E.iconst (v := 0) dX12_sitting_1 (by decide) ?_
  refine E.put (es' := (wM G b o 0 v_status a_refusals a_row a_images a_isKept a_tape v_taped v_from v_to v_sort v_worth v_fault v_bad v_nClauses a_nClause v_nCode a_nOp a_nArg v_nLeaves a_pile a_pileAt v_piled v_opened a_words a_headWords v_law a_set a_rest v_broken v_value v_sum a_chances a_votes a_costs a_table a_prices v_surely a_mostBy a_leastBy v_between v_steadyWays v_quashed v_but a_figures a_all a_lies a_since v_last v_state)) hw 0 o dX12_sitting_2 flX12_124 ftX12 rfl rfl rfl rfl rfl rfl (Nat.le_of_ble_eq_true rfl) rfl ?_
  refine E.iload_n 1 dX12_sitting_5 rfl ?_
  refine E.i2l dX12_sitting_6 ?_
  refine E.lconst (v := 0) dX12_sitting_7 (by decide) ?_
  refine E.ldc2 dX12_sitting_8 kX12_223 ?_
  obtain ⟨r1, hc1, hf⟩ := e_bind hf
  refine E.callSD [] dX12_sitting_11 mlX12_134 (mX12_in hc1) ⟨Nat.le_of_ble_eq_true rfl, Nat.le_of_ble_eq_true rfl⟩ rfl rfl (Nat.le_of_ble_eq_true rfl) ⟨Nat.le_refl _, Nat.le_refl _⟩ rfl ?_
  refine E.if_ne dX12_sitting_14 (fun h => ?_) (fun h => ?_)
  · have hf := e_iff hf h
    refine E.aload_n 0 dX12_sitting_23 rfl ?_
    refine E.iload_n 1 dX12_sitting_24 rfl ?_
    refine E.i2l dX12_sitting_25 ?_
    refine E.put (es' := (wM G b o 0 v_status a_refusals a_row a_images a_isKept a_tape v_taped v_from v_to v_sort v_worth v_fault v_bad v_nClauses a_nClause v_nCode a_nOp a_nArg v_nLeaves a_pile a_pileAt v_piled v_opened a_words a_headWords v_law a_set a_rest v_broken v_value v_sum a_chances a_votes a_costs a_table a_prices v_surely a_mostBy a_leastBy v_between v_steadyWays v_quashed v_but a_figures a_all a_lies a_since v_last ((x1 : Int32).toInt64))) hw 0 o dX12_sitting_26 flX12_486 ftX12 rfl rfl rfl rfl rfl rfl (Nat.le_of_ble_eq_true rfl) rfl ?_
    refine E.iconst (v := 0) dX12_sitting_29 (by decide) ?_
    refine E.istore_n (lv' := [(2, .int 0), (0, .ref (b + o)), (1, .int x1)]) dX12_sitting_30 (by decide) rfl ?_
    refine E.locals [1, 0] rfl ?_
    exact tX12_sitting_L31 hw _ hf
  · have hf := e_ift hf h
    refine E.aload_n 0 dX12_sitting_17 rfl ?_
    refine E.iconst (v := -1) dX12_sitting_18 (by decide) ?_
    obtain ⟨r2, hc2, hf⟩ := e_bind hf
    refine E.callVD [] dX12_sitting_19 mlX12_138 ⟨hw.sub (p := 0) rfl, e_ov_get hw.1 (p := 0) rfl rfl⟩ rfl rfl (mX12_tell hw hc2) ⟨Nat.le_of_ble_eq_true rfl, Nat.le_of_ble_eq_true rfl⟩ rfl rfl (Nat.le_of_ble_eq_true rfl) ⟨Nat.le_refl _, Nat.le_refl _⟩ rfl ?_
    cases hf
    exact E.iret dX12_sitting_22 (Nat.le_refl _) (Nat.le_refl _) (pD_rf _ _ _)
set_option maxRecDepth 100000 in
theorem mX12_sitting {G : GT} {b : Nat} {o : Nat} {c0 : Hp} {n : Nat} (hw : e_wf (kM o) n) {a_images : Nat → Int32} {a_isKept : Nat → Int32} {a_tape : Nat → Int32} {v_taped : Int32} {v_from : Int32} {v_to : Int32} {v_sort : Int32} {v_worth : Int64} {v_fault : Int32} {v_bad : Int32} {v_nClauses : Int32} {a_nClause : Nat → Int32} {v_nCode : Int32} {a_nOp : Nat → Int32} {a_nArg : Nat → Int32} {v_nLeaves : Int32} {a_pile : Nat → Int32} {a_pileAt : Nat → Int32} {v_piled : Int32} {v_opened : Int32} {a_words : Nat → Int64} {a_headWords : Nat → Int64} {a_chances : Nat → Int32} {a_votes : Nat → Int64} {a_costs : Nat → Int32} {a_table : Nat → Int64} {a_prices : Nat → Int32} {v_surely : Int64} {a_mostBy : Nat → Int64} {a_leastBy : Nat → Int64} {v_between : Int64} {v_steadyWays : Int32} {v_quashed : Int32} {v_but : Int32} {a_figures : Nat → Int32} {a_all : Nat → Int32} {Fu : Nat} {v_thrown : Int32} {v_status : Int32} {a_refusals : Nat → Int32} {a_row : Nat → Int32} {v_law : Int32} {a_set : Nat → Int64} {a_rest : Nat → Int64} {v_broken : Int32} {v_value : Int64} {v_sum : Int64} {a_lies : Nat → Int32} {a_since : Nat → Int32} {v_last : Int32} {v_state : Int64} {x1 : Int32} {R : Int32 × Int32 × Int32 × (Nat → Int32) × Int32 × (Nat → Int64) × (Nat → Int64) × Int32 × Int64 × Int64 × (Nat → Int32) × (Nat → Int32) × Int32 × Int64} (hf : fX12_sitting Fu v_thrown v_status a_refusals a_row v_law a_set a_rest v_broken v_value v_sum a_lies a_since v_last v_state x1 = some R) : e_C G b yX12_sitting cX12_sitting 4 (some .int) 6 0 0 [.ref (b + o), .int x1] (e_ov (kM o) (wM G b o v_thrown v_status a_refusals a_row a_images a_isKept a_tape v_taped v_from v_to v_sort v_worth v_fault v_bad v_nClauses a_nClause v_nCode a_nOp a_nArg v_nLeaves a_pile a_pileAt v_piled v_opened a_words a_headWords v_law a_set a_rest v_broken v_value v_sum a_chances a_votes a_costs a_table a_prices v_surely a_mostBy a_leastBy v_between v_steadyWays v_quashed v_but a_figures a_all a_lies a_since v_last v_state) c0) n (pD (some (.int R.1)) (e_ov (kM o) (wM G b o R.2.1 R.2.2.1 R.2.2.2.1 a_row a_images a_isKept a_tape v_taped v_from v_to v_sort v_worth v_fault v_bad v_nClauses a_nClause v_nCode a_nOp a_nArg v_nLeaves a_pile a_pileAt v_piled v_opened a_words a_headWords R.2.2.2.2.1 R.2.2.2.2.2.1 R.2.2.2.2.2.2.1 R.2.2.2.2.2.2.2.1 R.2.2.2.2.2.2.2.2.1 R.2.2.2.2.2.2.2.2.2.1 a_chances a_votes a_costs a_table a_prices v_surely a_mostBy a_leastBy v_between v_steadyWays v_quashed v_but a_figures a_all R.2.2.2.2.2.2.2.2.2.2.1 R.2.2.2.2.2.2.2.2.2.2.2.1 R.2.2.2.2.2.2.2.2.2.2.2.2.1 R.2.2.2.2.2.2.2.2.2.2.2.2.2) c0) n) := e_C.of (by decide) (Nat.le_of_ble_eq_true rfl) (tX12_sitting hw hf)
def fX12_lay (v_thrown : Int32) (a_lies : Nat → Int32) (a_since : Nat → Int32) (v_last : Int32) (x1 : Int32) (x2 : Int32) : Option (Int32 × Int32) := (fX12_in ((x2 : Int32).toInt64) 0 1).bind fun r1 => (if (r1 : Int32) = 0 then (some ((-1 : Int32), 0)) else (if (v_last : Int32) = ((-1 : Int32) : Int32) then (some ((-1 : Int32), 0)) else (if (x1 : Int32) = ((-1 : Int32) : Int32) then (some (v_last, 0)) else ((fX12_in ((x1 : Int32).toInt64) 0 7).bind fun r2 => (if (r2 : Int32) = 0 then (some ((-1 : Int32), 0)) else (if (x2 : Int32) = 0 then (gd x1 8 (some ((a_lies (x1 : Int32).toNatClampNeg), 0))) else (gd x1 8 (some ((a_since (x1 : Int32).toNatClampNeg), 0)))))))))
set_option maxHeartbeats 4000000 in
set_option maxRecDepth 100000 in
theorem tX12_lay {G : GT} {b : Nat} {o : Nat} {c0 : Hp} {n : Nat} (hw : e_wf (kM o) n) {v_status : Int32} {a_refusals : Nat → Int32} {a_row : Nat → Int32} {a_images : Nat → Int32} {a_isKept : Nat → Int32} {a_tape : Nat → Int32} {v_taped : Int32} {v_from : Int32} {v_to : Int32} {v_sort : Int32} {v_worth : Int64} {v_fault : Int32} {v_bad : Int32} {v_nClauses : Int32} {a_nClause : Nat → Int32} {v_nCode : Int32} {a_nOp : Nat → Int32} {a_nArg : Nat → Int32} {v_nLeaves : Int32} {a_pile : Nat → Int32} {a_pileAt : Nat → Int32} {v_piled : Int32} {v_opened : Int32} {a_words : Nat → Int64} {a_headWords : Nat → Int64} {v_law : Int32} {a_set : Nat → Int64} {a_rest : Nat → Int64} {v_broken : Int32} {v_value : Int64} {v_sum : Int64} {a_chances : Nat → Int32} {a_votes : Nat → Int64} {a_costs : Nat → Int32} {a_table : Nat → Int64} {a_prices : Nat → Int32} {v_surely : Int64} {a_mostBy : Nat → Int64} {a_leastBy : Nat → Int64} {v_between : Int64} {v_steadyWays : Int32} {v_quashed : Int32} {v_but : Int32} {a_figures : Nat → Int32} {a_all : Nat → Int32} {v_state : Int64} {v_thrown : Int32} {a_lies : Nat → Int32} {a_since : Nat → Int32} {v_last : Int32} {x1 : Int32} {x2 : Int32} {R : Int32 × Int32} (hf : fX12_lay v_thrown a_lies a_since v_last x1 x2 = some R) : E G b yX12_lay cX12_lay 3 (some .int) (e_rm 1 0 0) e_X0 (e_Z G b (pD (some (.int R.1)) (e_ov (kM o) (wM G b o R.2 v_status a_refusals a_row a_images a_isKept a_tape v_taped v_from v_to v_sort v_worth v_fault v_bad v_nClauses a_nClause v_nCode a_nOp a_nArg v_nLeaves a_pile a_pileAt v_piled v_opened a_words a_headWords v_law a_set a_rest v_broken v_value v_sum a_chances a_votes a_costs a_table a_prices v_surely a_mostBy a_leastBy v_between v_steadyWays v_quashed v_but a_figures a_all a_lies a_since v_last v_state) c0) n) 0 0) 0 [(0, .ref (b + o)), (1, .int x1), (2, .int x2)] [] (e_ov (kM o) (wM G b o v_thrown v_status a_refusals a_row a_images a_isKept a_tape v_taped v_from v_to v_sort v_worth v_fault v_bad v_nClauses a_nClause v_nCode a_nOp a_nArg v_nLeaves a_pile a_pileAt v_piled v_opened a_words a_headWords v_law a_set a_rest v_broken v_value v_sum a_chances a_votes a_costs a_table a_prices v_surely a_mostBy a_leastBy v_between v_steadyWays v_quashed v_but a_figures a_all a_lies a_since v_last v_state) c0) n 0 0 := by
  unfold fX12_lay at hf
  refine E.aload_n 0 dX12_lay_0 rfl ?_
  refine E.iconst (v := 0) dX12_lay_1 (by decide) ?_
  refine E.put (es' := (wM G b o 0 v_status a_refusals a_row a_images a_isKept a_tape v_taped v_from v_to v_sort v_worth v_fault v_bad v_nClauses a_nClause v_nCode a_nOp a_nArg v_nLeaves a_pile a_pileAt v_piled v_opened a_words a_headWords v_law a_set a_rest v_broken v_value v_sum a_chances a_votes a_costs a_table a_prices v_surely a_mostBy a_leastBy v_between v_steadyWays v_quashed v_but a_figures a_all a_lies a_since v_last v_state)) hw 0 o dX12_lay_2 flX12_124 ftX12 rfl rfl rfl rfl rfl rfl (Nat.le_of_ble_eq_true rfl) rfl ?_
  refine E.iload_n 2 dX12_lay_5 rfl ?_
  refine E.i2l dX12_lay_6 ?_
  refine E.lconst (v := 0) dX12_lay_7 (by decide) ?_
  refine E.lconst (v := 1) dX12_lay_8 (by decide) ?_
  obtain ⟨r1, hc1, hf⟩ := e_bind hf
  refine E.callSD [] dX12_lay_9 mlX12_134 (mX12_in hc1) ⟨Nat.le_of_ble_eq_true rfl, Nat.le_of_ble_eq_true rfl⟩ rfl rfl (Nat.le_of_ble_eq_true rfl) ⟨Nat.le_refl _, Nat.le_refl _⟩ rfl ?_
  refine E.if_eq dX12_lay_12 (fun h => ?_) (fun h => ?_)
  · have hf := e_ift hf h
    refine E.iconst (v := -1) dX12_lay_23 (by decide) ?_
    cases hf
    exact E.iret dX12_lay_24 (Nat.le_refl _) (Nat.le_refl _) (pD_rf _ _ _)
  · have hf := e_iff hf h
    refine E.aload_n 0 dX12_lay_15 rfl ?_
    refine E.get hw 0 o dX12_lay_16 flX12_121 rfl rfl rfl rfl ?_
    refine E.iconst (v := -1) dX12_lay_19 (by decide) ?_
    refine E.icmp_ne dX12_lay_20 (fun h => ?_) (fun h => ?_)
    · have hf := e_iff hf h
      refine E.iload_n 1 dX12_lay_25 rfl ?_
      refine E.iconst (v := -1) dX12_lay_26 (by decide) ?_
      refine E.icmp_ne dX12_lay_27 (fun h => ?_) (fun h => ?_)
      · have hf := e_iff hf h
        refine E.iload_n 1 dX12_lay_35 rfl ?_
        refine E.i2l dX12_lay_36 ?_
        refine E.lconst (v := 0) dX12_lay_37 (by decide) ?_
        refine E.ldc2 dX12_lay_38 kX12_384 ?_
        obtain ⟨r2, hc2, hf⟩ := e_bind hf
        refine E.callSD [] dX12_lay_41 mlX12_134 (mX12_in hc2) ⟨Nat.le_of_ble_eq_true rfl, Nat.le_of_ble_eq_true rfl⟩ rfl rfl (Nat.le_of_ble_eq_true rfl) ⟨Nat.le_refl _, Nat.le_refl _⟩ rfl ?_
        refine E.if_ne dX12_lay_44 (fun h => ?_) (fun h => ?_)
        · have hf := e_iff hf h
          refine E.iload_n 2 dX12_lay_51 rfl ?_
          refine E.if_ne dX12_lay_52 (fun h => ?_) (fun h => ?_)
          · have hf := e_iff hf h
            refine E.aload_n 0 dX12_lay_64 rfl ?_
            refine E.get hw 0 o dX12_lay_65 flX12_118 rfl rfl rfl rfl ?_
            refine E.iload_n 1 dX12_lay_68 rfl ?_
            obtain ⟨g3, hf⟩ := gd_some hf
            refine E.iald hw 25 (o + 25) dX12_lay_69 rfl rfl g3 ?_
            cases hf
            exact E.iret dX12_lay_70 (Nat.le_refl _) (Nat.le_refl _) (pD_rf _ _ _)
          · have hf := e_ift hf h
            refine E.aload_n 0 dX12_lay_55 rfl ?_
            refine E.get hw 0 o dX12_lay_56 flX12_115 rfl rfl rfl rfl ?_
            refine E.iload_n 1 dX12_lay_59 rfl ?_
            obtain ⟨g4, hf⟩ := gd_some hf
            refine E.iald hw 24 (o + 24) dX12_lay_60 rfl rfl g4 ?_
            refine E.goto dX12_lay_61 ?_
            cases hf
            exact E.iret dX12_lay_70 (Nat.le_refl _) (Nat.le_refl _) (pD_rf _ _ _)
        · have hf := e_ift hf h
          refine E.iconst (v := -1) dX12_lay_47 (by decide) ?_
          refine E.goto dX12_lay_48 ?_
          cases hf
          exact E.iret dX12_lay_70 (Nat.le_refl _) (Nat.le_refl _) (pD_rf _ _ _)
      · have hf := e_ift hf h
        refine E.aload_n 0 dX12_lay_30 rfl ?_
        refine E.get hw 0 o dX12_lay_31 flX12_121 rfl rfl rfl rfl ?_
        cases hf
        exact E.iret dX12_lay_34 (Nat.le_refl _) (Nat.le_refl _) (pD_rf _ _ _)
    · have hf := e_ift hf h
      refine E.iconst (v := -1) dX12_lay_23 (by decide) ?_
      cases hf
      exact E.iret dX12_lay_24 (Nat.le_refl _) (Nat.le_refl _) (pD_rf _ _ _)
set_option maxRecDepth 100000 in
theorem mX12_lay {G : GT} {b : Nat} {o : Nat} {c0 : Hp} {n : Nat} (hw : e_wf (kM o) n) {v_status : Int32} {a_refusals : Nat → Int32} {a_row : Nat → Int32} {a_images : Nat → Int32} {a_isKept : Nat → Int32} {a_tape : Nat → Int32} {v_taped : Int32} {v_from : Int32} {v_to : Int32} {v_sort : Int32} {v_worth : Int64} {v_fault : Int32} {v_bad : Int32} {v_nClauses : Int32} {a_nClause : Nat → Int32} {v_nCode : Int32} {a_nOp : Nat → Int32} {a_nArg : Nat → Int32} {v_nLeaves : Int32} {a_pile : Nat → Int32} {a_pileAt : Nat → Int32} {v_piled : Int32} {v_opened : Int32} {a_words : Nat → Int64} {a_headWords : Nat → Int64} {v_law : Int32} {a_set : Nat → Int64} {a_rest : Nat → Int64} {v_broken : Int32} {v_value : Int64} {v_sum : Int64} {a_chances : Nat → Int32} {a_votes : Nat → Int64} {a_costs : Nat → Int32} {a_table : Nat → Int64} {a_prices : Nat → Int32} {v_surely : Int64} {a_mostBy : Nat → Int64} {a_leastBy : Nat → Int64} {v_between : Int64} {v_steadyWays : Int32} {v_quashed : Int32} {v_but : Int32} {a_figures : Nat → Int32} {a_all : Nat → Int32} {v_state : Int64} {v_thrown : Int32} {a_lies : Nat → Int32} {a_since : Nat → Int32} {v_last : Int32} {x1 : Int32} {x2 : Int32} {R : Int32 × Int32} (hf : fX12_lay v_thrown a_lies a_since v_last x1 x2 = some R) : e_C G b yX12_lay cX12_lay 3 (some .int) 1 0 0 [.ref (b + o), .int x1, .int x2] (e_ov (kM o) (wM G b o v_thrown v_status a_refusals a_row a_images a_isKept a_tape v_taped v_from v_to v_sort v_worth v_fault v_bad v_nClauses a_nClause v_nCode a_nOp a_nArg v_nLeaves a_pile a_pileAt v_piled v_opened a_words a_headWords v_law a_set a_rest v_broken v_value v_sum a_chances a_votes a_costs a_table a_prices v_surely a_mostBy a_leastBy v_between v_steadyWays v_quashed v_but a_figures a_all a_lies a_since v_last v_state) c0) n (pD (some (.int R.1)) (e_ov (kM o) (wM G b o R.2 v_status a_refusals a_row a_images a_isKept a_tape v_taped v_from v_to v_sort v_worth v_fault v_bad v_nClauses a_nClause v_nCode a_nOp a_nArg v_nLeaves a_pile a_pileAt v_piled v_opened a_words a_headWords v_law a_set a_rest v_broken v_value v_sum a_chances a_votes a_costs a_table a_prices v_surely a_mostBy a_leastBy v_between v_steadyWays v_quashed v_but a_figures a_all a_lies a_since v_last v_state) c0) n) := e_C.of (by decide) (Nat.le_of_ble_eq_true rfl) (tX12_lay hw hf)
def fX12_count (Fu : Nat) (v_thrown : Int32) (a_refusals : Nat → Int32) (a_row : Nat → Int32) (v_taped : Int32) (x1 : Int32) : Option (Int32 × Int32) := if (x1 : Int32) = 0 then (gd 0 5570 (some ((a_row (0 : Int32).toNatClampNeg), 0))) else (if (x1 : Int32) = 1 then (gd 1 5570 (some ((a_row (1 : Int32).toNatClampNeg), 0))) else (if (x1 : Int32) = 2 then (gd 2 5570 (some ((a_row (2 : Int32).toNatClampNeg), 0))) else (if (x1 : Int32) = 3 then (gd 11 5570 (some ((a_row (11 : Int32).toNatClampNeg), 0))) else (if (x1 : Int32) = 4 then (gd 4 5570 ((fX12_bits Fu (a_row (4 : Int32).toNatClampNeg)).bind fun r6 => (some (r6, 0)))) else (if (x1 : Int32) = 5 then (some (v_taped, 0)) else (if (x1 : Int32) = 6 then (gd 1 7 (some ((a_refusals (1 : Int32).toNatClampNeg), 0))) else (if (x1 : Int32) = 7 then (gd 2 7 (some ((a_refusals (2 : Int32).toNatClampNeg), 0))) else (if (x1 : Int32) = 8 then (gd 3 7 (some ((a_refusals (3 : Int32).toNatClampNeg), 0))) else (if (x1 : Int32) = 9 then (gd 5 7 (some ((a_refusals (5 : Int32).toNatClampNeg), 0))) else (if (x1 : Int32) = 10 then (gd 6 7 (some ((a_refusals (6 : Int32).toNatClampNeg), 0))) else (if (x1 : Int32) = 11 then (gd 3 5570 (some ((a_row (3 : Int32).toNatClampNeg), 0))) else ((fX12_in ((x1 : Int32).toInt64) 12 17).bind fun r13 => (if (r13 : Int32) = 0 then (some ((-1 : Int32), 0)) else (gd ((5 + x1) - 12) 5570 (some ((a_row (((5 + x1) - 12) : Int32).toNatClampNeg), 0))))))))))))))))
set_option maxHeartbeats 4000000 in
set_option maxRecDepth 100000 in
theorem tX12_count {G : GT} {b : Nat} {o : Nat} {c0 : Hp} {n : Nat} (hw : e_wf (kM o) n) {v_status : Int32} {a_images : Nat → Int32} {a_isKept : Nat → Int32} {a_tape : Nat → Int32} {v_from : Int32} {v_to : Int32} {v_sort : Int32} {v_worth : Int64} {v_fault : Int32} {v_bad : Int32} {v_nClauses : Int32} {a_nClause : Nat → Int32} {v_nCode : Int32} {a_nOp : Nat → Int32} {a_nArg : Nat → Int32} {v_nLeaves : Int32} {a_pile : Nat → Int32} {a_pileAt : Nat → Int32} {v_piled : Int32} {v_opened : Int32} {a_words : Nat → Int64} {a_headWords : Nat → Int64} {v_law : Int32} {a_set : Nat → Int64} {a_rest : Nat → Int64} {v_broken : Int32} {v_value : Int64} {v_sum : Int64} {a_chances : Nat → Int32} {a_votes : Nat → Int64} {a_costs : Nat → Int32} {a_table : Nat → Int64} {a_prices : Nat → Int32} {v_surely : Int64} {a_mostBy : Nat → Int64} {a_leastBy : Nat → Int64} {v_between : Int64} {v_steadyWays : Int32} {v_quashed : Int32} {v_but : Int32} {a_figures : Nat → Int32} {a_all : Nat → Int32} {a_lies : Nat → Int32} {a_since : Nat → Int32} {v_last : Int32} {v_state : Int64} {Fu : Nat} {v_thrown : Int32} {a_refusals : Nat → Int32} {a_row : Nat → Int32} {v_taped : Int32} {x1 : Int32} {R : Int32 × Int32} (hf : fX12_count Fu v_thrown a_refusals a_row v_taped x1 = some R) : E G b yX12_count cX12_count 2 (some .int) (e_rm 1 0 0) e_X0 (e_Z G b (pD (some (.int R.1)) (e_ov (kM o) (wM G b o R.2 v_status a_refusals a_row a_images a_isKept a_tape v_taped v_from v_to v_sort v_worth v_fault v_bad v_nClauses a_nClause v_nCode a_nOp a_nArg v_nLeaves a_pile a_pileAt v_piled v_opened a_words a_headWords v_law a_set a_rest v_broken v_value v_sum a_chances a_votes a_costs a_table a_prices v_surely a_mostBy a_leastBy v_between v_steadyWays v_quashed v_but a_figures a_all a_lies a_since v_last v_state) c0) n) 0 0) 0 [(0, .ref (b + o)), (1, .int x1)] [] (e_ov (kM o) (wM G b o v_thrown v_status a_refusals a_row a_images a_isKept a_tape v_taped v_from v_to v_sort v_worth v_fault v_bad v_nClauses a_nClause v_nCode a_nOp a_nArg v_nLeaves a_pile a_pileAt v_piled v_opened a_words a_headWords v_law a_set a_rest v_broken v_value v_sum a_chances a_votes a_costs a_table a_prices v_surely a_mostBy a_leastBy v_between v_steadyWays v_quashed v_but a_figures a_all a_lies a_since v_last v_state) c0) n 0 0 := by
  unfold fX12_count at hf
  refine E.aload_n 0 dX12_count_0 rfl ?_
  refine E.iconst (v := 0) dX12_count_1 (by decide) ?_
  refine E.put (es' := (wM G b o 0 v_status a_refusals a_row a_images a_isKept a_tape v_taped v_from v_to v_sort v_worth v_fault v_bad v_nClauses a_nClause v_nCode a_nOp a_nArg v_nLeaves a_pile a_pileAt v_piled v_opened a_words a_headWords v_law a_set a_rest v_broken v_value v_sum a_chances a_votes a_costs a_table a_prices v_surely a_mostBy a_leastBy v_between v_steadyWays v_quashed v_but a_figures a_all a_lies a_since v_last v_state)) hw 0 o dX12_count_2 flX12_124 ftX12 rfl rfl rfl rfl rfl rfl (Nat.le_of_ble_eq_true rfl) rfl ?_
  refine E.iload_n 1 dX12_count_5 rfl ?_
  by_cases h0 : (x1 : Int32) = 0
  · have hf := e_ift hf h0
    refine E.tswI (w := 0) (tgt := 68) dX12_count_6 h0 (by decide) (by decide) (o2 := 62) rfl (by decide) ?_
    refine E.aload_n 0 dX12_count_68 rfl ?_
    refine E.get hw 0 o dX12_count_69 flX12_13 rfl rfl rfl rfl ?_
    refine E.iconst (v := 0) dX12_count_72 (by decide) ?_
    obtain ⟨g1, hf⟩ := gd_some hf
    refine E.iald hw 2 (o + 2) dX12_count_73 rfl rfl g1 ?_
    cases hf
    exact E.iret dX12_count_74 (Nat.le_refl _) (Nat.le_refl _) (pD_rf _ _ _)
  · have hf := e_iff hf h0
    by_cases h1 : (x1 : Int32) = 1
    · have hf := e_ift hf h1
      refine E.tswI (w := 1) (tgt := 75) dX12_count_6 h1 (by decide) (by decide) (o2 := 69) rfl (by decide) ?_
      refine E.aload_n 0 dX12_count_75 rfl ?_
      refine E.get hw 0 o dX12_count_76 flX12_13 rfl rfl rfl rfl ?_
      refine E.iconst (v := 1) dX12_count_79 (by decide) ?_
      obtain ⟨g2, hf⟩ := gd_some hf
      refine E.iald hw 2 (o + 2) dX12_count_80 rfl rfl g2 ?_
      cases hf
      exact E.iret dX12_count_81 (Nat.le_refl _) (Nat.le_refl _) (pD_rf _ _ _)
    · have hf := e_iff hf h1
      by_cases h2 : (x1 : Int32) = 2
      · have hf := e_ift hf h2
        refine E.tswI (w := 2) (tgt := 82) dX12_count_6 h2 (by decide) (by decide) (o2 := 76) rfl (by decide) ?_
        refine E.aload_n 0 dX12_count_82 rfl ?_
        refine E.get hw 0 o dX12_count_83 flX12_13 rfl rfl rfl rfl ?_
        refine E.iconst (v := 2) dX12_count_86 (by decide) ?_
        obtain ⟨g3, hf⟩ := gd_some hf
        refine E.iald hw 2 (o + 2) dX12_count_87 rfl rfl g3 ?_
        cases hf
        exact E.iret dX12_count_88 (Nat.le_refl _) (Nat.le_refl _) (pD_rf _ _ _)
      · have hf := e_iff hf h2
        by_cases h3 : (x1 : Int32) = 3
        · have hf := e_ift hf h3
          refine E.tswI (w := 3) (tgt := 89) dX12_count_6 h3 (by decide) (by decide) (o2 := 83) rfl (by decide) ?_
          refine E.aload_n 0 dX12_count_89 rfl ?_
          refine E.get hw 0 o dX12_count_90 flX12_13 rfl rfl rfl rfl ?_
          refine E.bipush (v := 11) dX12_count_93 (by decide) ?_
          obtain ⟨g4, hf⟩ := gd_some hf
          refine E.iald hw 2 (o + 2) dX12_count_95 rfl rfl g4 ?_
          cases hf
          exact E.iret dX12_count_96 (Nat.le_refl _) (Nat.le_refl _) (pD_rf _ _ _)
        · have hf := e_iff hf h3
          by_cases h4 : (x1 : Int32) = 4
          · have hf := e_ift hf h4
            refine E.tswI (w := 4) (tgt := 97) dX12_count_6 h4 (by decide) (by decide) (o2 := 91) rfl (by decide) ?_
            refine E.aload_n 0 dX12_count_97 rfl ?_
            refine E.get hw 0 o dX12_count_98 flX12_13 rfl rfl rfl rfl ?_
            refine E.iconst (v := 4) dX12_count_101 (by decide) ?_
            obtain ⟨g5, hf⟩ := gd_some hf
            refine E.iald hw 2 (o + 2) dX12_count_102 rfl rfl g5 ?_
            obtain ⟨r6, hc6, hf⟩ := e_bind hf
            refine E.callSD [] dX12_count_103 mlX12_435 (mX12_bits hc6) ⟨Nat.le_of_ble_eq_true rfl, Nat.le_of_ble_eq_true rfl⟩ rfl rfl (Nat.le_of_ble_eq_true rfl) ⟨Nat.le_refl _, Nat.le_refl _⟩ rfl ?_
            cases hf
            exact E.iret dX12_count_106 (Nat.le_refl _) (Nat.le_refl _) (pD_rf _ _ _)
          · have hf := e_iff hf h4
            by_cases h5 : (x1 : Int32) = 5
            · have hf := e_ift hf h5
              refine E.tswI (w := 5) (tgt := 107) dX12_count_6 h5 (by decide) (by decide) (o2 := 101) rfl (by decide) ?_
              refine E.aload_n 0 dX12_count_107 rfl ?_
              refine E.get hw 0 o dX12_count_108 flX12_184 rfl rfl rfl rfl ?_
              cases hf
              exact E.iret dX12_count_111 (Nat.le_refl _) (Nat.le_refl _) (pD_rf _ _ _)
            · have hf := e_iff hf h5
              by_cases h6 : (x1 : Int32) = 6
              · have hf := e_ift hf h6
                refine E.tswI (w := 6) (tgt := 112) dX12_count_6 h6 (by decide) (by decide) (o2 := 106) rfl (by decide) ?_
                refine E.aload_n 0 dX12_count_112 rfl ?_
                refine E.get hw 0 o dX12_count_113 flX12_7 rfl rfl rfl rfl ?_
                refine E.iconst (v := 1) dX12_count_116 (by decide) ?_
                obtain ⟨g7, hf⟩ := gd_some hf
                refine E.iald hw 1 (o + 1) dX12_count_117 rfl rfl g7 ?_
                cases hf
                exact E.iret dX12_count_118 (Nat.le_refl _) (Nat.le_refl _) (pD_rf _ _ _)
              · have hf := e_iff hf h6
                by_cases h7 : (x1 : Int32) = 7
                · have hf := e_ift hf h7
                  refine E.tswI (w := 7) (tgt := 119) dX12_count_6 h7 (by decide) (by decide) (o2 := 113) rfl (by decide) ?_
                  refine E.aload_n 0 dX12_count_119 rfl ?_
                  refine E.get hw 0 o dX12_count_120 flX12_7 rfl rfl rfl rfl ?_
                  refine E.iconst (v := 2) dX12_count_123 (by decide) ?_
                  obtain ⟨g8, hf⟩ := gd_some hf
                  refine E.iald hw 1 (o + 1) dX12_count_124 rfl rfl g8 ?_
                  cases hf
                  exact E.iret dX12_count_125 (Nat.le_refl _) (Nat.le_refl _) (pD_rf _ _ _)
                · have hf := e_iff hf h7
                  by_cases h8 : (x1 : Int32) = 8
                  · have hf := e_ift hf h8
                    refine E.tswI (w := 8) (tgt := 126) dX12_count_6 h8 (by decide) (by decide) (o2 := 120) rfl (by decide) ?_
                    refine E.aload_n 0 dX12_count_126 rfl ?_
                    refine E.get hw 0 o dX12_count_127 flX12_7 rfl rfl rfl rfl ?_
                    refine E.iconst (v := 3) dX12_count_130 (by decide) ?_
                    obtain ⟨g9, hf⟩ := gd_some hf
                    refine E.iald hw 1 (o + 1) dX12_count_131 rfl rfl g9 ?_
                    cases hf
                    exact E.iret dX12_count_132 (Nat.le_refl _) (Nat.le_refl _) (pD_rf _ _ _)
                  · have hf := e_iff hf h8
                    by_cases h9 : (x1 : Int32) = 9
                    · have hf := e_ift hf h9
                      refine E.tswI (w := 9) (tgt := 133) dX12_count_6 h9 (by decide) (by decide) (o2 := 127) rfl (by decide) ?_
                      refine E.aload_n 0 dX12_count_133 rfl ?_
                      refine E.get hw 0 o dX12_count_134 flX12_7 rfl rfl rfl rfl ?_
                      refine E.iconst (v := 5) dX12_count_137 (by decide) ?_
                      obtain ⟨g10, hf⟩ := gd_some hf
                      refine E.iald hw 1 (o + 1) dX12_count_138 rfl rfl g10 ?_
                      cases hf
                      exact E.iret dX12_count_139 (Nat.le_refl _) (Nat.le_refl _) (pD_rf _ _ _)
                    · have hf := e_iff hf h9
                      by_cases h10 : (x1 : Int32) = 10
                      · have hf := e_ift hf h10
                        refine E.tswI (w := 10) (tgt := 140) dX12_count_6 h10 (by decide) (by decide) (o2 := 134) rfl (by decide) ?_
                        refine E.aload_n 0 dX12_count_140 rfl ?_
                        refine E.get hw 0 o dX12_count_141 flX12_7 rfl rfl rfl rfl ?_
                        refine E.bipush (v := 6) dX12_count_144 (by decide) ?_
                        obtain ⟨g11, hf⟩ := gd_some hf
                        refine E.iald hw 1 (o + 1) dX12_count_146 rfl rfl g11 ?_
                        cases hf
                        exact E.iret dX12_count_147 (Nat.le_refl _) (Nat.le_refl _) (pD_rf _ _ _)
                      · have hf := e_iff hf h10
                        by_cases h11 : (x1 : Int32) = 11
                        · have hf := e_ift hf h11
                          refine E.tswI (w := 11) (tgt := 148) dX12_count_6 h11 (by decide) (by decide) (o2 := 142) rfl (by decide) ?_
                          refine E.aload_n 0 dX12_count_148 rfl ?_
                          refine E.get hw 0 o dX12_count_149 flX12_13 rfl rfl rfl rfl ?_
                          refine E.iconst (v := 3) dX12_count_152 (by decide) ?_
                          obtain ⟨g12, hf⟩ := gd_some hf
                          refine E.iald hw 2 (o + 2) dX12_count_153 rfl rfl g12 ?_
                          cases hf
                          exact E.iret dX12_count_154 (Nat.le_refl _) (Nat.le_refl _) (pD_rf _ _ _)
                        · have hf := e_iff hf h11
                          refine E.tswO (tgt := 155) dX12_count_6 (e_tsw_12 (ne_toInt h0 (k := 0) (by decide)) (ne_toInt h1 (k := 1) (by decide)) (ne_toInt h2 (k := 2) (by decide)) (ne_toInt h3 (k := 3) (by decide)) (ne_toInt h4 (k := 4) (by decide)) (ne_toInt h5 (k := 5) (by decide)) (ne_toInt h6 (k := 6) (by decide)) (ne_toInt h7 (k := 7) (by decide)) (ne_toInt h8 (k := 8) (by decide)) (ne_toInt h9 (k := 9) (by decide)) (ne_toInt h10 (k := 10) (by decide)) (ne_toInt h11 (k := 11) (by decide)) (by decide) (by decide) (by decide) (by decide) (by decide) (by decide) (by decide) (by decide) (by decide) (by decide) (by decide) (by decide) (by decide)) (by decide) ?_
                          refine E.iload_n 1 dX12_count_155 rfl ?_
                          refine E.i2l dX12_count_156 ?_
                          refine E.ldc2 dX12_count_157 kX12_501 ?_
                          refine E.ldc2 dX12_count_160 kX12_503 ?_
                          obtain ⟨r13, hc13, hf⟩ := e_bind hf
                          refine E.callSD [] dX12_count_163 mlX12_134 (mX12_in hc13) ⟨Nat.le_of_ble_eq_true rfl, Nat.le_of_ble_eq_true rfl⟩ rfl rfl (Nat.le_of_ble_eq_true rfl) ⟨Nat.le_refl _, Nat.le_refl _⟩ rfl ?_
                          refine E.if_eq dX12_count_166 (fun h => ?_) (fun h => ?_)
                          · have hf := e_ift hf h
                            refine E.iconst (v := -1) dX12_count_183 (by decide) ?_
                            cases hf
                            exact E.iret dX12_count_184 (Nat.le_refl _) (Nat.le_refl _) (pD_rf _ _ _)
                          · have hf := e_iff hf h
                            refine E.aload_n 0 dX12_count_169 rfl ?_
                            refine E.get hw 0 o dX12_count_170 flX12_13 rfl rfl rfl rfl ?_
                            refine E.iconst (v := 5) dX12_count_173 (by decide) ?_
                            refine E.iload_n 1 dX12_count_174 rfl ?_
                            refine E.iadd dX12_count_175 ?_
                            refine E.bipush (v := 12) dX12_count_176 (by decide) ?_
                            refine E.isub dX12_count_178 ?_
                            obtain ⟨g14, hf⟩ := gd_some hf
                            refine E.iald hw 2 (o + 2) dX12_count_179 rfl rfl g14 ?_
                            refine E.goto dX12_count_180 ?_
                            cases hf
                            exact E.iret dX12_count_184 (Nat.le_refl _) (Nat.le_refl _) (pD_rf _ _ _)
set_option maxRecDepth 100000 in
theorem mX12_count {G : GT} {b : Nat} {o : Nat} {c0 : Hp} {n : Nat} (hw : e_wf (kM o) n) {v_status : Int32} {a_images : Nat → Int32} {a_isKept : Nat → Int32} {a_tape : Nat → Int32} {v_from : Int32} {v_to : Int32} {v_sort : Int32} {v_worth : Int64} {v_fault : Int32} {v_bad : Int32} {v_nClauses : Int32} {a_nClause : Nat → Int32} {v_nCode : Int32} {a_nOp : Nat → Int32} {a_nArg : Nat → Int32} {v_nLeaves : Int32} {a_pile : Nat → Int32} {a_pileAt : Nat → Int32} {v_piled : Int32} {v_opened : Int32} {a_words : Nat → Int64} {a_headWords : Nat → Int64} {v_law : Int32} {a_set : Nat → Int64} {a_rest : Nat → Int64} {v_broken : Int32} {v_value : Int64} {v_sum : Int64} {a_chances : Nat → Int32} {a_votes : Nat → Int64} {a_costs : Nat → Int32} {a_table : Nat → Int64} {a_prices : Nat → Int32} {v_surely : Int64} {a_mostBy : Nat → Int64} {a_leastBy : Nat → Int64} {v_between : Int64} {v_steadyWays : Int32} {v_quashed : Int32} {v_but : Int32} {a_figures : Nat → Int32} {a_all : Nat → Int32} {a_lies : Nat → Int32} {a_since : Nat → Int32} {v_last : Int32} {v_state : Int64} {Fu : Nat} {v_thrown : Int32} {a_refusals : Nat → Int32} {a_row : Nat → Int32} {v_taped : Int32} {x1 : Int32} {R : Int32 × Int32} (hf : fX12_count Fu v_thrown a_refusals a_row v_taped x1 = some R) : e_C G b yX12_count cX12_count 2 (some .int) 1 0 0 [.ref (b + o), .int x1] (e_ov (kM o) (wM G b o v_thrown v_status a_refusals a_row a_images a_isKept a_tape v_taped v_from v_to v_sort v_worth v_fault v_bad v_nClauses a_nClause v_nCode a_nOp a_nArg v_nLeaves a_pile a_pileAt v_piled v_opened a_words a_headWords v_law a_set a_rest v_broken v_value v_sum a_chances a_votes a_costs a_table a_prices v_surely a_mostBy a_leastBy v_between v_steadyWays v_quashed v_but a_figures a_all a_lies a_since v_last v_state) c0) n (pD (some (.int R.1)) (e_ov (kM o) (wM G b o R.2 v_status a_refusals a_row a_images a_isKept a_tape v_taped v_from v_to v_sort v_worth v_fault v_bad v_nClauses a_nClause v_nCode a_nOp a_nArg v_nLeaves a_pile a_pileAt v_piled v_opened a_words a_headWords v_law a_set a_rest v_broken v_value v_sum a_chances a_votes a_costs a_table a_prices v_surely a_mostBy a_leastBy v_between v_steadyWays v_quashed v_but a_figures a_all a_lies a_since v_last v_state) c0) n) := e_C.of (by decide) (Nat.le_of_ble_eq_true rfl) (tX12_count hw hf)
def fX12_status (v_thrown : Int32) (v_status : Int32) : Option (Int32 × Int32) := some (v_status, 0)
set_option maxHeartbeats 4000000 in
set_option maxRecDepth 100000 in
theorem tX12_status {G : GT} {b : Nat} {o : Nat} {c0 : Hp} {n : Nat} (hw : e_wf (kM o) n) {a_refusals : Nat → Int32} {a_row : Nat → Int32} {a_images : Nat → Int32} {a_isKept : Nat → Int32} {a_tape : Nat → Int32} {v_taped : Int32} {v_from : Int32} {v_to : Int32} {v_sort : Int32} {v_worth : Int64} {v_fault : Int32} {v_bad : Int32} {v_nClauses : Int32} {a_nClause : Nat → Int32} {v_nCode : Int32} {a_nOp : Nat → Int32} {a_nArg : Nat → Int32} {v_nLeaves : Int32} {a_pile : Nat → Int32} {a_pileAt : Nat → Int32} {v_piled : Int32} {v_opened : Int32} {a_words : Nat → Int64} {a_headWords : Nat → Int64} {v_law : Int32} {a_set : Nat → Int64} {a_rest : Nat → Int64} {v_broken : Int32} {v_value : Int64} {v_sum : Int64} {a_chances : Nat → Int32} {a_votes : Nat → Int64} {a_costs : Nat → Int32} {a_table : Nat → Int64} {a_prices : Nat → Int32} {v_surely : Int64} {a_mostBy : Nat → Int64} {a_leastBy : Nat → Int64} {v_between : Int64} {v_steadyWays : Int32} {v_quashed : Int32} {v_but : Int32} {a_figures : Nat → Int32} {a_all : Nat → Int32} {a_lies : Nat → Int32} {a_since : Nat → Int32} {v_last : Int32} {v_state : Int64} {v_thrown : Int32} {v_status : Int32} {R : Int32 × Int32} (hf : fX12_status v_thrown v_status = some R) : E G b yX12_status cX12_status 1 (some .int) (e_rm 0 0 0) e_X0 (e_Z G b (pD (some (.int R.1)) (e_ov (kM o) (wM G b o R.2 v_status a_refusals a_row a_images a_isKept a_tape v_taped v_from v_to v_sort v_worth v_fault v_bad v_nClauses a_nClause v_nCode a_nOp a_nArg v_nLeaves a_pile a_pileAt v_piled v_opened a_words a_headWords v_law a_set a_rest v_broken v_value v_sum a_chances a_votes a_costs a_table a_prices v_surely a_mostBy a_leastBy v_between v_steadyWays v_quashed v_but a_figures a_all a_lies a_since v_last v_state) c0) n) 0 0) 0 [(0, .ref (b + o))] [] (e_ov (kM o) (wM G b o v_thrown v_status a_refusals a_row a_images a_isKept a_tape v_taped v_from v_to v_sort v_worth v_fault v_bad v_nClauses a_nClause v_nCode a_nOp a_nArg v_nLeaves a_pile a_pileAt v_piled v_opened a_words a_headWords v_law a_set a_rest v_broken v_value v_sum a_chances a_votes a_costs a_table a_prices v_surely a_mostBy a_leastBy v_between v_steadyWays v_quashed v_but a_figures a_all a_lies a_since v_last v_state) c0) n 0 0 := by
  unfold fX12_status at hf
  refine E.aload_n 0 dX12_status_0 rfl ?_
  refine E.iconst (v := 0) dX12_status_1 (by decide) ?_
  refine E.put (es' := (wM G b o 0 v_status a_refusals a_row a_images a_isKept a_tape v_taped v_from v_to v_sort v_worth v_fault v_bad v_nClauses a_nClause v_nCode a_nOp a_nArg v_nLeaves a_pile a_pileAt v_piled v_opened a_words a_headWords v_law a_set a_rest v_broken v_value v_sum a_chances a_votes a_costs a_table a_prices v_surely a_mostBy a_leastBy v_between v_steadyWays v_quashed v_but a_figures a_all a_lies a_since v_last v_state)) hw 0 o dX12_status_2 flX12_124 ftX12 rfl rfl rfl rfl rfl rfl (Nat.le_of_ble_eq_true rfl) rfl ?_
  refine E.aload_n 0 dX12_status_5 rfl ?_
  refine E.get hw 0 o dX12_status_6 flX12_127 rfl rfl rfl rfl ?_
  cases hf
  exact E.iret dX12_status_9 (Nat.le_refl _) (Nat.le_refl _) (pD_rf _ _ _)
set_option maxRecDepth 100000 in
theorem mX12_status {G : GT} {b : Nat} {o : Nat} {c0 : Hp} {n : Nat} (hw : e_wf (kM o) n) {a_refusals : Nat → Int32} {a_row : Nat → Int32} {a_images : Nat → Int32} {a_isKept : Nat → Int32} {a_tape : Nat → Int32} {v_taped : Int32} {v_from : Int32} {v_to : Int32} {v_sort : Int32} {v_worth : Int64} {v_fault : Int32} {v_bad : Int32} {v_nClauses : Int32} {a_nClause : Nat → Int32} {v_nCode : Int32} {a_nOp : Nat → Int32} {a_nArg : Nat → Int32} {v_nLeaves : Int32} {a_pile : Nat → Int32} {a_pileAt : Nat → Int32} {v_piled : Int32} {v_opened : Int32} {a_words : Nat → Int64} {a_headWords : Nat → Int64} {v_law : Int32} {a_set : Nat → Int64} {a_rest : Nat → Int64} {v_broken : Int32} {v_value : Int64} {v_sum : Int64} {a_chances : Nat → Int32} {a_votes : Nat → Int64} {a_costs : Nat → Int32} {a_table : Nat → Int64} {a_prices : Nat → Int32} {v_surely : Int64} {a_mostBy : Nat → Int64} {a_leastBy : Nat → Int64} {v_between : Int64} {v_steadyWays : Int32} {v_quashed : Int32} {v_but : Int32} {a_figures : Nat → Int32} {a_all : Nat → Int32} {a_lies : Nat → Int32} {a_since : Nat → Int32} {v_last : Int32} {v_state : Int64} {v_thrown : Int32} {v_status : Int32} {R : Int32 × Int32} (hf : fX12_status v_thrown v_status = some R) : e_C G b yX12_status cX12_status 1 (some .int) 0 0 0 [.ref (b + o)] (e_ov (kM o) (wM G b o v_thrown v_status a_refusals a_row a_images a_isKept a_tape v_taped v_from v_to v_sort v_worth v_fault v_bad v_nClauses a_nClause v_nCode a_nOp a_nArg v_nLeaves a_pile a_pileAt v_piled v_opened a_words a_headWords v_law a_set a_rest v_broken v_value v_sum a_chances a_votes a_costs a_table a_prices v_surely a_mostBy a_leastBy v_between v_steadyWays v_quashed v_but a_figures a_all a_lies a_since v_last v_state) c0) n (pD (some (.int R.1)) (e_ov (kM o) (wM G b o R.2 v_status a_refusals a_row a_images a_isKept a_tape v_taped v_from v_to v_sort v_worth v_fault v_bad v_nClauses a_nClause v_nCode a_nOp a_nArg v_nLeaves a_pile a_pileAt v_piled v_opened a_words a_headWords v_law a_set a_rest v_broken v_value v_sum a_chances a_votes a_costs a_table a_prices v_surely a_mostBy a_leastBy v_between v_steadyWays v_quashed v_but a_figures a_all a_lies a_since v_last v_state) c0) n) := e_C.of (by decide) (Nat.le_of_ble_eq_true rfl) (tX12_status hw hf)
