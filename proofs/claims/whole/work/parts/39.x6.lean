def fJ7_fill_bad5a_L10 (Fu : Nat) (Ln : Nat) : Nat → (Nat → Int64) → Int32 → Int64 → Int32 → Option ((Nat → Int64))
  | 0, _, _, _, _ => none
  | k + 1, aF, x2, x3, x5 => if (x2 : Int32) ≤ (x5 : Int32) then (some (aF)) else (gd x5 Ln ((fJ7_fill_bad5a_L10 Fu Ln k) (va_up aF (x5 : Int32).toNatClampNeg x3) x2 x3 (x5 + 1)))
set_option maxHeartbeats 4000000 in
set_option maxRecDepth 100000 in
theorem tJ7_fill_bad5a_L10 {G : GT} {b : Nat} {t Ln : Nat} {c0 : Hp} {n : Nat} (hw : e_wf (kW35 t) n)  {Fu : Nat} : ∀ (k : Nat) {aF : Nat → Int64} {x2 : Int32} {x3 : Int64} {x5 : Int32} {R : (Nat → Int64)}, fJ7_fill_bad5a_L10 Fu Ln k aF x2 x3 x5 = some R → E G b yJ7_fill_bad5a cJ7_fill_bad5a 6 none (e_rm 1 0 0) e_X0 (e_Z G b (pD none (e_ov (kW35 t) (wW35 G b t Ln R) c0) n) 0 0) 10 [(0, .ref (b + t)), (2, .int x2), (3, .long x3), (5, .int x5)] [] (e_ov (kW35 t) (wW35 G b t Ln aF) c0) n 0 0 := by
  intro k
  induction k with
  | zero =>
    intro _ _ _ _ _ hf
    have hf : (none : Option ((Nat → Int64))) = some _ := hf
    cases hf
  | succ k ih =>
    intro aF x2 x3 x5 R hf
    rw [fJ7_fill_bad5a_L10] at hf
    refine E.iload 3 dJ7_fill_bad5a_10 rfl ?_
    refine E.iload_n 1 dJ7_fill_bad5a_12 rfl ?_
    refine E.icmp_ge dJ7_fill_bad5a_13 (fun h => ?_) (fun h => ?_)
    · have hf := e_ift hf h
      cases hf
      exact E.vret dJ7_fill_bad5a_27 (Nat.le_refl _) (Nat.le_refl _) (pD_rf _ _ _)
    · have hf := e_iff hf h
      refine E.aload_n 0 dJ7_fill_bad5a_16 rfl ?_
      refine E.iload 3 dJ7_fill_bad5a_17 rfl ?_
      refine E.lload_n 2 dJ7_fill_bad5a_19 rfl ?_
      obtain ⟨g2, hf⟩ := gd_some hf
      refine E.last (es' := (wW35 G b t Ln (va_up aF (x5 : Int32).toNatClampNeg x3))) hw 0 t dJ7_fill_bad5a_20 rfl rfl g2 rfl ?_
      refine E.iinc (q := 3) (v := (x5 + 1)) (lv' := [(5, .int (x5 + 1)), (0, .ref (b + t)), (2, .int x2), (3, .long x3)]) dJ7_fill_bad5a_21 rfl rfl (by decide) rfl ?_
      refine E.goto dJ7_fill_bad5a_24 ?_
      refine E.locals [1, 2, 3, 0] rfl ?_
      exact ih hf
def fJ7_fill_bad5a (Fu : Nat) (Ln : Nat) (aF : Nat → Int64) (x1 : Int32) (x2 : Int32) (x3 : Int64) : Option ((Nat → Int64)) := (fJ7_rangeCheck_23922 (Int32.ofNat Ln) x1 x2).bind fun r1 => (fJ7_fill_bad5a_L10 Fu Ln Fu aF x2 x3 x1)
set_option maxHeartbeats 4000000 in
set_option maxRecDepth 100000 in
theorem tJ7_fill_bad5a {G : GT} {b : Nat} {t Ln : Nat} {c0 : Hp} {n : Nat} (hw : e_wf (kW35 t) n)  {Fu : Nat} {aF : Nat → Int64} {x1 : Int32} {x2 : Int32} {x3 : Int64} {R : (Nat → Int64)} (hf : fJ7_fill_bad5a Fu Ln aF x1 x2 x3 = some R) : E G b yJ7_fill_bad5a cJ7_fill_bad5a 6 none (e_rm 1 0 0) e_X0 (e_Z G b (pD none (e_ov (kW35 t) (wW35 G b t Ln R) c0) n) 0 0) 0 [(0, .ref (b + t)), (1, .int x1), (2, .int x2), (3, .long x3)] [] (e_ov (kW35 t) (wW35 G b t Ln aF) c0) n 0 0 := by
  unfold fJ7_fill_bad5a at hf
  refine E.aload_n 0 dJ7_fill_bad5a_0 rfl ?_
  refine E.alen (z := (Int32.ofNat Ln)) hw 0 t 1 dJ7_fill_bad5a_1 rfl rfl rfl rfl ?_
  refine E.iload_n 1 dJ7_fill_bad5a_2 rfl ?_
  refine E.iload_n 2 dJ7_fill_bad5a_3 rfl ?_
  obtain ⟨r1, hc1, hf⟩ := e_bind hf
  refine E.callSD [] dJ7_fill_bad5a_4 mlJ7_13 (mJ7_rangeCheck_23922 hc1) ⟨Nat.le_of_ble_eq_true rfl, Nat.le_of_ble_eq_true rfl⟩ rfl rfl (Nat.le_of_ble_eq_true rfl) ⟨Nat.le_refl _, Nat.le_refl _⟩ rfl ?_
  refine E.iload_n 1 dJ7_fill_bad5a_7 rfl ?_
  refine E.istore (lv' := [(5, .int x1), (0, .ref (b + t)), (1, .int x1), (2, .int x2), (3, .long x3)]) dJ7_fill_bad5a_8 (by decide) rfl ?_
  refine E.locals [1, 3, 4, 0] rfl ?_
  exact tJ7_fill_bad5a_L10 hw _ hf
set_option maxRecDepth 100000 in
theorem mJ7_fill_bad5a {G : GT} {b : Nat} {t Ln : Nat} {c0 : Hp} {n : Nat} (hw : e_wf (kW35 t) n)  {Fu : Nat} {aF : Nat → Int64} {x1 : Int32} {x2 : Int32} {x3 : Int64} {R : (Nat → Int64)} (hf : fJ7_fill_bad5a Fu Ln aF x1 x2 x3 = some R) : e_C G b yJ7_fill_bad5a cJ7_fill_bad5a 6 none 1 0 0 [.ref (b + t), .int x1, .int x2, .long x3] (e_ov (kW35 t) (wW35 G b t Ln aF) c0) n (pD none (e_ov (kW35 t) (wW35 G b t Ln R) c0) n) := e_C.of (by decide) (Nat.le_of_ble_eq_true rfl) (tJ7_fill_bad5a hw hf)
abbrev kW34 (t u : Nat) : List Nat := [t, (t + 1), u, (u + 1)]
abbrev wW34 (G : GT) (b t u : Nat) (vT0_voters : Int32) (aT1 : Nat → Int64) (vU0_voters : Int32) (aU1 : Nat → Int64) : List va_E := [.inr (8, [.ref (b + (t + 1)), .int vT0_voters]), aJ G 9 aT1, .inr (8, [.ref (b + (u + 1)), .int vU0_voters]), aJ G 9 aU1]
def fX8_voteAfter (Fu : Nat) (vT0_voters : Int32) (aT1 : Nat → Int64) (vU0_voters : Int32) (aU1 : Nat → Int64) (x2 : Int32) : Option (Int32 × (Nat → Int64)) := (fX8_vote Fu vU0_voters (va_cpy aU1 aT1 0 0 9) x2).bind fun r1 => (some (r1.1, r1.2))
set_option maxHeartbeats 4000000 in
set_option maxRecDepth 100000 in
theorem tX8_voteAfter {G : GT} {b : Nat} {t u : Nat} {c0 : Hp} {n : Nat} (hw : e_wf (kW34 t u) n)  {Fu : Nat} {vT0_voters : Int32} {aT1 : Nat → Int64} {vU0_voters : Int32} {aU1 : Nat → Int64} {x2 : Int32} {R : Int32 × (Nat → Int64)} (hf : fX8_voteAfter Fu vT0_voters aT1 vU0_voters aU1 x2 = some R) : E G b yX8_voteAfter cX8_voteAfter 3 none (e_rm 1 0 0) e_X0 (e_Z G b (pD none (e_ov (kW34 t u) (wW34 G b t u R.1 R.2 vU0_voters aU1) c0) n) 0 0) 0 [(0, .ref (b + t)), (1, .ref (b + u)), (2, .int x2)] [] (e_ov (kW34 t u) (wW34 G b t u vT0_voters aT1 vU0_voters aU1) c0) n 0 0 := by
  unfold fX8_voteAfter at hf
  refine E.aload_n 1 dX8_voteAfter_0 rfl ?_
  refine E.get hw 2 u dX8_voteAfter_1 flX8_9 rfl rfl rfl rfl ?_
  refine E.iconst (v := 0) dX8_voteAfter_4 (by decide) ?_
  refine E.aload_n 0 dX8_voteAfter_5 rfl ?_
  refine E.get hw 0 t dX8_voteAfter_6 flX8_9 rfl rfl rfl rfl ?_
  refine E.iconst (v := 0) dX8_voteAfter_9 (by decide) ?_
  refine E.aload_n 0 dX8_voteAfter_10 rfl ?_
  refine E.get hw 0 t dX8_voteAfter_11 flX8_9 rfl rfl rfl rfl ?_
  refine E.alen (z := 9) hw 1 (t + 1) 1 dX8_voteAfter_14 rfl rfl rfl rfl ?_
  refine E.copyJ (es' := (wW34 G b t u vT0_voters (va_cpy aU1 aT1 0 0 9) vU0_voters aU1)) (sp' := 0) (dp' := 0) (m' := 9) hw 3 (u + 1) 1 (t + 1) dX8_voteAfter_15 cwX8_25 rfl rfl rfl rfl (by decide) (by decide) (by decide) (by decide) (by decide) (by decide) (by decide) (by decide) ⟨Nat.le_of_ble_eq_true rfl, Nat.le_of_ble_eq_true rfl⟩ rfl ?_
  refine E.aload_n 0 dX8_voteAfter_18 rfl ?_
  refine E.aload_n 1 dX8_voteAfter_19 rfl ?_
  refine E.get hw 2 u dX8_voteAfter_20 flX8_21 rfl rfl rfl rfl ?_
  refine E.put (es' := (wW34 G b t u vU0_voters (va_cpy aU1 aT1 0 0 9) vU0_voters aU1)) hw 0 t dX8_voteAfter_23 flX8_21 ftX8 rfl rfl rfl rfl rfl rfl (Nat.le_of_ble_eq_true rfl) rfl ?_
  refine E.aload_n 0 dX8_voteAfter_26 rfl ?_
  refine E.iload_n 2 dX8_voteAfter_27 rfl ?_
  obtain ⟨r1, hc1, hf⟩ := e_bind hf
  refine E.callVDs (es' := (wW34 G b t u r1.1 r1.2 vU0_voters aU1)) [] [0, 1] 0 t dX8_voteAfter_28 mlX8_31 hw rfl rfl rfl rfl (mX8_vote (hw.pick2 [0, 1] rfl (by decide)) hc1) rfl rfl rfl rfl ⟨Nat.le_of_ble_eq_true rfl, Nat.le_of_ble_eq_true rfl⟩ rfl rfl (Nat.le_of_ble_eq_true rfl) ⟨Nat.le_refl _, Nat.le_refl _⟩ rfl ?_
  cases hf
  exact E.vret dX8_voteAfter_31 (Nat.le_refl _) (Nat.le_refl _) (pD_rf _ _ _)
set_option maxRecDepth 100000 in
theorem mX8_voteAfter {G : GT} {b : Nat} {t u : Nat} {c0 : Hp} {n : Nat} (hw : e_wf (kW34 t u) n)  {Fu : Nat} {vT0_voters : Int32} {aT1 : Nat → Int64} {vU0_voters : Int32} {aU1 : Nat → Int64} {x2 : Int32} {R : Int32 × (Nat → Int64)} (hf : fX8_voteAfter Fu vT0_voters aT1 vU0_voters aU1 x2 = some R) : e_C G b yX8_voteAfter cX8_voteAfter 3 none 1 0 0 [.ref (b + t), .ref (b + u), .int x2] (e_ov (kW34 t u) (wW34 G b t u vT0_voters aT1 vU0_voters aU1) c0) n (pD none (e_ov (kW34 t u) (wW34 G b t u R.1 R.2 vU0_voters aU1) c0) n) := e_C.of (by decide) (Nat.le_of_ble_eq_true rfl) (tX8_voteAfter hw hf)
abbrev kW53 : List Nat := [42, 48]
abbrev wW53 (G : GT) (b  : Nat) (v42_beasts : Int32) (v42_seats : Int32) (v42_seated : Int32) (v42_quota : Int32) (v42_known : Int32) (v42_surveyed : Int32) (v42_steadyBench : Int32) (v42_steadyWays : Int32) (v42_steadySwing : Int64) (a48 : Nat → Int64) : List va_E := [.inr (1, [.ref (b + 43), .ref (b + 44), .ref (b + 45), .ref (b + 46), .ref (b + 47), .ref (b + 48), .ref (b + 49), .ref (b + 50), .ref (b + 67), .int v42_beasts, .int v42_seats, .int v42_seated, .int v42_quota, .int v42_known, .int v42_surveyed, .int v42_steadyBench, .int v42_steadyWays, .long v42_steadySwing]), aJ G 512 a48]
def fX1_note (a48 : Nat → Int64) (x1 : Int32) (x2 : Int32) (x3 : Int64) : Option ((Nat → Int64)) := gd x1 512 (gd x1 512 (gd (256 + x2) 512 (gd (256 + x2) 512 (some ((va_up (va_up a48 (x1 : Int32).toNatClampNeg (if (x3 : Int64) < (a48 (x1 : Int32).toNatClampNeg) then x3 else (a48 (x1 : Int32).toNatClampNeg))) ((256 + x2) : Int32).toNatClampNeg (if (x3 : Int64) < ((va_up a48 (x1 : Int32).toNatClampNeg (if (x3 : Int64) < (a48 (x1 : Int32).toNatClampNeg) then x3 else (a48 (x1 : Int32).toNatClampNeg))) ((256 + x2) : Int32).toNatClampNeg) then ((va_up a48 (x1 : Int32).toNatClampNeg (if (x3 : Int64) < (a48 (x1 : Int32).toNatClampNeg) then x3 else (a48 (x1 : Int32).toNatClampNeg))) ((256 + x2) : Int32).toNatClampNeg) else x3)))))))
set_option maxHeartbeats 4000000 in
set_option maxRecDepth 100000 in
theorem tX1_note {G : GT} {b : Nat} {c0 : Hp} {n : Nat} (hw : e_wf (kW53) n) {v42_beasts : Int32} {v42_seats : Int32} {v42_seated : Int32} {v42_quota : Int32} {v42_known : Int32} {v42_surveyed : Int32} {v42_steadyBench : Int32} {v42_steadyWays : Int32} {v42_steadySwing : Int64} {a48 : Nat → Int64} {x1 : Int32} {x2 : Int32} {x3 : Int64} {R : (Nat → Int64)} (hf : fX1_note a48 x1 x2 x3 = some R) : E G b yX1_note cX1_note 5 none (e_rm 1 0 0) e_X0 (e_Z G b (pD none (e_ov (kW53) (wW53 G b v42_beasts v42_seats v42_seated v42_quota v42_known v42_surveyed v42_steadyBench v42_steadyWays v42_steadySwing R) c0) n) 0 0) 0 [(0, .ref (b + 42)), (1, .int x1), (2, .int x2), (3, .long x3)] [] (e_ov (kW53) (wW53 G b v42_beasts v42_seats v42_seated v42_quota v42_known v42_surveyed v42_steadyBench v42_steadyWays v42_steadySwing a48) c0) n 0 0 := by
  unfold fX1_note at hf
  refine E.aload_n 0 dX1_note_0 rfl ?_
  refine E.get hw 0 42 dX1_note_1 flX1_27 rfl rfl rfl rfl ?_
  refine E.iload_n 1 dX1_note_4 rfl ?_
  refine E.aload_n 0 dX1_note_5 rfl ?_
  refine E.get hw 0 42 dX1_note_6 flX1_27 rfl rfl rfl rfl ?_
  refine E.iload_n 1 dX1_note_9 rfl ?_
  obtain ⟨g1, hf⟩ := gd_some hf
  refine E.lald hw 1 48 dX1_note_10 rfl rfl g1 ?_
  refine E.lload_n 3 dX1_note_11 rfl ?_
  refine E.mmin_long dX1_note_12 mmX1_181 ⟨Nat.le_of_ble_eq_true rfl, Nat.le_of_ble_eq_true rfl⟩ ⟨Nat.le_refl _, Nat.le_refl _⟩ ?_
  obtain ⟨g2, hf⟩ := gd_some hf
  refine E.last (es' := (wW53 G b v42_beasts v42_seats v42_seated v42_quota v42_known v42_surveyed v42_steadyBench v42_steadyWays v42_steadySwing (va_up a48 (x1 : Int32).toNatClampNeg (if (x3 : Int64) < (a48 (x1 : Int32).toNatClampNeg) then x3 else (a48 (x1 : Int32).toNatClampNeg))))) hw 1 48 dX1_note_15 rfl rfl g2 rfl ?_
  refine E.aload_n 0 dX1_note_16 rfl ?_
  refine E.get hw 0 42 dX1_note_17 flX1_27 rfl rfl rfl rfl ?_
  refine E.sipush (v := 256) dX1_note_20 (by decide) ?_
  refine E.iload_n 2 dX1_note_23 rfl ?_
  refine E.iadd dX1_note_24 ?_
  refine E.aload_n 0 dX1_note_25 rfl ?_
  refine E.get hw 0 42 dX1_note_26 flX1_27 rfl rfl rfl rfl ?_
  refine E.sipush (v := 256) dX1_note_29 (by decide) ?_
  refine E.iload_n 2 dX1_note_32 rfl ?_
  refine E.iadd dX1_note_33 ?_
  obtain ⟨g3, hf⟩ := gd_some hf
  refine E.lald hw 1 48 dX1_note_34 rfl rfl g3 ?_
  refine E.lload_n 3 dX1_note_35 rfl ?_
  refine E.mmax_long dX1_note_36 mmX1_187 ⟨Nat.le_of_ble_eq_true rfl, Nat.le_of_ble_eq_true rfl⟩ ⟨Nat.le_refl _, Nat.le_refl _⟩ ?_
  obtain ⟨g4, hf⟩ := gd_some hf
  refine E.last (es' := (wW53 G b v42_beasts v42_seats v42_seated v42_quota v42_known v42_surveyed v42_steadyBench v42_steadyWays v42_steadySwing (va_up (va_up a48 (x1 : Int32).toNatClampNeg (if (x3 : Int64) < (a48 (x1 : Int32).toNatClampNeg) then x3 else (a48 (x1 : Int32).toNatClampNeg))) ((256 + x2) : Int32).toNatClampNeg (if (x3 : Int64) < ((va_up a48 (x1 : Int32).toNatClampNeg (if (x3 : Int64) < (a48 (x1 : Int32).toNatClampNeg) then x3 else (a48 (x1 : Int32).toNatClampNeg))) ((256 + x2) : Int32).toNatClampNeg) then ((va_up a48 (x1 : Int32).toNatClampNeg (if (x3 : Int64) < (a48 (x1 : Int32).toNatClampNeg) then x3 else (a48 (x1 : Int32).toNatClampNeg))) ((256 + x2) : Int32).toNatClampNeg) else x3)))) hw 1 48 dX1_note_39 rfl rfl g4 rfl ?_
  cases hf
  exact E.vret dX1_note_40 (Nat.le_refl _) (Nat.le_refl _) (pD_rf _ _ _)
set_option maxRecDepth 100000 in
theorem mX1_note {G : GT} {b : Nat} {c0 : Hp} {n : Nat} (hw : e_wf (kW53) n) {v42_beasts : Int32} {v42_seats : Int32} {v42_seated : Int32} {v42_quota : Int32} {v42_known : Int32} {v42_surveyed : Int32} {v42_steadyBench : Int32} {v42_steadyWays : Int32} {v42_steadySwing : Int64} {a48 : Nat → Int64} {x1 : Int32} {x2 : Int32} {x3 : Int64} {R : (Nat → Int64)} (hf : fX1_note a48 x1 x2 x3 = some R) : e_C G b yX1_note cX1_note 5 none 1 0 0 [.ref (b + 42), .int x1, .int x2, .long x3] (e_ov (kW53) (wW53 G b v42_beasts v42_seats v42_seated v42_quota v42_known v42_surveyed v42_steadyBench v42_steadyWays v42_steadySwing a48) c0) n (pD none (e_ov (kW53) (wW53 G b v42_beasts v42_seats v42_seated v42_quota v42_known v42_surveyed v42_steadyBench v42_steadyWays v42_steadySwing R) c0) n) := e_C.of (by decide) (Nat.le_of_ble_eq_true rfl) (tX1_note hw hf)
abbrev kW54 : List Nat := [42, 43, 44, 46, 47, 48, 49, 50, 65, 66]
abbrev wW54 (G : GT) (b  : Nat) (v42_beasts : Int32) (v42_seats : Int32) (v42_seated : Int32) (v42_quota : Int32) (v42_known : Int32) (v42_surveyed : Int32) (v42_steadyBench : Int32) (v42_steadyWays : Int32) (v42_steadySwing : Int64) (a43 : Nat → Int32) (a44 : Nat → Int32) (a46 : Nat → Int32) (a47 : Nat → Int32) (a48 : Nat → Int64) (a49 : Nat → Int32) (v65_voters : Int32) (a66 : Nat → Int64) : List va_E := [.inr (1, [.ref (b + 43), .ref (b + 44), .ref (b + 45), .ref (b + 46), .ref (b + 47), .ref (b + 48), .ref (b + 49), .ref (b + 50), .ref (b + 67), .int v42_beasts, .int v42_seats, .int v42_seated, .int v42_quota, .int v42_known, .int v42_surveyed, .int v42_steadyBench, .int v42_steadyWays, .long v42_steadySwing]), aI G 32 a43, aI G 8 a44, aI G 512 a46, aI G 2 a47, aJ G 512 a48, aI G 8 a49, aQ G 5 8 (e_tlQ b), .inr (8, [.ref (b + 66), .int v65_voters]), aJ G 9 a66]
def fX1_pairFrom_p7_L91 (Fu : Nat) : Nat → Int32 → Int32 → (Nat → Int32) → (Nat → Int32) → (Nat → Int32) → (Nat → Int32) → (Nat → Int64) → (Nat → Int32) → Int32 → (Nat → Int64) → Int32 → Int32 → Int32 → Int32 → Int64 → Int64 → Int32 → Option ((Nat → Int64))
  | 0, _, _, _, _, _, _, _, _, _, _, _, _, _, _, _, _, _ => none
  | k + 1, v42_seated, v42_quota, a43, a44, a46, a47, a48, a49, v65_voters, a66, x2, x3, x4, x5, x6, x8, x10 => if (3 : Int32) < (x10 : Int32) then (some (a48)) else ((fX1_affords a46 a47 0 (x2 ||| (((x10 &&& 1) : Int32) <<< ((x4 : Int32) &&& 31)))).bind fun r4 => (if (r4 : Int32) = (0 : Int32) then ((fX1_pairFrom_p7_L91 Fu k) v42_seated v42_quota a43 a44 a46 a47 a48 a49 v65_voters a66 x2 x3 x4 x5 x6 x8 (x10 + 1)) else ((fX1_affords a46 a47 1 (x3 ||| ((((x10 : Int32) >>> ((1 : Int32) &&& 31)) : Int32) <<< ((x4 : Int32) &&& 31)))).bind fun r5 => (if (r5 : Int32) = (0 : Int32) then ((fX1_pairFrom_p7_L91 Fu k) v42_seated v42_quota a43 a44 a46 a47 a48 a49 v65_voters a66 x2 x3 x4 x5 x6 x8 (x10 + 1)) else ((fX1_chanceWith a43 a44 x4 x10).bind fun r6 => (if (x5 : Int32) = (0 : Int32) then (none) else ((fX1_note a48 (x2 ||| (((x10 &&& 1) : Int32) <<< ((x4 : Int32) &&& 31))) (x3 ||| ((((x10 : Int32) >>> ((1 : Int32) &&& 31)) : Int32) <<< ((x4 : Int32) &&& 31))) (x6 + (x8 * ((r6 : Int32).toInt64)))).bind fun r7 => ((fX1_pairFrom_p7_L91 Fu k) v42_seated v42_quota a43 a44 a46 a47 r7 a49 v65_voters a66 x2 x3 x4 x5 x6 x8 (x10 + 1)))))))))
set_option maxHeartbeats 4000000 in
set_option maxRecDepth 100000 in
theorem tX1_pairFrom_p7_L91 {G : GT} {b : Nat} {c0 : Hp} {n : Nat} (hw : e_wf (kW54) n) {v42_beasts : Int32} {v42_seats : Int32} {v42_known : Int32} {v42_surveyed : Int32} {v42_steadyBench : Int32} {v42_steadyWays : Int32} {v42_steadySwing : Int64} {Fu : Nat} : ∀ (k : Nat) {v42_seated : Int32} {v42_quota : Int32} {a43 : Nat → Int32} {a44 : Nat → Int32} {a46 : Nat → Int32} {a47 : Nat → Int32} {a48 : Nat → Int64} {a49 : Nat → Int32} {v65_voters : Int32} {a66 : Nat → Int64} {x2 : Int32} {x3 : Int32} {x4 : Int32} {x5 : Int32} {x6 : Int64} {x8 : Int64} {x10 : Int32} {R : (Nat → Int64)}, fX1_pairFrom_p7_L91 Fu k v42_seated v42_quota a43 a44 a46 a47 a48 a49 v65_voters a66 x2 x3 x4 x5 x6 x8 x10 = some R → E G b yX1_pairFrom cX1_pairFrom 14 none (e_rm 2 0 0) e_X0 (e_Z G b (pD none (e_ov (kW54) (wW54 G b v42_beasts v42_seats v42_seated v42_quota v42_known v42_surveyed v42_steadyBench v42_steadyWays v42_steadySwing a43 a44 a46 a47 R a49 v65_voters a66) c0) n) 0 0) 91 [(0, .ref (b + 42)), (1, .int 7), (2, .int x2), (3, .int x3), (4, .int x4), (5, .int x5), (6, .long x6), (8, .long x8), (10, .int x10)] [] (e_ov (kW54) (wW54 G b v42_beasts v42_seats v42_seated v42_quota v42_known v42_surveyed v42_steadyBench v42_steadyWays v42_steadySwing a43 a44 a46 a47 a48 a49 v65_voters a66) c0) n 0 0 := by
  intro k
  induction k with
  | zero =>
    intro _ _ _ _ _ _ _ _ _ _ _ _ _ _ _ _ _ _ hf
    have hf : (none : Option ((Nat → Int64))) = some _ := hf
    cases hf
  | succ k ih =>
    intro v42_seated v42_quota a43 a44 a46 a47 a48 a49 v65_voters a66 x2 x3 x4 x5 x6 x8 x10 R hf
    rw [fX1_pairFrom_p7_L91] at hf
    refine E.iload 8 dX1_pairFrom_91 rfl ?_
    refine E.iconst (v := 3) dX1_pairFrom_93 (by decide) ?_
    refine E.icmp_gt dX1_pairFrom_94 (fun h => ?_) (fun h => ?_)
    · have hf := e_ift hf h
      cases hf
      exact E.vret dX1_pairFrom_210 (Nat.le_refl _) (Nat.le_refl _) (pD_rf _ _ _)
    · have hf := e_iff hf h
      refine E.iload_n 2 dX1_pairFrom_97 rfl ?_
      refine E.iload 8 dX1_pairFrom_98 rfl ?_
      refine E.iconst (v := 1) dX1_pairFrom_100 (by decide) ?_
      refine E.iand dX1_pairFrom_101 ?_
      refine E.iload 4 dX1_pairFrom_102 rfl ?_
      refine E.ishl dX1_pairFrom_104 ?_
      refine E.ior dX1_pairFrom_105 ?_
      refine E.istore (lv' := [(11, .int (x2 ||| (((x10 &&& 1) : Int32) <<< ((x4 : Int32) &&& 31)))), (0, .ref (b + 42)), (1, .int 7), (2, .int x2), (3, .int x3), (4, .int x4), (5, .int x5), (6, .long x6), (8, .long x8), (10, .int x10)]) dX1_pairFrom_106 (by decide) rfl ?_
      refine E.iload_n 4 dX1_pairFrom_108 rfl ?_
      refine E.iload 9 dX1_pairFrom_109 rfl ?_
      refine E.iconst (v := 1) dX1_pairFrom_111 (by decide) ?_
      refine E.ishr dX1_pairFrom_112 ?_
      refine E.iload 5 dX1_pairFrom_113 rfl ?_
      refine E.ishl dX1_pairFrom_115 ?_
      refine E.ior dX1_pairFrom_116 ?_
      refine E.istore (lv' := [(12, .int (x3 ||| ((((x10 : Int32) >>> ((1 : Int32) &&& 31)) : Int32) <<< ((x4 : Int32) &&& 31)))), (11, .int (x2 ||| (((x10 &&& 1) : Int32) <<< ((x4 : Int32) &&& 31)))), (0, .ref (b + 42)), (1, .int 7), (2, .int x2), (3, .int x3), (4, .int x4), (5, .int x5), (6, .long x6), (8, .long x8), (10, .int x10)]) dX1_pairFrom_117 (by decide) rfl ?_
      refine E.aload_n 2 dX1_pairFrom_119 rfl ?_
      refine E.iconst (v := 0) dX1_pairFrom_120 (by decide) ?_
      refine E.iload 1 dX1_pairFrom_121 rfl ?_
      obtain ⟨r4, hc4, hf⟩ := e_bind hf
      refine E.callVDs (es' := (wW54 G b v42_beasts v42_seats v42_seated v42_quota v42_known v42_surveyed v42_steadyBench v42_steadyWays v42_steadySwing a43 a44 a46 a47 a48 a49 v65_voters a66)) [] [0, 3, 4] 0 42 dX1_pairFrom_123 mlX1_103 hw rfl rfl rfl rfl (mX1_affords (hw.pick2 [0, 3, 4] rfl (by decide)) hc4) rfl rfl rfl rfl ⟨Nat.le_of_ble_eq_true rfl, Nat.le_of_ble_eq_true rfl⟩ rfl rfl (Nat.le_of_ble_eq_true rfl) ⟨Nat.le_refl _, Nat.le_refl _⟩ rfl ?_
      refine E.if_eq dX1_pairFrom_126 (fun h => ?_) (fun h => ?_)
      · have hf := e_ift hf h
        refine E.iinc (q := 10) (v := (x10 + 1)) (lv' := [(10, .int (x10 + 1)), (12, .int (x3 ||| ((((x10 : Int32) >>> ((1 : Int32) &&& 31)) : Int32) <<< ((x4 : Int32) &&& 31)))), (11, .int (x2 ||| (((x10 &&& 1) : Int32) <<< ((x4 : Int32) &&& 31)))), (0, .ref (b + 42)), (1, .int 7), (2, .int x2), (3, .int x3), (4, .int x4), (5, .int x5), (6, .long x6), (8, .long x8)]) dX1_pairFrom_204 rfl rfl (by decide) rfl ?_
        refine E.goto dX1_pairFrom_207 ?_
        refine E.locals [3, 4, 5, 6, 7, 8, 9, 10, 0] rfl ?_
        exact ih hf
      · have hf := e_iff hf h
        refine E.aload_n 2 dX1_pairFrom_129 rfl ?_
        refine E.iconst (v := 1) dX1_pairFrom_130 (by decide) ?_
        refine E.iload 0 dX1_pairFrom_131 rfl ?_
        obtain ⟨r5, hc5, hf⟩ := e_bind hf
        refine E.callVDs (es' := (wW54 G b v42_beasts v42_seats v42_seated v42_quota v42_known v42_surveyed v42_steadyBench v42_steadyWays v42_steadySwing a43 a44 a46 a47 a48 a49 v65_voters a66)) [] [0, 3, 4] 0 42 dX1_pairFrom_133 mlX1_103 hw rfl rfl rfl rfl (mX1_affords (hw.pick2 [0, 3, 4] rfl (by decide)) hc5) rfl rfl rfl rfl ⟨Nat.le_of_ble_eq_true rfl, Nat.le_of_ble_eq_true rfl⟩ rfl rfl (Nat.le_of_ble_eq_true rfl) ⟨Nat.le_refl _, Nat.le_refl _⟩ rfl ?_
        refine E.if_eq dX1_pairFrom_136 (fun h => ?_) (fun h => ?_)
        · have hf := e_ift hf h
          refine E.iinc (q := 10) (v := (x10 + 1)) (lv' := [(10, .int (x10 + 1)), (12, .int (x3 ||| ((((x10 : Int32) >>> ((1 : Int32) &&& 31)) : Int32) <<< ((x4 : Int32) &&& 31)))), (11, .int (x2 ||| (((x10 &&& 1) : Int32) <<< ((x4 : Int32) &&& 31)))), (0, .ref (b + 42)), (1, .int 7), (2, .int x2), (3, .int x3), (4, .int x4), (5, .int x5), (6, .long x6), (8, .long x8)]) dX1_pairFrom_204 rfl rfl (by decide) rfl ?_
          refine E.goto dX1_pairFrom_207 ?_
          refine E.locals [3, 4, 5, 6, 7, 8, 9, 10, 0] rfl ?_
          exact ih hf
        · have hf := e_iff hf h
          refine E.aload_n 2 dX1_pairFrom_139 rfl ?_
          refine E.iload 6 dX1_pairFrom_140 rfl ?_
          refine E.iload 10 dX1_pairFrom_142 rfl ?_
          obtain ⟨r6, hc6, hf⟩ := e_bind hf
          refine E.callVDs (es' := (wW54 G b v42_beasts v42_seats v42_seated v42_quota v42_known v42_surveyed v42_steadyBench v42_steadyWays v42_steadySwing a43 a44 a46 a47 a48 a49 v65_voters a66)) [] [0, 1, 2] 0 42 dX1_pairFrom_144 mlX1_114 hw rfl rfl rfl rfl (mX1_chanceWith (hw.pick2 [0, 1, 2] rfl (by decide)) hc6) rfl rfl rfl rfl ⟨Nat.le_of_ble_eq_true rfl, Nat.le_of_ble_eq_true rfl⟩ rfl rfl (Nat.le_of_ble_eq_true rfl) ⟨Nat.le_refl _, Nat.le_refl _⟩ rfl ?_
          refine E.istore (lv' := [(13, .int r6), (12, .int (x3 ||| ((((x10 : Int32) >>> ((1 : Int32) &&& 31)) : Int32) <<< ((x4 : Int32) &&& 31)))), (11, .int (x2 ||| (((x10 &&& 1) : Int32) <<< ((x4 : Int32) &&& 31)))), (0, .ref (b + 42)), (1, .int 7), (2, .int x2), (3, .int x3), (4, .int x4), (5, .int x5), (6, .long x6), (8, .long x8), (10, .int x10)]) dX1_pairFrom_147 (by decide) rfl ?_
          refine E.iload 8 dX1_pairFrom_149 rfl ?_
          refine E.if_eq dX1_pairFrom_151 (fun h => ?_) (fun h => ?_)
          · have hf := e_ift hf h
            refine E.aload_n 3 dX1_pairFrom_174 rfl ?_
            refine E.get hw 0 42 dX1_pairFrom_175 flX1_36 rfl rfl rfl rfl ?_
            refine E.iload_n 4 dX1_pairFrom_178 rfl ?_
            refine E.iconst (v := 1) dX1_pairFrom_179 (by decide) ?_
            refine E.iadd dX1_pairFrom_180 ?_
            refine E.fold (v := 8) (by decide) ?_
            cases hf
          · have hf := e_iff hf h
            refine E.aload_n 3 dX1_pairFrom_154 rfl ?_
            refine E.iload 2 dX1_pairFrom_155 rfl ?_
            refine E.iload 1 dX1_pairFrom_157 rfl ?_
            refine E.lload 9 dX1_pairFrom_159 rfl ?_
            refine E.lload 10 dX1_pairFrom_161 rfl ?_
            refine E.iload 0 dX1_pairFrom_163 rfl ?_
            refine E.i2l dX1_pairFrom_165 ?_
            refine E.lmul dX1_pairFrom_166 ?_
            refine E.ladd dX1_pairFrom_167 ?_
            obtain ⟨r7, hc7, hf⟩ := e_bind hf
            refine E.callVDs (es' := (wW54 G b v42_beasts v42_seats v42_seated v42_quota v42_known v42_surveyed v42_steadyBench v42_steadyWays v42_steadySwing a43 a44 a46 a47 r7 a49 v65_voters a66)) [] [0, 5] 0 42 dX1_pairFrom_168 mlX1_164 hw rfl rfl rfl rfl (mX1_note (hw.pick2 [0, 5] rfl (by decide)) hc7) rfl rfl rfl rfl ⟨Nat.le_of_ble_eq_true rfl, Nat.le_of_ble_eq_true rfl⟩ rfl rfl (Nat.le_of_ble_eq_true rfl) ⟨Nat.le_refl _, Nat.le_refl _⟩ rfl ?_
            refine E.goto dX1_pairFrom_171 ?_
            refine E.iinc (q := 11) (v := (x10 + 1)) (lv' := [(10, .int (x10 + 1)), (13, .int r6), (12, .int (x3 ||| ((((x10 : Int32) >>> ((1 : Int32) &&& 31)) : Int32) <<< ((x4 : Int32) &&& 31)))), (11, .int (x2 ||| (((x10 &&& 1) : Int32) <<< ((x4 : Int32) &&& 31)))), (0, .ref (b + 42)), (1, .int 7), (2, .int x2), (3, .int x3), (4, .int x4), (5, .int x5), (6, .long x6), (8, .long x8)]) dX1_pairFrom_204 rfl rfl (by decide) rfl ?_
            refine E.goto dX1_pairFrom_207 ?_
            refine E.locals [4, 5, 6, 7, 8, 9, 10, 11, 0] rfl ?_
            exact ih hf
def fX1_pairFrom_p7_L86 (Fu : Nat) (v42_seated : Int32) (v42_quota : Int32) (a43 : Nat → Int32) (a44 : Nat → Int32) (a46 : Nat → Int32) (a47 : Nat → Int32) (a48 : Nat → Int64) (a49 : Nat → Int32) (v65_voters : Int32) (a66 : Nat → Int64) (x2 : Int32) (x3 : Int32) (x4 : Int32) (x5 : Int32) (x6 : Int64) (s0 : Int64) : Option ((Nat → Int64)) := fX1_pairFrom_p7_L91 Fu Fu v42_seated v42_quota a43 a44 a46 a47 a48 a49 v65_voters a66 x2 x3 x4 x5 x6 s0 0
set_option maxHeartbeats 4000000 in
set_option maxRecDepth 100000 in
theorem tX1_pairFrom_p7_L86 {G : GT} {b : Nat} {c0 : Hp} {n : Nat} (hw : e_wf (kW54) n) {v42_beasts : Int32} {v42_seats : Int32} {v42_known : Int32} {v42_surveyed : Int32} {v42_steadyBench : Int32} {v42_steadyWays : Int32} {v42_steadySwing : Int64} {Fu : Nat} {v42_seated : Int32} {v42_quota : Int32} {a43 : Nat → Int32} {a44 : Nat → Int32} {a46 : Nat → Int32} {a47 : Nat → Int32} {a48 : Nat → Int64} {a49 : Nat → Int32} {v65_voters : Int32} {a66 : Nat → Int64} {x2 : Int32} {x3 : Int32} {x4 : Int32} {x5 : Int32} {x6 : Int64} {s0 : Int64} {R : (Nat → Int64)} (hf : fX1_pairFrom_p7_L86 Fu v42_seated v42_quota a43 a44 a46 a47 a48 a49 v65_voters a66 x2 x3 x4 x5 x6 s0 = some R) : E G b yX1_pairFrom cX1_pairFrom 14 none (e_rm 2 0 0) e_X0 (e_Z G b (pD none (e_ov (kW54) (wW54 G b v42_beasts v42_seats v42_seated v42_quota v42_known v42_surveyed v42_steadyBench v42_steadyWays v42_steadySwing a43 a44 a46 a47 R a49 v65_voters a66) c0) n) 0 0) 86 [(0, .ref (b + 42)), (1, .int 7), (2, .int x2), (3, .int x3), (4, .int x4), (5, .int x5), (6, .long x6)] [.long s0] (e_ov (kW54) (wW54 G b v42_beasts v42_seats v42_seated v42_quota v42_known v42_surveyed v42_steadyBench v42_steadyWays v42_steadySwing a43 a44 a46 a47 a48 a49 v65_voters a66) c0) n 0 0 := by
  unfold fX1_pairFrom_p7_L86 at hf
  refine E.lstore (lv' := [(8, .long s0), (0, .ref (b + 42)), (1, .int 7), (2, .int x2), (3, .int x3), (4, .int x4), (5, .int x5), (6, .long x6)]) dX1_pairFrom_86 (by decide) rfl ?_
  refine E.iconst (v := 0) dX1_pairFrom_88 (by decide) ?_
  refine E.istore (lv' := [(10, .int 0), (8, .long s0), (0, .ref (b + 42)), (1, .int 7), (2, .int x2), (3, .int x3), (4, .int x4), (5, .int x5), (6, .long x6)]) dX1_pairFrom_89 (by decide) rfl ?_
  refine E.locals [2, 3, 4, 5, 6, 7, 8, 1, 0] rfl ?_
  exact tX1_pairFrom_p7_L91 hw _ hf
def fX1_pairFrom_p7_L60 (Fu : Nat) (v42_seated : Int32) (v42_quota : Int32) (a43 : Nat → Int32) (a44 : Nat → Int32) (a46 : Nat → Int32) (a47 : Nat → Int32) (a48 : Nat → Int64) (a49 : Nat → Int32) (v65_voters : Int32) (a66 : Nat → Int64) (x2 : Int32) (x3 : Int32) (x4 : Int32) (x5 : Int32) (s0 : Int64) : Option ((Nat → Int64)) := if (x5 : Int32) = (0 : Int32) then (fX1_pairFrom_p7_L86 Fu v42_seated v42_quota a43 a44 a46 a47 a48 a49 v65_voters a66 x2 x3 x4 x5 s0 0) else ((fX8_just v65_voters a66 (v42_quota - 1)).bind fun r3 => (fX1_pairFrom_p7_L86 Fu v42_seated v42_quota a43 a44 a46 a47 a48 a49 v65_voters a66 x2 x3 x4 x5 s0 r3))
set_option maxHeartbeats 4000000 in
set_option maxRecDepth 100000 in
theorem tX1_pairFrom_p7_L60 {G : GT} {b : Nat} {c0 : Hp} {n : Nat} (hw : e_wf (kW54) n) {v42_beasts : Int32} {v42_seats : Int32} {v42_known : Int32} {v42_surveyed : Int32} {v42_steadyBench : Int32} {v42_steadyWays : Int32} {v42_steadySwing : Int64} {Fu : Nat} {v42_seated : Int32} {v42_quota : Int32} {a43 : Nat → Int32} {a44 : Nat → Int32} {a46 : Nat → Int32} {a47 : Nat → Int32} {a48 : Nat → Int64} {a49 : Nat → Int32} {v65_voters : Int32} {a66 : Nat → Int64} {x2 : Int32} {x3 : Int32} {x4 : Int32} {x5 : Int32} {s0 : Int64} {R : (Nat → Int64)} (hf : fX1_pairFrom_p7_L60 Fu v42_seated v42_quota a43 a44 a46 a47 a48 a49 v65_voters a66 x2 x3 x4 x5 s0 = some R) : E G b yX1_pairFrom cX1_pairFrom 14 none (e_rm 2 0 0) e_X0 (e_Z G b (pD none (e_ov (kW54) (wW54 G b v42_beasts v42_seats v42_seated v42_quota v42_known v42_surveyed v42_steadyBench v42_steadyWays v42_steadySwing a43 a44 a46 a47 R a49 v65_voters a66) c0) n) 0 0) 60 [(0, .ref (b + 42)), (1, .int 7), (2, .int x2), (3, .int x3), (4, .int x4), (5, .int x5)] [.long s0] (e_ov (kW54) (wW54 G b v42_beasts v42_seats v42_seated v42_quota v42_known v42_surveyed v42_steadyBench v42_steadyWays v42_steadySwing a43 a44 a46 a47 a48 a49 v65_voters a66) c0) n 0 0 := by
  unfold fX1_pairFrom_p7_L60 at hf
  refine E.lstore (lv' := [(6, .long s0), (0, .ref (b + 42)), (1, .int 7), (2, .int x2), (3, .int x3), (4, .int x4), (5, .int x5)]) dX1_pairFrom_60 (by decide) rfl ?_
  refine E.iload 6 dX1_pairFrom_62 rfl ?_
  refine E.if_eq dX1_pairFrom_64 (fun h => ?_) (fun h => ?_)
  · have hf := e_ift hf h
    refine E.lconst (v := 0) dX1_pairFrom_85 (by decide) ?_
    refine E.locals [1, 2, 3, 4, 5, 6, 0] rfl ?_
    exact tX1_pairFrom_p7_L86 hw hf
  · have hf := e_iff hf h
    refine E.aload_n 1 dX1_pairFrom_67 rfl ?_
    refine E.get hw 0 42 dX1_pairFrom_68 flX1_36 rfl rfl rfl rfl ?_
    refine E.iload_n 2 dX1_pairFrom_71 rfl ?_
    refine E.aaldL hw 7 50 7 dX1_pairFrom_72 rfl rfl rfl (by unfold vp_in; decide) (by decide) rfl ?_
    refine E.aload_n 1 dX1_pairFrom_73 rfl ?_
    refine E.get hw 0 42 dX1_pairFrom_74 flX1_66 rfl rfl rfl rfl ?_
    refine E.iconst (v := 1) dX1_pairFrom_77 (by decide) ?_
    refine E.isub dX1_pairFrom_78 ?_
    obtain ⟨r3, hc3, hf⟩ := e_bind hf
    refine E.callVDs (es' := (wW54 G b v42_beasts v42_seats v42_seated v42_quota v42_known v42_surveyed v42_steadyBench v42_steadyWays v42_steadySwing a43 a44 a46 a47 a48 a49 v65_voters a66)) [] [8, 9] 8 65 dX1_pairFrom_79 mlX1_174 hw rfl rfl rfl rfl (mX8_just (hw.pick2 [8, 9] rfl (by decide)) hc3) rfl rfl rfl rfl ⟨Nat.le_of_ble_eq_true rfl, Nat.le_of_ble_eq_true rfl⟩ rfl rfl (Nat.le_of_ble_eq_true rfl) ⟨Nat.le_refl _, Nat.le_refl _⟩ rfl ?_
    refine E.goto dX1_pairFrom_82 ?_
    refine E.locals [1, 2, 3, 4, 5, 6, 0] rfl ?_
    exact tX1_pairFrom_p7_L86 hw hf
def fX1_pairFrom_p7_L32 (Fu : Nat) (v42_seated : Int32) (v42_quota : Int32) (a43 : Nat → Int32) (a44 : Nat → Int32) (a46 : Nat → Int32) (a47 : Nat → Int32) (a48 : Nat → Int64) (a49 : Nat → Int32) (v65_voters : Int32) (a66 : Nat → Int64) (x2 : Int32) (x3 : Int32) (x4 : Int32) (s0 : Int32) : Option ((Nat → Int64)) := if (s0 : Int32) = (0 : Int32) then (fX1_pairFrom_p7_L60 Fu v42_seated v42_quota a43 a44 a46 a47 a48 a49 v65_voters a66 x2 x3 x4 s0 0) else ((fX8_atLeast Fu v65_voters a66 v42_quota).bind fun r2 => (fX1_pairFrom_p7_L60 Fu v42_seated v42_quota a43 a44 a46 a47 a48 a49 v65_voters a66 x2 x3 x4 s0 (r2 * 100)))
set_option maxHeartbeats 4000000 in
set_option maxRecDepth 100000 in
theorem tX1_pairFrom_p7_L32 {G : GT} {b : Nat} {c0 : Hp} {n : Nat} (hw : e_wf (kW54) n) {v42_beasts : Int32} {v42_seats : Int32} {v42_known : Int32} {v42_surveyed : Int32} {v42_steadyBench : Int32} {v42_steadyWays : Int32} {v42_steadySwing : Int64} {Fu : Nat} {v42_seated : Int32} {v42_quota : Int32} {a43 : Nat → Int32} {a44 : Nat → Int32} {a46 : Nat → Int32} {a47 : Nat → Int32} {a48 : Nat → Int64} {a49 : Nat → Int32} {v65_voters : Int32} {a66 : Nat → Int64} {x2 : Int32} {x3 : Int32} {x4 : Int32} {s0 : Int32} {R : (Nat → Int64)} (hf : fX1_pairFrom_p7_L32 Fu v42_seated v42_quota a43 a44 a46 a47 a48 a49 v65_voters a66 x2 x3 x4 s0 = some R) : E G b yX1_pairFrom cX1_pairFrom 14 none (e_rm 2 0 0) e_X0 (e_Z G b (pD none (e_ov (kW54) (wW54 G b v42_beasts v42_seats v42_seated v42_quota v42_known v42_surveyed v42_steadyBench v42_steadyWays v42_steadySwing a43 a44 a46 a47 R a49 v65_voters a66) c0) n) 0 0) 32 [(0, .ref (b + 42)), (1, .int 7), (2, .int x2), (3, .int x3), (4, .int x4)] [.int s0] (e_ov (kW54) (wW54 G b v42_beasts v42_seats v42_seated v42_quota v42_known v42_surveyed v42_steadyBench v42_steadyWays v42_steadySwing a43 a44 a46 a47 a48 a49 v65_voters a66) c0) n 0 0 := by
  unfold fX1_pairFrom_p7_L32 at hf
  refine E.istore (lv' := [(5, .int s0), (0, .ref (b + 42)), (1, .int 7), (2, .int x2), (3, .int x3), (4, .int x4)]) dX1_pairFrom_32 (by decide) rfl ?_
  refine E.iload 0 dX1_pairFrom_34 rfl ?_
  refine E.if_eq dX1_pairFrom_36 (fun h => ?_) (fun h => ?_)
  · have hf := e_ift hf h
    refine E.lconst (v := 0) dX1_pairFrom_59 (by decide) ?_
    refine E.locals [1, 2, 3, 4, 5, 0] rfl ?_
    exact tX1_pairFrom_p7_L60 hw hf
  · have hf := e_iff hf h
    refine E.aload_n 1 dX1_pairFrom_39 rfl ?_
    refine E.get hw 0 42 dX1_pairFrom_40 flX1_36 rfl rfl rfl rfl ?_
    refine E.iload_n 2 dX1_pairFrom_43 rfl ?_
    refine E.aaldL hw 7 50 7 dX1_pairFrom_44 rfl rfl rfl (by unfold vp_in; decide) (by decide) rfl ?_
    refine E.aload_n 1 dX1_pairFrom_45 rfl ?_
    refine E.get hw 0 42 dX1_pairFrom_46 flX1_66 rfl rfl rfl rfl ?_
    obtain ⟨r2, hc2, hf⟩ := e_bind hf
    refine E.callVDs (es' := (wW54 G b v42_beasts v42_seats v42_seated v42_quota v42_known v42_surveyed v42_steadyBench v42_steadyWays v42_steadySwing a43 a44 a46 a47 a48 a49 v65_voters a66)) [] [8, 9] 8 65 dX1_pairFrom_49 mlX1_120 hw rfl rfl rfl rfl (mX8_atLeast (hw.pick2 [8, 9] rfl (by decide)) hc2) rfl rfl rfl rfl ⟨Nat.le_of_ble_eq_true rfl, Nat.le_of_ble_eq_true rfl⟩ rfl rfl (Nat.le_of_ble_eq_true rfl) ⟨Nat.le_refl _, Nat.le_refl _⟩ rfl ?_
    refine E.ldc2 dX1_pairFrom_52 kX1_172 ?_
    refine E.lmul dX1_pairFrom_55 ?_
    refine E.goto dX1_pairFrom_56 ?_
    refine E.locals [1, 2, 3, 4, 5, 0] rfl ?_
    exact tX1_pairFrom_p7_L60 hw hf
def fX1_pairFrom_p7 (Fu : Nat) (v42_seated : Int32) (v42_quota : Int32) (a43 : Nat → Int32) (a44 : Nat → Int32) (a46 : Nat → Int32) (a47 : Nat → Int32) (a48 : Nat → Int64) (a49 : Nat → Int32) (v65_voters : Int32) (a66 : Nat → Int64) (x2 : Int32) (x3 : Int32) : Option ((Nat → Int64)) := if (7 : Int32) < (v42_seated : Int32) then (gd 7 8 (if (8 : Int32) < (v42_seated : Int32) then (fX1_pairFrom_p7_L32 Fu v42_seated v42_quota a43 a44 a46 a47 a48 a49 v65_voters a66 x2 x3 (a49 (7 : Int32).toNatClampNeg) 0) else (fX1_pairFrom_p7_L32 Fu v42_seated v42_quota a43 a44 a46 a47 a48 a49 v65_voters a66 x2 x3 (a49 (7 : Int32).toNatClampNeg) 1))) else (some (a48))
set_option maxHeartbeats 4000000 in
set_option maxRecDepth 100000 in
theorem tX1_pairFrom_p7 {G : GT} {b : Nat} {c0 : Hp} {n : Nat} (hw : e_wf (kW54) n) {v42_beasts : Int32} {v42_seats : Int32} {v42_known : Int32} {v42_surveyed : Int32} {v42_steadyBench : Int32} {v42_steadyWays : Int32} {v42_steadySwing : Int64} {Fu : Nat} {v42_seated : Int32} {v42_quota : Int32} {a43 : Nat → Int32} {a44 : Nat → Int32} {a46 : Nat → Int32} {a47 : Nat → Int32} {a48 : Nat → Int64} {a49 : Nat → Int32} {v65_voters : Int32} {a66 : Nat → Int64} {x2 : Int32} {x3 : Int32} {R : (Nat → Int64)} (hf : fX1_pairFrom_p7 Fu v42_seated v42_quota a43 a44 a46 a47 a48 a49 v65_voters a66 x2 x3 = some R) : E G b yX1_pairFrom cX1_pairFrom 14 none (e_rm 2 0 0) e_X0 (e_Z G b (pD none (e_ov (kW54) (wW54 G b v42_beasts v42_seats v42_seated v42_quota v42_known v42_surveyed v42_steadyBench v42_steadyWays v42_steadySwing a43 a44 a46 a47 R a49 v65_voters a66) c0) n) 0 0) 0 [(0, .ref (b + 42)), (1, .int 7), (2, .int x2), (3, .int x3)] [] (e_ov (kW54) (wW54 G b v42_beasts v42_seats v42_seated v42_quota v42_known v42_surveyed v42_steadyBench v42_steadyWays v42_steadySwing a43 a44 a46 a47 a48 a49 v65_voters a66) c0) n 0 0 := by
  unfold fX1_pairFrom_p7 at hf
  refine E.iload_n 1 dX1_pairFrom_0 rfl ?_
  refine E.aload_n 0 dX1_pairFrom_1 rfl ?_
  refine E.get hw 0 42 dX1_pairFrom_2 flX1_69 rfl rfl rfl rfl ?_
  refine E.icmp_lt dX1_pairFrom_5 (fun h => ?_) (fun h => ?_)
  · have hf := e_ift hf h
    refine E.aload_n 0 dX1_pairFrom_9 rfl ?_
    refine E.get hw 0 42 dX1_pairFrom_10 flX1_31 rfl rfl rfl rfl ?_
    refine E.iload_n 1 dX1_pairFrom_13 rfl ?_
    obtain ⟨g1, hf⟩ := gd_some hf
    refine E.iald hw 6 49 dX1_pairFrom_14 rfl rfl g1 ?_
    refine E.istore (lv' := [(4, .int (a49 (7 : Int32).toNatClampNeg)), (0, .ref (b + 42)), (1, .int 7), (2, .int x2), (3, .int x3)]) dX1_pairFrom_15 (by decide) rfl ?_
    refine E.iload_n 2 dX1_pairFrom_17 rfl ?_
    refine E.iconst (v := 1) dX1_pairFrom_18 (by decide) ?_
    refine E.iadd dX1_pairFrom_19 ?_
    refine E.fold (v := 8) (by decide) ?_
    refine E.aload_n 1 dX1_pairFrom_20 rfl ?_
    refine E.get hw 0 42 dX1_pairFrom_21 flX1_69 rfl rfl rfl rfl ?_
    refine E.icmp_lt dX1_pairFrom_24 (fun h => ?_) (fun h => ?_)
    · have hf := e_ift hf h
      refine E.iconst (v := 0) dX1_pairFrom_31 (by decide) ?_
      refine E.locals [1, 2, 3, 4, 0] rfl ?_
      exact tX1_pairFrom_p7_L32 hw hf
    · have hf := e_iff hf h
      refine E.iconst (v := 1) dX1_pairFrom_27 (by decide) ?_
      refine E.goto dX1_pairFrom_28 ?_
      refine E.locals [1, 2, 3, 4, 0] rfl ?_
      exact tX1_pairFrom_p7_L32 hw hf
  · have hf := e_iff hf h
    cases hf
    exact E.vret dX1_pairFrom_8 (Nat.le_refl _) (Nat.le_refl _) (pD_rf _ _ _)
set_option maxRecDepth 100000 in
theorem mX1_pairFrom_p7 {G : GT} {b : Nat} {c0 : Hp} {n : Nat} (hw : e_wf (kW54) n) {v42_beasts : Int32} {v42_seats : Int32} {v42_known : Int32} {v42_surveyed : Int32} {v42_steadyBench : Int32} {v42_steadyWays : Int32} {v42_steadySwing : Int64} {Fu : Nat} {v42_seated : Int32} {v42_quota : Int32} {a43 : Nat → Int32} {a44 : Nat → Int32} {a46 : Nat → Int32} {a47 : Nat → Int32} {a48 : Nat → Int64} {a49 : Nat → Int32} {v65_voters : Int32} {a66 : Nat → Int64} {x2 : Int32} {x3 : Int32} {R : (Nat → Int64)} (hf : fX1_pairFrom_p7 Fu v42_seated v42_quota a43 a44 a46 a47 a48 a49 v65_voters a66 x2 x3 = some R) : e_C G b yX1_pairFrom cX1_pairFrom 14 none 2 0 0 [.ref (b + 42), .int 7, .int x2, .int x3] (e_ov (kW54) (wW54 G b v42_beasts v42_seats v42_seated v42_quota v42_known v42_surveyed v42_steadyBench v42_steadyWays v42_steadySwing a43 a44 a46 a47 a48 a49 v65_voters a66) c0) n (pD none (e_ov (kW54) (wW54 G b v42_beasts v42_seats v42_seated v42_quota v42_known v42_surveyed v42_steadyBench v42_steadyWays v42_steadySwing a43 a44 a46 a47 R a49 v65_voters a66) c0) n) := e_C.of (by decide) (Nat.le_of_ble_eq_true rfl) (tX1_pairFrom_p7 hw hf)
abbrev kW55 : List Nat := [42, 43, 44, 46, 47, 48, 49, 50, 63, 64, 65, 66]
abbrev wW55 (G : GT) (b  : Nat) (v42_beasts : Int32) (v42_seats : Int32) (v42_seated : Int32) (v42_quota : Int32) (v42_known : Int32) (v42_surveyed : Int32) (v42_steadyBench : Int32) (v42_steadyWays : Int32) (v42_steadySwing : Int64) (a43 : Nat → Int32) (a44 : Nat → Int32) (a46 : Nat → Int32) (a47 : Nat → Int32) (a48 : Nat → Int64) (a49 : Nat → Int32) (v63_voters : Int32) (a64 : Nat → Int64) (v65_voters : Int32) (a66 : Nat → Int64) : List va_E := [.inr (1, [.ref (b + 43), .ref (b + 44), .ref (b + 45), .ref (b + 46), .ref (b + 47), .ref (b + 48), .ref (b + 49), .ref (b + 50), .ref (b + 67), .int v42_beasts, .int v42_seats, .int v42_seated, .int v42_quota, .int v42_known, .int v42_surveyed, .int v42_steadyBench, .int v42_steadyWays, .long v42_steadySwing]), aI G 32 a43, aI G 8 a44, aI G 512 a46, aI G 2 a47, aJ G 512 a48, aI G 8 a49, aQ G 5 8 (e_tlQ b), .inr (8, [.ref (b + 64), .int v63_voters]), aJ G 9 a64, .inr (8, [.ref (b + 66), .int v65_voters]), aJ G 9 a66]
def fX1_pairFrom_p6_L91 (Fu : Nat) : Nat → Int32 → Int32 → (Nat → Int32) → (Nat → Int32) → (Nat → Int32) → (Nat → Int32) → (Nat → Int64) → (Nat → Int32) → Int32 → (Nat → Int64) → Int32 → (Nat → Int64) → Int32 → Int32 → Int32 → Int32 → Int64 → Int64 → Int32 → Option ((Nat → Int64) × Int32 × (Nat → Int64))
  | 0, _, _, _, _, _, _, _, _, _, _, _, _, _, _, _, _, _, _, _ => none
  | k + 1, v42_seated, v42_quota, a43, a44, a46, a47, a48, a49, v63_voters, a64, v65_voters, a66, x2, x3, x4, x5, x6, x8, x10 => if (3 : Int32) < (x10 : Int32) then (some (a48, v65_voters, a66)) else ((fX1_affords a46 a47 0 (x2 ||| (((x10 &&& 1) : Int32) <<< ((x4 : Int32) &&& 31)))).bind fun r4 => (if (r4 : Int32) = (0 : Int32) then ((fX1_pairFrom_p6_L91 Fu k) v42_seated v42_quota a43 a44 a46 a47 a48 a49 v63_voters a64 v65_voters a66 x2 x3 x4 x5 x6 x8 (x10 + 1)) else ((fX1_affords a46 a47 1 (x3 ||| ((((x10 : Int32) >>> ((1 : Int32) &&& 31)) : Int32) <<< ((x4 : Int32) &&& 31)))).bind fun r5 => (if (r5 : Int32) = (0 : Int32) then ((fX1_pairFrom_p6_L91 Fu k) v42_seated v42_quota a43 a44 a46 a47 a48 a49 v63_voters a64 v65_voters a66 x2 x3 x4 x5 x6 x8 (x10 + 1)) else ((fX1_chanceWith a43 a44 x4 x10).bind fun r6 => (if (x5 : Int32) = (0 : Int32) then ((fX8_voteAfter Fu v65_voters a66 v63_voters a64 r6).bind fun r7 => ((fX1_pairFrom_p7 Fu v42_seated v42_quota a43 a44 a46 a47 a48 a49 r7.1 r7.2 (x2 ||| (((x10 &&& 1) : Int32) <<< ((x4 : Int32) &&& 31))) (x3 ||| ((((x10 : Int32) >>> ((1 : Int32) &&& 31)) : Int32) <<< ((x4 : Int32) &&& 31)))).bind fun r8 => ((fX1_pairFrom_p6_L91 Fu k) v42_seated v42_quota a43 a44 a46 a47 r8 a49 v63_voters a64 r7.1 r7.2 x2 x3 x4 x5 x6 x8 (x10 + 1)))) else ((fX1_note a48 (x2 ||| (((x10 &&& 1) : Int32) <<< ((x4 : Int32) &&& 31))) (x3 ||| ((((x10 : Int32) >>> ((1 : Int32) &&& 31)) : Int32) <<< ((x4 : Int32) &&& 31))) (x6 + (x8 * ((r6 : Int32).toInt64)))).bind fun r9 => ((fX1_pairFrom_p6_L91 Fu k) v42_seated v42_quota a43 a44 a46 a47 r9 a49 v63_voters a64 v65_voters a66 x2 x3 x4 x5 x6 x8 (x10 + 1)))))))))
set_option maxHeartbeats 4000000 in
set_option maxRecDepth 100000 in
theorem tX1_pairFrom_p6_L91 {G : GT} {b : Nat} {c0 : Hp} {n : Nat} (hw : e_wf (kW55) n) {v42_beasts : Int32} {v42_seats : Int32} {v42_known : Int32} {v42_surveyed : Int32} {v42_steadyBench : Int32} {v42_steadyWays : Int32} {v42_steadySwing : Int64} {Fu : Nat} : ∀ (k : Nat) {v42_seated : Int32} {v42_quota : Int32} {a43 : Nat → Int32} {a44 : Nat → Int32} {a46 : Nat → Int32} {a47 : Nat → Int32} {a48 : Nat → Int64} {a49 : Nat → Int32} {v63_voters : Int32} {a64 : Nat → Int64} {v65_voters : Int32} {a66 : Nat → Int64} {x2 : Int32} {x3 : Int32} {x4 : Int32} {x5 : Int32} {x6 : Int64} {x8 : Int64} {x10 : Int32} {R : (Nat → Int64) × Int32 × (Nat → Int64)}, fX1_pairFrom_p6_L91 Fu k v42_seated v42_quota a43 a44 a46 a47 a48 a49 v63_voters a64 v65_voters a66 x2 x3 x4 x5 x6 x8 x10 = some R → E G b yX1_pairFrom cX1_pairFrom 14 none (e_rm 3 0 0) e_X0 (e_Z G b (pD none (e_ov (kW55) (wW55 G b v42_beasts v42_seats v42_seated v42_quota v42_known v42_surveyed v42_steadyBench v42_steadyWays v42_steadySwing a43 a44 a46 a47 R.1 a49 v63_voters a64 R.2.1 R.2.2) c0) n) 0 0) 91 [(0, .ref (b + 42)), (1, .int 6), (2, .int x2), (3, .int x3), (4, .int x4), (5, .int x5), (6, .long x6), (8, .long x8), (10, .int x10)] [] (e_ov (kW55) (wW55 G b v42_beasts v42_seats v42_seated v42_quota v42_known v42_surveyed v42_steadyBench v42_steadyWays v42_steadySwing a43 a44 a46 a47 a48 a49 v63_voters a64 v65_voters a66) c0) n 0 0 := by
  intro k
  induction k with
  | zero =>
    intro _ _ _ _ _ _ _ _ _ _ _ _ _ _ _ _ _ _ _ _ hf
    have hf : (none : Option ((Nat → Int64) × Int32 × (Nat → Int64))) = some _ := hf
    cases hf
  | succ k ih =>
    intro v42_seated v42_quota a43 a44 a46 a47 a48 a49 v63_voters a64 v65_voters a66 x2 x3 x4 x5 x6 x8 x10 R hf
    rw [fX1_pairFrom_p6_L91] at hf
    refine E.iload 8 dX1_pairFrom_91 rfl ?_
    refine E.iconst (v := 3) dX1_pairFrom_93 (by decide) ?_
    refine E.icmp_gt dX1_pairFrom_94 (fun h => ?_) (fun h => ?_)
    · have hf := e_ift hf h
      cases hf
      exact E.vret dX1_pairFrom_210 (Nat.le_refl _) (Nat.le_refl _) (pD_rf _ _ _)
    · have hf := e_iff hf h
      refine E.iload_n 2 dX1_pairFrom_97 rfl ?_
      refine E.iload 8 dX1_pairFrom_98 rfl ?_
      refine E.iconst (v := 1) dX1_pairFrom_100 (by decide) ?_
      refine E.iand dX1_pairFrom_101 ?_
      refine E.iload 4 dX1_pairFrom_102 rfl ?_
      refine E.ishl dX1_pairFrom_104 ?_
      refine E.ior dX1_pairFrom_105 ?_
      refine E.istore (lv' := [(11, .int (x2 ||| (((x10 &&& 1) : Int32) <<< ((x4 : Int32) &&& 31)))), (0, .ref (b + 42)), (1, .int 6), (2, .int x2), (3, .int x3), (4, .int x4), (5, .int x5), (6, .long x6), (8, .long x8), (10, .int x10)]) dX1_pairFrom_106 (by decide) rfl ?_
      refine E.iload_n 4 dX1_pairFrom_108 rfl ?_
      refine E.iload 9 dX1_pairFrom_109 rfl ?_
      refine E.iconst (v := 1) dX1_pairFrom_111 (by decide) ?_
      refine E.ishr dX1_pairFrom_112 ?_
      refine E.iload 5 dX1_pairFrom_113 rfl ?_
      refine E.ishl dX1_pairFrom_115 ?_
      refine E.ior dX1_pairFrom_116 ?_
      refine E.istore (lv' := [(12, .int (x3 ||| ((((x10 : Int32) >>> ((1 : Int32) &&& 31)) : Int32) <<< ((x4 : Int32) &&& 31)))), (11, .int (x2 ||| (((x10 &&& 1) : Int32) <<< ((x4 : Int32) &&& 31)))), (0, .ref (b + 42)), (1, .int 6), (2, .int x2), (3, .int x3), (4, .int x4), (5, .int x5), (6, .long x6), (8, .long x8), (10, .int x10)]) dX1_pairFrom_117 (by decide) rfl ?_
      refine E.aload_n 2 dX1_pairFrom_119 rfl ?_
      refine E.iconst (v := 0) dX1_pairFrom_120 (by decide) ?_
      refine E.iload 1 dX1_pairFrom_121 rfl ?_
      obtain ⟨r4, hc4, hf⟩ := e_bind hf
      refine E.callVDs (es' := (wW55 G b v42_beasts v42_seats v42_seated v42_quota v42_known v42_surveyed v42_steadyBench v42_steadyWays v42_steadySwing a43 a44 a46 a47 a48 a49 v63_voters a64 v65_voters a66)) [] [0, 3, 4] 0 42 dX1_pairFrom_123 mlX1_103 hw rfl rfl rfl rfl (mX1_affords (hw.pick2 [0, 3, 4] rfl (by decide)) hc4) rfl rfl rfl rfl ⟨Nat.le_of_ble_eq_true rfl, Nat.le_of_ble_eq_true rfl⟩ rfl rfl (Nat.le_of_ble_eq_true rfl) ⟨Nat.le_refl _, Nat.le_refl _⟩ rfl ?_
      refine E.if_eq dX1_pairFrom_126 (fun h => ?_) (fun h => ?_)
      · have hf := e_ift hf h
        refine E.iinc (q := 10) (v := (x10 + 1)) (lv' := [(10, .int (x10 + 1)), (12, .int (x3 ||| ((((x10 : Int32) >>> ((1 : Int32) &&& 31)) : Int32) <<< ((x4 : Int32) &&& 31)))), (11, .int (x2 ||| (((x10 &&& 1) : Int32) <<< ((x4 : Int32) &&& 31)))), (0, .ref (b + 42)), (1, .int 6), (2, .int x2), (3, .int x3), (4, .int x4), (5, .int x5), (6, .long x6), (8, .long x8)]) dX1_pairFrom_204 rfl rfl (by decide) rfl ?_
        refine E.goto dX1_pairFrom_207 ?_
        refine E.locals [3, 4, 5, 6, 7, 8, 9, 10, 0] rfl ?_
        exact ih hf
      · have hf := e_iff hf h
        refine E.aload_n 2 dX1_pairFrom_129 rfl ?_
        refine E.iconst (v := 1) dX1_pairFrom_130 (by decide) ?_
        refine E.iload 0 dX1_pairFrom_131 rfl ?_
        obtain ⟨r5, hc5, hf⟩ := e_bind hf
        refine E.callVDs (es' := (wW55 G b v42_beasts v42_seats v42_seated v42_quota v42_known v42_surveyed v42_steadyBench v42_steadyWays v42_steadySwing a43 a44 a46 a47 a48 a49 v63_voters a64 v65_voters a66)) [] [0, 3, 4] 0 42 dX1_pairFrom_133 mlX1_103 hw rfl rfl rfl rfl (mX1_affords (hw.pick2 [0, 3, 4] rfl (by decide)) hc5) rfl rfl rfl rfl ⟨Nat.le_of_ble_eq_true rfl, Nat.le_of_ble_eq_true rfl⟩ rfl rfl (Nat.le_of_ble_eq_true rfl) ⟨Nat.le_refl _, Nat.le_refl _⟩ rfl ?_
        refine E.if_eq dX1_pairFrom_136 (fun h => ?_) (fun h => ?_)
        · have hf := e_ift hf h
          refine E.iinc (q := 10) (v := (x10 + 1)) (lv' := [(10, .int (x10 + 1)), (12, .int (x3 ||| ((((x10 : Int32) >>> ((1 : Int32) &&& 31)) : Int32) <<< ((x4 : Int32) &&& 31)))), (11, .int (x2 ||| (((x10 &&& 1) : Int32) <<< ((x4 : Int32) &&& 31)))), (0, .ref (b + 42)), (1, .int 6), (2, .int x2), (3, .int x3), (4, .int x4), (5, .int x5), (6, .long x6), (8, .long x8)]) dX1_pairFrom_204 rfl rfl (by decide) rfl ?_
          refine E.goto dX1_pairFrom_207 ?_
          refine E.locals [3, 4, 5, 6, 7, 8, 9, 10, 0] rfl ?_
          exact ih hf
        · have hf := e_iff hf h
          refine E.aload_n 2 dX1_pairFrom_139 rfl ?_
          refine E.iload 6 dX1_pairFrom_140 rfl ?_
          refine E.iload 10 dX1_pairFrom_142 rfl ?_
          obtain ⟨r6, hc6, hf⟩ := e_bind hf
          refine E.callVDs (es' := (wW55 G b v42_beasts v42_seats v42_seated v42_quota v42_known v42_surveyed v42_steadyBench v42_steadyWays v42_steadySwing a43 a44 a46 a47 a48 a49 v63_voters a64 v65_voters a66)) [] [0, 1, 2] 0 42 dX1_pairFrom_144 mlX1_114 hw rfl rfl rfl rfl (mX1_chanceWith (hw.pick2 [0, 1, 2] rfl (by decide)) hc6) rfl rfl rfl rfl ⟨Nat.le_of_ble_eq_true rfl, Nat.le_of_ble_eq_true rfl⟩ rfl rfl (Nat.le_of_ble_eq_true rfl) ⟨Nat.le_refl _, Nat.le_refl _⟩ rfl ?_
          refine E.istore (lv' := [(13, .int r6), (12, .int (x3 ||| ((((x10 : Int32) >>> ((1 : Int32) &&& 31)) : Int32) <<< ((x4 : Int32) &&& 31)))), (11, .int (x2 ||| (((x10 &&& 1) : Int32) <<< ((x4 : Int32) &&& 31)))), (0, .ref (b + 42)), (1, .int 6), (2, .int x2), (3, .int x3), (4, .int x4), (5, .int x5), (6, .long x6), (8, .long x8), (10, .int x10)]) dX1_pairFrom_147 (by decide) rfl ?_
          refine E.iload 8 dX1_pairFrom_149 rfl ?_
          refine E.if_eq dX1_pairFrom_151 (fun h => ?_) (fun h => ?_)
          · have hf := e_ift hf h
            refine E.aload_n 3 dX1_pairFrom_174 rfl ?_
            refine E.get hw 0 42 dX1_pairFrom_175 flX1_36 rfl rfl rfl rfl ?_
            refine E.iload_n 4 dX1_pairFrom_178 rfl ?_
            refine E.iconst (v := 1) dX1_pairFrom_179 (by decide) ?_
            refine E.iadd dX1_pairFrom_180 ?_
            refine E.fold (v := 7) (by decide) ?_
            refine E.aaldL hw 7 50 7 dX1_pairFrom_181 rfl rfl rfl (by unfold vp_in; decide) (by decide) rfl ?_
            refine E.aload_n 3 dX1_pairFrom_182 rfl ?_
            refine E.get hw 0 42 dX1_pairFrom_183 flX1_36 rfl rfl rfl rfl ?_
            refine E.iload_n 4 dX1_pairFrom_186 rfl ?_
            refine E.aaldL hw 7 50 6 dX1_pairFrom_187 rfl rfl rfl (by unfold vp_in; decide) (by decide) rfl ?_
            refine E.iload 0 dX1_pairFrom_188 rfl ?_
            obtain ⟨r7, hc7, hf⟩ := e_bind hf
            refine E.callVDs (es' := (wW55 G b v42_beasts v42_seats v42_seated v42_quota v42_known v42_surveyed v42_steadyBench v42_steadyWays v42_steadySwing a43 a44 a46 a47 a48 a49 v63_voters a64 r7.1 r7.2)) [] [10, 11, 8, 9] 10 65 dX1_pairFrom_190 mlX1_177 hw rfl rfl rfl rfl (mX8_voteAfter (hw.pick2 [10, 11, 8, 9] rfl (by decide)) hc7) rfl rfl rfl rfl ⟨Nat.le_of_ble_eq_true rfl, Nat.le_of_ble_eq_true rfl⟩ rfl rfl (Nat.le_of_ble_eq_true rfl) ⟨Nat.le_refl _, Nat.le_refl _⟩ rfl ?_
            refine E.aload_n 3 dX1_pairFrom_193 rfl ?_
            refine E.iload_n 4 dX1_pairFrom_194 rfl ?_
            refine E.iconst (v := 1) dX1_pairFrom_195 (by decide) ?_
            refine E.iadd dX1_pairFrom_196 ?_
            refine E.fold (v := 7) (by decide) ?_
            refine E.iload 2 dX1_pairFrom_197 rfl ?_
            refine E.iload 1 dX1_pairFrom_199 rfl ?_
            obtain ⟨r8, hc8, hf⟩ := e_bind hf
            refine E.callVDs (es' := (wW55 G b v42_beasts v42_seats v42_seated v42_quota v42_known v42_surveyed v42_steadyBench v42_steadyWays v42_steadySwing a43 a44 a46 a47 r8 a49 v63_voters a64 r7.1 r7.2)) [] [0, 1, 2, 3, 4, 5, 6, 7, 10, 11] 0 42 dX1_pairFrom_201 mlX1_168 hw rfl rfl rfl rfl (mX1_pairFrom_p7 (hw.pick2 [0, 1, 2, 3, 4, 5, 6, 7, 10, 11] rfl (by decide)) hc8) rfl rfl rfl rfl ⟨Nat.le_of_ble_eq_true rfl, Nat.le_of_ble_eq_true rfl⟩ rfl rfl (Nat.le_of_ble_eq_true rfl) ⟨Nat.le_refl _, Nat.le_refl _⟩ rfl ?_
            refine E.iinc (q := 11) (v := (x10 + 1)) (lv' := [(10, .int (x10 + 1)), (13, .int r6), (12, .int (x3 ||| ((((x10 : Int32) >>> ((1 : Int32) &&& 31)) : Int32) <<< ((x4 : Int32) &&& 31)))), (11, .int (x2 ||| (((x10 &&& 1) : Int32) <<< ((x4 : Int32) &&& 31)))), (0, .ref (b + 42)), (1, .int 6), (2, .int x2), (3, .int x3), (4, .int x4), (5, .int x5), (6, .long x6), (8, .long x8)]) dX1_pairFrom_204 rfl rfl (by decide) rfl ?_
            refine E.goto dX1_pairFrom_207 ?_
            refine E.locals [4, 5, 6, 7, 8, 9, 10, 11, 0] rfl ?_
            exact ih hf
          · have hf := e_iff hf h
            refine E.aload_n 3 dX1_pairFrom_154 rfl ?_
            refine E.iload 2 dX1_pairFrom_155 rfl ?_
            refine E.iload 1 dX1_pairFrom_157 rfl ?_
            refine E.lload 9 dX1_pairFrom_159 rfl ?_
            refine E.lload 10 dX1_pairFrom_161 rfl ?_
            refine E.iload 0 dX1_pairFrom_163 rfl ?_
            refine E.i2l dX1_pairFrom_165 ?_
            refine E.lmul dX1_pairFrom_166 ?_
            refine E.ladd dX1_pairFrom_167 ?_
            obtain ⟨r9, hc9, hf⟩ := e_bind hf
            refine E.callVDs (es' := (wW55 G b v42_beasts v42_seats v42_seated v42_quota v42_known v42_surveyed v42_steadyBench v42_steadyWays v42_steadySwing a43 a44 a46 a47 r9 a49 v63_voters a64 v65_voters a66)) [] [0, 5] 0 42 dX1_pairFrom_168 mlX1_164 hw rfl rfl rfl rfl (mX1_note (hw.pick2 [0, 5] rfl (by decide)) hc9) rfl rfl rfl rfl ⟨Nat.le_of_ble_eq_true rfl, Nat.le_of_ble_eq_true rfl⟩ rfl rfl (Nat.le_of_ble_eq_true rfl) ⟨Nat.le_refl _, Nat.le_refl _⟩ rfl ?_
            refine E.goto dX1_pairFrom_171 ?_
            refine E.iinc (q := 11) (v := (x10 + 1)) (lv' := [(10, .int (x10 + 1)), (13, .int r6), (12, .int (x3 ||| ((((x10 : Int32) >>> ((1 : Int32) &&& 31)) : Int32) <<< ((x4 : Int32) &&& 31)))), (11, .int (x2 ||| (((x10 &&& 1) : Int32) <<< ((x4 : Int32) &&& 31)))), (0, .ref (b + 42)), (1, .int 6), (2, .int x2), (3, .int x3), (4, .int x4), (5, .int x5), (6, .long x6), (8, .long x8)]) dX1_pairFrom_204 rfl rfl (by decide) rfl ?_
            refine E.goto dX1_pairFrom_207 ?_
            refine E.locals [4, 5, 6, 7, 8, 9, 10, 11, 0] rfl ?_
            exact ih hf
def fX1_pairFrom_p6_L86 (Fu : Nat) (v42_seated : Int32) (v42_quota : Int32) (a43 : Nat → Int32) (a44 : Nat → Int32) (a46 : Nat → Int32) (a47 : Nat → Int32) (a48 : Nat → Int64) (a49 : Nat → Int32) (v63_voters : Int32) (a64 : Nat → Int64) (v65_voters : Int32) (a66 : Nat → Int64) (x2 : Int32) (x3 : Int32) (x4 : Int32) (x5 : Int32) (x6 : Int64) (s0 : Int64) : Option ((Nat → Int64) × Int32 × (Nat → Int64)) := fX1_pairFrom_p6_L91 Fu Fu v42_seated v42_quota a43 a44 a46 a47 a48 a49 v63_voters a64 v65_voters a66 x2 x3 x4 x5 x6 s0 0
set_option maxHeartbeats 4000000 in
set_option maxRecDepth 100000 in
theorem tX1_pairFrom_p6_L86 {G : GT} {b : Nat} {c0 : Hp} {n : Nat} (hw : e_wf (kW55) n) {v42_beasts : Int32} {v42_seats : Int32} {v42_known : Int32} {v42_surveyed : Int32} {v42_steadyBench : Int32} {v42_steadyWays : Int32} {v42_steadySwing : Int64} {Fu : Nat} {v42_seated : Int32} {v42_quota : Int32} {a43 : Nat → Int32} {a44 : Nat → Int32} {a46 : Nat → Int32} {a47 : Nat → Int32} {a48 : Nat → Int64} {a49 : Nat → Int32} {v63_voters : Int32} {a64 : Nat → Int64} {v65_voters : Int32} {a66 : Nat → Int64} {x2 : Int32} {x3 : Int32} {x4 : Int32} {x5 : Int32} {x6 : Int64} {s0 : Int64} {R : (Nat → Int64) × Int32 × (Nat → Int64)} (hf : fX1_pairFrom_p6_L86 Fu v42_seated v42_quota a43 a44 a46 a47 a48 a49 v63_voters a64 v65_voters a66 x2 x3 x4 x5 x6 s0 = some R) : E G b yX1_pairFrom cX1_pairFrom 14 none (e_rm 3 0 0) e_X0 (e_Z G b (pD none (e_ov (kW55) (wW55 G b v42_beasts v42_seats v42_seated v42_quota v42_known v42_surveyed v42_steadyBench v42_steadyWays v42_steadySwing a43 a44 a46 a47 R.1 a49 v63_voters a64 R.2.1 R.2.2) c0) n) 0 0) 86 [(0, .ref (b + 42)), (1, .int 6), (2, .int x2), (3, .int x3), (4, .int x4), (5, .int x5), (6, .long x6)] [.long s0] (e_ov (kW55) (wW55 G b v42_beasts v42_seats v42_seated v42_quota v42_known v42_surveyed v42_steadyBench v42_steadyWays v42_steadySwing a43 a44 a46 a47 a48 a49 v63_voters a64 v65_voters a66) c0) n 0 0 := by
  unfold fX1_pairFrom_p6_L86 at hf
  refine E.lstore (lv' := [(8, .long s0), (0, .ref (b + 42)), (1, .int 6), (2, .int x2), (3, .int x3), (4, .int x4), (5, .int x5), (6, .long x6)]) dX1_pairFrom_86 (by decide) rfl ?_
  refine E.iconst (v := 0) dX1_pairFrom_88 (by decide) ?_
  refine E.istore (lv' := [(10, .int 0), (8, .long s0), (0, .ref (b + 42)), (1, .int 6), (2, .int x2), (3, .int x3), (4, .int x4), (5, .int x5), (6, .long x6)]) dX1_pairFrom_89 (by decide) rfl ?_
  refine E.locals [2, 3, 4, 5, 6, 7, 8, 1, 0] rfl ?_
  exact tX1_pairFrom_p6_L91 hw _ hf
def fX1_pairFrom_p6_L60 (Fu : Nat) (v42_seated : Int32) (v42_quota : Int32) (a43 : Nat → Int32) (a44 : Nat → Int32) (a46 : Nat → Int32) (a47 : Nat → Int32) (a48 : Nat → Int64) (a49 : Nat → Int32) (v63_voters : Int32) (a64 : Nat → Int64) (v65_voters : Int32) (a66 : Nat → Int64) (x2 : Int32) (x3 : Int32) (x4 : Int32) (x5 : Int32) (s0 : Int64) : Option ((Nat → Int64) × Int32 × (Nat → Int64)) := if (x5 : Int32) = (0 : Int32) then (fX1_pairFrom_p6_L86 Fu v42_seated v42_quota a43 a44 a46 a47 a48 a49 v63_voters a64 v65_voters a66 x2 x3 x4 x5 s0 0) else ((fX8_just v63_voters a64 (v42_quota - 1)).bind fun r3 => (fX1_pairFrom_p6_L86 Fu v42_seated v42_quota a43 a44 a46 a47 a48 a49 v63_voters a64 v65_voters a66 x2 x3 x4 x5 s0 r3))
set_option maxHeartbeats 4000000 in
set_option maxRecDepth 100000 in
theorem tX1_pairFrom_p6_L60 {G : GT} {b : Nat} {c0 : Hp} {n : Nat} (hw : e_wf (kW55) n) {v42_beasts : Int32} {v42_seats : Int32} {v42_known : Int32} {v42_surveyed : Int32} {v42_steadyBench : Int32} {v42_steadyWays : Int32} {v42_steadySwing : Int64} {Fu : Nat} {v42_seated : Int32} {v42_quota : Int32} {a43 : Nat → Int32} {a44 : Nat → Int32} {a46 : Nat → Int32} {a47 : Nat → Int32} {a48 : Nat → Int64} {a49 : Nat → Int32} {v63_voters : Int32} {a64 : Nat → Int64} {v65_voters : Int32} {a66 : Nat → Int64} {x2 : Int32} {x3 : Int32} {x4 : Int32} {x5 : Int32} {s0 : Int64} {R : (Nat → Int64) × Int32 × (Nat → Int64)} (hf : fX1_pairFrom_p6_L60 Fu v42_seated v42_quota a43 a44 a46 a47 a48 a49 v63_voters a64 v65_voters a66 x2 x3 x4 x5 s0 = some R) : E G b yX1_pairFrom cX1_pairFrom 14 none (e_rm 3 0 0) e_X0 (e_Z G b (pD none (e_ov (kW55) (wW55 G b v42_beasts v42_seats v42_seated v42_quota v42_known v42_surveyed v42_steadyBench v42_steadyWays v42_steadySwing a43 a44 a46 a47 R.1 a49 v63_voters a64 R.2.1 R.2.2) c0) n) 0 0) 60 [(0, .ref (b + 42)), (1, .int 6), (2, .int x2), (3, .int x3), (4, .int x4), (5, .int x5)] [.long s0] (e_ov (kW55) (wW55 G b v42_beasts v42_seats v42_seated v42_quota v42_known v42_surveyed v42_steadyBench v42_steadyWays v42_steadySwing a43 a44 a46 a47 a48 a49 v63_voters a64 v65_voters a66) c0) n 0 0 := by
  unfold fX1_pairFrom_p6_L60 at hf
  refine E.lstore (lv' := [(6, .long s0), (0, .ref (b + 42)), (1, .int 6), (2, .int x2), (3, .int x3), (4, .int x4), (5, .int x5)]) dX1_pairFrom_60 (by decide) rfl ?_
  refine E.iload 6 dX1_pairFrom_62 rfl ?_
  refine E.if_eq dX1_pairFrom_64 (fun h => ?_) (fun h => ?_)
  · have hf := e_ift hf h
    refine E.lconst (v := 0) dX1_pairFrom_85 (by decide) ?_
    refine E.locals [1, 2, 3, 4, 5, 6, 0] rfl ?_
    exact tX1_pairFrom_p6_L86 hw hf
  · have hf := e_iff hf h
    refine E.aload_n 1 dX1_pairFrom_67 rfl ?_
    refine E.get hw 0 42 dX1_pairFrom_68 flX1_36 rfl rfl rfl rfl ?_
    refine E.iload_n 2 dX1_pairFrom_71 rfl ?_
    refine E.aaldL hw 7 50 6 dX1_pairFrom_72 rfl rfl rfl (by unfold vp_in; decide) (by decide) rfl ?_
    refine E.aload_n 1 dX1_pairFrom_73 rfl ?_
    refine E.get hw 0 42 dX1_pairFrom_74 flX1_66 rfl rfl rfl rfl ?_
    refine E.iconst (v := 1) dX1_pairFrom_77 (by decide) ?_
    refine E.isub dX1_pairFrom_78 ?_
    obtain ⟨r3, hc3, hf⟩ := e_bind hf
    refine E.callVDs (es' := (wW55 G b v42_beasts v42_seats v42_seated v42_quota v42_known v42_surveyed v42_steadyBench v42_steadyWays v42_steadySwing a43 a44 a46 a47 a48 a49 v63_voters a64 v65_voters a66)) [] [8, 9] 8 63 dX1_pairFrom_79 mlX1_174 hw rfl rfl rfl rfl (mX8_just (hw.pick2 [8, 9] rfl (by decide)) hc3) rfl rfl rfl rfl ⟨Nat.le_of_ble_eq_true rfl, Nat.le_of_ble_eq_true rfl⟩ rfl rfl (Nat.le_of_ble_eq_true rfl) ⟨Nat.le_refl _, Nat.le_refl _⟩ rfl ?_
    refine E.goto dX1_pairFrom_82 ?_
    refine E.locals [1, 2, 3, 4, 5, 6, 0] rfl ?_
    exact tX1_pairFrom_p6_L86 hw hf
def fX1_pairFrom_p6_L32 (Fu : Nat) (v42_seated : Int32) (v42_quota : Int32) (a43 : Nat → Int32) (a44 : Nat → Int32) (a46 : Nat → Int32) (a47 : Nat → Int32) (a48 : Nat → Int64) (a49 : Nat → Int32) (v63_voters : Int32) (a64 : Nat → Int64) (v65_voters : Int32) (a66 : Nat → Int64) (x2 : Int32) (x3 : Int32) (x4 : Int32) (s0 : Int32) : Option ((Nat → Int64) × Int32 × (Nat → Int64)) := if (s0 : Int32) = (0 : Int32) then (fX1_pairFrom_p6_L60 Fu v42_seated v42_quota a43 a44 a46 a47 a48 a49 v63_voters a64 v65_voters a66 x2 x3 x4 s0 0) else ((fX8_atLeast Fu v63_voters a64 v42_quota).bind fun r2 => (fX1_pairFrom_p6_L60 Fu v42_seated v42_quota a43 a44 a46 a47 a48 a49 v63_voters a64 v65_voters a66 x2 x3 x4 s0 (r2 * 100)))
set_option maxHeartbeats 4000000 in
set_option maxRecDepth 100000 in
theorem tX1_pairFrom_p6_L32 {G : GT} {b : Nat} {c0 : Hp} {n : Nat} (hw : e_wf (kW55) n) {v42_beasts : Int32} {v42_seats : Int32} {v42_known : Int32} {v42_surveyed : Int32} {v42_steadyBench : Int32} {v42_steadyWays : Int32} {v42_steadySwing : Int64} {Fu : Nat} {v42_seated : Int32} {v42_quota : Int32} {a43 : Nat → Int32} {a44 : Nat → Int32} {a46 : Nat → Int32} {a47 : Nat → Int32} {a48 : Nat → Int64} {a49 : Nat → Int32} {v63_voters : Int32} {a64 : Nat → Int64} {v65_voters : Int32} {a66 : Nat → Int64} {x2 : Int32} {x3 : Int32} {x4 : Int32} {s0 : Int32} {R : (Nat → Int64) × Int32 × (Nat → Int64)} (hf : fX1_pairFrom_p6_L32 Fu v42_seated v42_quota a43 a44 a46 a47 a48 a49 v63_voters a64 v65_voters a66 x2 x3 x4 s0 = some R) : E G b yX1_pairFrom cX1_pairFrom 14 none (e_rm 3 0 0) e_X0 (e_Z G b (pD none (e_ov (kW55) (wW55 G b v42_beasts v42_seats v42_seated v42_quota v42_known v42_surveyed v42_steadyBench v42_steadyWays v42_steadySwing a43 a44 a46 a47 R.1 a49 v63_voters a64 R.2.1 R.2.2) c0) n) 0 0) 32 [(0, .ref (b + 42)), (1, .int 6), (2, .int x2), (3, .int x3), (4, .int x4)] [.int s0] (e_ov (kW55) (wW55 G b v42_beasts v42_seats v42_seated v42_quota v42_known v42_surveyed v42_steadyBench v42_steadyWays v42_steadySwing a43 a44 a46 a47 a48 a49 v63_voters a64 v65_voters a66) c0) n 0 0 := by
  unfold fX1_pairFrom_p6_L32 at hf
  refine E.istore (lv' := [(5, .int s0), (0, .ref (b + 42)), (1, .int 6), (2, .int x2), (3, .int x3), (4, .int x4)]) dX1_pairFrom_32 (by decide) rfl ?_
  refine E.iload 0 dX1_pairFrom_34 rfl ?_
  refine E.if_eq dX1_pairFrom_36 (fun h => ?_) (fun h => ?_)
  · have hf := e_ift hf h
    refine E.lconst (v := 0) dX1_pairFrom_59 (by decide) ?_
    refine E.locals [1, 2, 3, 4, 5, 0] rfl ?_
    exact tX1_pairFrom_p6_L60 hw hf
  · have hf := e_iff hf h
    refine E.aload_n 1 dX1_pairFrom_39 rfl ?_
    refine E.get hw 0 42 dX1_pairFrom_40 flX1_36 rfl rfl rfl rfl ?_
    refine E.iload_n 2 dX1_pairFrom_43 rfl ?_
    refine E.aaldL hw 7 50 6 dX1_pairFrom_44 rfl rfl rfl (by unfold vp_in; decide) (by decide) rfl ?_
    refine E.aload_n 1 dX1_pairFrom_45 rfl ?_
    refine E.get hw 0 42 dX1_pairFrom_46 flX1_66 rfl rfl rfl rfl ?_
    obtain ⟨r2, hc2, hf⟩ := e_bind hf
    refine E.callVDs (es' := (wW55 G b v42_beasts v42_seats v42_seated v42_quota v42_known v42_surveyed v42_steadyBench v42_steadyWays v42_steadySwing a43 a44 a46 a47 a48 a49 v63_voters a64 v65_voters a66)) [] [8, 9] 8 63 dX1_pairFrom_49 mlX1_120 hw rfl rfl rfl rfl (mX8_atLeast (hw.pick2 [8, 9] rfl (by decide)) hc2) rfl rfl rfl rfl ⟨Nat.le_of_ble_eq_true rfl, Nat.le_of_ble_eq_true rfl⟩ rfl rfl (Nat.le_of_ble_eq_true rfl) ⟨Nat.le_refl _, Nat.le_refl _⟩ rfl ?_
    refine E.ldc2 dX1_pairFrom_52 kX1_172 ?_
    refine E.lmul dX1_pairFrom_55 ?_
    refine E.goto dX1_pairFrom_56 ?_
    refine E.locals [1, 2, 3, 4, 5, 0] rfl ?_
    exact tX1_pairFrom_p6_L60 hw hf
def fX1_pairFrom_p6 (Fu : Nat) (v42_seated : Int32) (v42_quota : Int32) (a43 : Nat → Int32) (a44 : Nat → Int32) (a46 : Nat → Int32) (a47 : Nat → Int32) (a48 : Nat → Int64) (a49 : Nat → Int32) (v63_voters : Int32) (a64 : Nat → Int64) (v65_voters : Int32) (a66 : Nat → Int64) (x2 : Int32) (x3 : Int32) : Option ((Nat → Int64) × Int32 × (Nat → Int64)) := if (6 : Int32) < (v42_seated : Int32) then (gd 6 8 (if (7 : Int32) < (v42_seated : Int32) then (fX1_pairFrom_p6_L32 Fu v42_seated v42_quota a43 a44 a46 a47 a48 a49 v63_voters a64 v65_voters a66 x2 x3 (a49 (6 : Int32).toNatClampNeg) 0) else (fX1_pairFrom_p6_L32 Fu v42_seated v42_quota a43 a44 a46 a47 a48 a49 v63_voters a64 v65_voters a66 x2 x3 (a49 (6 : Int32).toNatClampNeg) 1))) else (some (a48, v65_voters, a66))
set_option maxHeartbeats 4000000 in
set_option maxRecDepth 100000 in
theorem tX1_pairFrom_p6 {G : GT} {b : Nat} {c0 : Hp} {n : Nat} (hw : e_wf (kW55) n) {v42_beasts : Int32} {v42_seats : Int32} {v42_known : Int32} {v42_surveyed : Int32} {v42_steadyBench : Int32} {v42_steadyWays : Int32} {v42_steadySwing : Int64} {Fu : Nat} {v42_seated : Int32} {v42_quota : Int32} {a43 : Nat → Int32} {a44 : Nat → Int32} {a46 : Nat → Int32} {a47 : Nat → Int32} {a48 : Nat → Int64} {a49 : Nat → Int32} {v63_voters : Int32} {a64 : Nat → Int64} {v65_voters : Int32} {a66 : Nat → Int64} {x2 : Int32} {x3 : Int32} {R : (Nat → Int64) × Int32 × (Nat → Int64)} (hf : fX1_pairFrom_p6 Fu v42_seated v42_quota a43 a44 a46 a47 a48 a49 v63_voters a64 v65_voters a66 x2 x3 = some R) : E G b yX1_pairFrom cX1_pairFrom 14 none (e_rm 3 0 0) e_X0 (e_Z G b (pD none (e_ov (kW55) (wW55 G b v42_beasts v42_seats v42_seated v42_quota v42_known v42_surveyed v42_steadyBench v42_steadyWays v42_steadySwing a43 a44 a46 a47 R.1 a49 v63_voters a64 R.2.1 R.2.2) c0) n) 0 0) 0 [(0, .ref (b + 42)), (1, .int 6), (2, .int x2), (3, .int x3)] [] (e_ov (kW55) (wW55 G b v42_beasts v42_seats v42_seated v42_quota v42_known v42_surveyed v42_steadyBench v42_steadyWays v42_steadySwing a43 a44 a46 a47 a48 a49 v63_voters a64 v65_voters a66) c0) n 0 0 := by
  unfold fX1_pairFrom_p6 at hf
  refine E.iload_n 1 dX1_pairFrom_0 rfl ?_
  refine E.aload_n 0 dX1_pairFrom_1 rfl ?_
  refine E.get hw 0 42 dX1_pairFrom_2 flX1_69 rfl rfl rfl rfl ?_
  refine E.icmp_lt dX1_pairFrom_5 (fun h => ?_) (fun h => ?_)
  · have hf := e_ift hf h
    refine E.aload_n 0 dX1_pairFrom_9 rfl ?_
    refine E.get hw 0 42 dX1_pairFrom_10 flX1_31 rfl rfl rfl rfl ?_
    refine E.iload_n 1 dX1_pairFrom_13 rfl ?_
    obtain ⟨g1, hf⟩ := gd_some hf
    refine E.iald hw 6 49 dX1_pairFrom_14 rfl rfl g1 ?_
    refine E.istore (lv' := [(4, .int (a49 (6 : Int32).toNatClampNeg)), (0, .ref (b + 42)), (1, .int 6), (2, .int x2), (3, .int x3)]) dX1_pairFrom_15 (by decide) rfl ?_
    refine E.iload_n 2 dX1_pairFrom_17 rfl ?_
    refine E.iconst (v := 1) dX1_pairFrom_18 (by decide) ?_
    refine E.iadd dX1_pairFrom_19 ?_
    refine E.fold (v := 7) (by decide) ?_
    refine E.aload_n 1 dX1_pairFrom_20 rfl ?_
    refine E.get hw 0 42 dX1_pairFrom_21 flX1_69 rfl rfl rfl rfl ?_
    refine E.icmp_lt dX1_pairFrom_24 (fun h => ?_) (fun h => ?_)
    · have hf := e_ift hf h
      refine E.iconst (v := 0) dX1_pairFrom_31 (by decide) ?_
      refine E.locals [1, 2, 3, 4, 0] rfl ?_
      exact tX1_pairFrom_p6_L32 hw hf
    · have hf := e_iff hf h
      refine E.iconst (v := 1) dX1_pairFrom_27 (by decide) ?_
      refine E.goto dX1_pairFrom_28 ?_
      refine E.locals [1, 2, 3, 4, 0] rfl ?_
      exact tX1_pairFrom_p6_L32 hw hf
  · have hf := e_iff hf h
    cases hf
    exact E.vret dX1_pairFrom_8 (Nat.le_refl _) (Nat.le_refl _) (pD_rf _ _ _)
set_option maxRecDepth 100000 in
theorem mX1_pairFrom_p6 {G : GT} {b : Nat} {c0 : Hp} {n : Nat} (hw : e_wf (kW55) n) {v42_beasts : Int32} {v42_seats : Int32} {v42_known : Int32} {v42_surveyed : Int32} {v42_steadyBench : Int32} {v42_steadyWays : Int32} {v42_steadySwing : Int64} {Fu : Nat} {v42_seated : Int32} {v42_quota : Int32} {a43 : Nat → Int32} {a44 : Nat → Int32} {a46 : Nat → Int32} {a47 : Nat → Int32} {a48 : Nat → Int64} {a49 : Nat → Int32} {v63_voters : Int32} {a64 : Nat → Int64} {v65_voters : Int32} {a66 : Nat → Int64} {x2 : Int32} {x3 : Int32} {R : (Nat → Int64) × Int32 × (Nat → Int64)} (hf : fX1_pairFrom_p6 Fu v42_seated v42_quota a43 a44 a46 a47 a48 a49 v63_voters a64 v65_voters a66 x2 x3 = some R) : e_C G b yX1_pairFrom cX1_pairFrom 14 none 3 0 0 [.ref (b + 42), .int 6, .int x2, .int x3] (e_ov (kW55) (wW55 G b v42_beasts v42_seats v42_seated v42_quota v42_known v42_surveyed v42_steadyBench v42_steadyWays v42_steadySwing a43 a44 a46 a47 a48 a49 v63_voters a64 v65_voters a66) c0) n (pD none (e_ov (kW55) (wW55 G b v42_beasts v42_seats v42_seated v42_quota v42_known v42_surveyed v42_steadyBench v42_steadyWays v42_steadySwing a43 a44 a46 a47 R.1 a49 v63_voters a64 R.2.1 R.2.2) c0) n) := e_C.of (by decide) (Nat.le_of_ble_eq_true rfl) (tX1_pairFrom_p6 hw hf)
abbrev kW56 : List Nat := [42, 43, 44, 46, 47, 48, 49, 50, 61, 62, 63, 64, 65, 66]
abbrev wW56 (G : GT) (b  : Nat) (v42_beasts : Int32) (v42_seats : Int32) (v42_seated : Int32) (v42_quota : Int32) (v42_known : Int32) (v42_surveyed : Int32) (v42_steadyBench : Int32) (v42_steadyWays : Int32) (v42_steadySwing : Int64) (a43 : Nat → Int32) (a44 : Nat → Int32) (a46 : Nat → Int32) (a47 : Nat → Int32) (a48 : Nat → Int64) (a49 : Nat → Int32) (v61_voters : Int32) (a62 : Nat → Int64) (v63_voters : Int32) (a64 : Nat → Int64) (v65_voters : Int32) (a66 : Nat → Int64) : List va_E := [.inr (1, [.ref (b + 43), .ref (b + 44), .ref (b + 45), .ref (b + 46), .ref (b + 47), .ref (b + 48), .ref (b + 49), .ref (b + 50), .ref (b + 67), .int v42_beasts, .int v42_seats, .int v42_seated, .int v42_quota, .int v42_known, .int v42_surveyed, .int v42_steadyBench, .int v42_steadyWays, .long v42_steadySwing]), aI G 32 a43, aI G 8 a44, aI G 512 a46, aI G 2 a47, aJ G 512 a48, aI G 8 a49, aQ G 5 8 (e_tlQ b), .inr (8, [.ref (b + 62), .int v61_voters]), aJ G 9 a62, .inr (8, [.ref (b + 64), .int v63_voters]), aJ G 9 a64, .inr (8, [.ref (b + 66), .int v65_voters]), aJ G 9 a66]
def fX1_pairFrom_p5_L91 (Fu : Nat) : Nat → Int32 → Int32 → (Nat → Int32) → (Nat → Int32) → (Nat → Int32) → (Nat → Int32) → (Nat → Int64) → (Nat → Int32) → Int32 → (Nat → Int64) → Int32 → (Nat → Int64) → Int32 → (Nat → Int64) → Int32 → Int32 → Int32 → Int32 → Int64 → Int64 → Int32 → Option ((Nat → Int64) × Int32 × (Nat → Int64) × Int32 × (Nat → Int64))
  | 0, _, _, _, _, _, _, _, _, _, _, _, _, _, _, _, _, _, _, _, _, _ => none
  | k + 1, v42_seated, v42_quota, a43, a44, a46, a47, a48, a49, v61_voters, a62, v63_voters, a64, v65_voters, a66, x2, x3, x4, x5, x6, x8, x10 => if (3 : Int32) < (x10 : Int32) then (some (a48, v63_voters, a64, v65_voters, a66)) else ((fX1_affords a46 a47 0 (x2 ||| (((x10 &&& 1) : Int32) <<< ((x4 : Int32) &&& 31)))).bind fun r4 => (if (r4 : Int32) = (0 : Int32) then ((fX1_pairFrom_p5_L91 Fu k) v42_seated v42_quota a43 a44 a46 a47 a48 a49 v61_voters a62 v63_voters a64 v65_voters a66 x2 x3 x4 x5 x6 x8 (x10 + 1)) else ((fX1_affords a46 a47 1 (x3 ||| ((((x10 : Int32) >>> ((1 : Int32) &&& 31)) : Int32) <<< ((x4 : Int32) &&& 31)))).bind fun r5 => (if (r5 : Int32) = (0 : Int32) then ((fX1_pairFrom_p5_L91 Fu k) v42_seated v42_quota a43 a44 a46 a47 a48 a49 v61_voters a62 v63_voters a64 v65_voters a66 x2 x3 x4 x5 x6 x8 (x10 + 1)) else ((fX1_chanceWith a43 a44 x4 x10).bind fun r6 => (if (x5 : Int32) = (0 : Int32) then ((fX8_voteAfter Fu v63_voters a64 v61_voters a62 r6).bind fun r7 => ((fX1_pairFrom_p6 Fu v42_seated v42_quota a43 a44 a46 a47 a48 a49 r7.1 r7.2 v65_voters a66 (x2 ||| (((x10 &&& 1) : Int32) <<< ((x4 : Int32) &&& 31))) (x3 ||| ((((x10 : Int32) >>> ((1 : Int32) &&& 31)) : Int32) <<< ((x4 : Int32) &&& 31)))).bind fun r8 => ((fX1_pairFrom_p5_L91 Fu k) v42_seated v42_quota a43 a44 a46 a47 r8.1 a49 v61_voters a62 r7.1 r7.2 r8.2.1 r8.2.2 x2 x3 x4 x5 x6 x8 (x10 + 1)))) else ((fX1_note a48 (x2 ||| (((x10 &&& 1) : Int32) <<< ((x4 : Int32) &&& 31))) (x3 ||| ((((x10 : Int32) >>> ((1 : Int32) &&& 31)) : Int32) <<< ((x4 : Int32) &&& 31))) (x6 + (x8 * ((r6 : Int32).toInt64)))).bind fun r9 => ((fX1_pairFrom_p5_L91 Fu k) v42_seated v42_quota a43 a44 a46 a47 r9 a49 v61_voters a62 v63_voters a64 v65_voters a66 x2 x3 x4 x5 x6 x8 (x10 + 1)))))))))
set_option maxHeartbeats 4000000 in
set_option maxRecDepth 100000 in
theorem tX1_pairFrom_p5_L91 {G : GT} {b : Nat} {c0 : Hp} {n : Nat} (hw : e_wf (kW56) n) {v42_beasts : Int32} {v42_seats : Int32} {v42_known : Int32} {v42_surveyed : Int32} {v42_steadyBench : Int32} {v42_steadyWays : Int32} {v42_steadySwing : Int64} {Fu : Nat} : ∀ (k : Nat) {v42_seated : Int32} {v42_quota : Int32} {a43 : Nat → Int32} {a44 : Nat → Int32} {a46 : Nat → Int32} {a47 : Nat → Int32} {a48 : Nat → Int64} {a49 : Nat → Int32} {v61_voters : Int32} {a62 : Nat → Int64} {v63_voters : Int32} {a64 : Nat → Int64} {v65_voters : Int32} {a66 : Nat → Int64} {x2 : Int32} {x3 : Int32} {x4 : Int32} {x5 : Int32} {x6 : Int64} {x8 : Int64} {x10 : Int32} {R : (Nat → Int64) × Int32 × (Nat → Int64) × Int32 × (Nat → Int64)}, fX1_pairFrom_p5_L91 Fu k v42_seated v42_quota a43 a44 a46 a47 a48 a49 v61_voters a62 v63_voters a64 v65_voters a66 x2 x3 x4 x5 x6 x8 x10 = some R → E G b yX1_pairFrom cX1_pairFrom 14 none (e_rm 4 0 0) e_X0 (e_Z G b (pD none (e_ov (kW56) (wW56 G b v42_beasts v42_seats v42_seated v42_quota v42_known v42_surveyed v42_steadyBench v42_steadyWays v42_steadySwing a43 a44 a46 a47 R.1 a49 v61_voters a62 R.2.1 R.2.2.1 R.2.2.2.1 R.2.2.2.2) c0) n) 0 0) 91 [(0, .ref (b + 42)), (1, .int 5), (2, .int x2), (3, .int x3), (4, .int x4), (5, .int x5), (6, .long x6), (8, .long x8), (10, .int x10)] [] (e_ov (kW56) (wW56 G b v42_beasts v42_seats v42_seated v42_quota v42_known v42_surveyed v42_steadyBench v42_steadyWays v42_steadySwing a43 a44 a46 a47 a48 a49 v61_voters a62 v63_voters a64 v65_voters a66) c0) n 0 0 := by
  intro k
  induction k with
  | zero =>
    intro _ _ _ _ _ _ _ _ _ _ _ _ _ _ _ _ _ _ _ _ _ _ hf
    have hf : (none : Option ((Nat → Int64) × Int32 × (Nat → Int64) × Int32 × (Nat → Int64))) = some _ := hf
    cases hf
  | succ k ih =>
    intro v42_seated v42_quota a43 a44 a46 a47 a48 a49 v61_voters a62 v63_voters a64 v65_voters a66 x2 x3 x4 x5 x6 x8 x10 R hf
    rw [fX1_pairFrom_p5_L91] at hf
    refine E.iload 8 dX1_pairFrom_91 rfl ?_
    refine E.iconst (v := 3) dX1_pairFrom_93 (by decide) ?_
    refine E.icmp_gt dX1_pairFrom_94 (fun h => ?_) (fun h => ?_)
    · have hf := e_ift hf h
      cases hf
      exact E.vret dX1_pairFrom_210 (Nat.le_refl _) (Nat.le_refl _) (pD_rf _ _ _)
    · have hf := e_iff hf h
      refine E.iload_n 2 dX1_pairFrom_97 rfl ?_
      refine E.iload 8 dX1_pairFrom_98 rfl ?_
      refine E.iconst (v := 1) dX1_pairFrom_100 (by decide) ?_
      refine E.iand dX1_pairFrom_101 ?_
      refine E.iload 4 dX1_pairFrom_102 rfl ?_
      refine E.ishl dX1_pairFrom_104 ?_
      refine E.ior dX1_pairFrom_105 ?_
      refine E.istore (lv' := [(11, .int (x2 ||| (((x10 &&& 1) : Int32) <<< ((x4 : Int32) &&& 31)))), (0, .ref (b + 42)), (1, .int 5), (2, .int x2), (3, .int x3), (4, .int x4), (5, .int x5), (6, .long x6), (8, .long x8), (10, .int x10)]) dX1_pairFrom_106 (by decide) rfl ?_
      refine E.iload_n 4 dX1_pairFrom_108 rfl ?_
      refine E.iload 9 dX1_pairFrom_109 rfl ?_
      refine E.iconst (v := 1) dX1_pairFrom_111 (by decide) ?_
      refine E.ishr dX1_pairFrom_112 ?_
      refine E.iload 5 dX1_pairFrom_113 rfl ?_
      refine E.ishl dX1_pairFrom_115 ?_
      refine E.ior dX1_pairFrom_116 ?_
      refine E.istore (lv' := [(12, .int (x3 ||| ((((x10 : Int32) >>> ((1 : Int32) &&& 31)) : Int32) <<< ((x4 : Int32) &&& 31)))), (11, .int (x2 ||| (((x10 &&& 1) : Int32) <<< ((x4 : Int32) &&& 31)))), (0, .ref (b + 42)), (1, .int 5), (2, .int x2), (3, .int x3), (4, .int x4), (5, .int x5), (6, .long x6), (8, .long x8), (10, .int x10)]) dX1_pairFrom_117 (by decide) rfl ?_
      refine E.aload_n 2 dX1_pairFrom_119 rfl ?_
      refine E.iconst (v := 0) dX1_pairFrom_120 (by decide) ?_
      refine E.iload 1 dX1_pairFrom_121 rfl ?_
      obtain ⟨r4, hc4, hf⟩ := e_bind hf
      refine E.callVDs (es' := (wW56 G b v42_beasts v42_seats v42_seated v42_quota v42_known v42_surveyed v42_steadyBench v42_steadyWays v42_steadySwing a43 a44 a46 a47 a48 a49 v61_voters a62 v63_voters a64 v65_voters a66)) [] [0, 3, 4] 0 42 dX1_pairFrom_123 mlX1_103 hw rfl rfl rfl rfl (mX1_affords (hw.pick2 [0, 3, 4] rfl (by decide)) hc4) rfl rfl rfl rfl ⟨Nat.le_of_ble_eq_true rfl, Nat.le_of_ble_eq_true rfl⟩ rfl rfl (Nat.le_of_ble_eq_true rfl) ⟨Nat.le_refl _, Nat.le_refl _⟩ rfl ?_
      refine E.if_eq dX1_pairFrom_126 (fun h => ?_) (fun h => ?_)
      · have hf := e_ift hf h
        refine E.iinc (q := 10) (v := (x10 + 1)) (lv' := [(10, .int (x10 + 1)), (12, .int (x3 ||| ((((x10 : Int32) >>> ((1 : Int32) &&& 31)) : Int32) <<< ((x4 : Int32) &&& 31)))), (11, .int (x2 ||| (((x10 &&& 1) : Int32) <<< ((x4 : Int32) &&& 31)))), (0, .ref (b + 42)), (1, .int 5), (2, .int x2), (3, .int x3), (4, .int x4), (5, .int x5), (6, .long x6), (8, .long x8)]) dX1_pairFrom_204 rfl rfl (by decide) rfl ?_
        refine E.goto dX1_pairFrom_207 ?_
        refine E.locals [3, 4, 5, 6, 7, 8, 9, 10, 0] rfl ?_
        exact ih hf
      · have hf := e_iff hf h
        refine E.aload_n 2 dX1_pairFrom_129 rfl ?_
        refine E.iconst (v := 1) dX1_pairFrom_130 (by decide) ?_
        refine E.iload 0 dX1_pairFrom_131 rfl ?_
        obtain ⟨r5, hc5, hf⟩ := e_bind hf
        refine E.callVDs (es' := (wW56 G b v42_beasts v42_seats v42_seated v42_quota v42_known v42_surveyed v42_steadyBench v42_steadyWays v42_steadySwing a43 a44 a46 a47 a48 a49 v61_voters a62 v63_voters a64 v65_voters a66)) [] [0, 3, 4] 0 42 dX1_pairFrom_133 mlX1_103 hw rfl rfl rfl rfl (mX1_affords (hw.pick2 [0, 3, 4] rfl (by decide)) hc5) rfl rfl rfl rfl ⟨Nat.le_of_ble_eq_true rfl, Nat.le_of_ble_eq_true rfl⟩ rfl rfl (Nat.le_of_ble_eq_true rfl) ⟨Nat.le_refl _, Nat.le_refl _⟩ rfl ?_
        refine E.if_eq dX1_pairFrom_136 (fun h => ?_) (fun h => ?_)
        · have hf := e_ift hf h
          refine E.iinc (q := 10) (v := (x10 + 1)) (lv' := [(10, .int (x10 + 1)), (12, .int (x3 ||| ((((x10 : Int32) >>> ((1 : Int32) &&& 31)) : Int32) <<< ((x4 : Int32) &&& 31)))), (11, .int (x2 ||| (((x10 &&& 1) : Int32) <<< ((x4 : Int32) &&& 31)))), (0, .ref (b + 42)), (1, .int 5), (2, .int x2), (3, .int x3), (4, .int x4), (5, .int x5), (6, .long x6), (8, .long x8)]) dX1_pairFrom_204 rfl rfl (by decide) rfl ?_
          refine E.goto dX1_pairFrom_207 ?_
          refine E.locals [3, 4, 5, 6, 7, 8, 9, 10, 0] rfl ?_
          exact ih hf
        · have hf := e_iff hf h
          refine E.aload_n 2 dX1_pairFrom_139 rfl ?_
          refine E.iload 6 dX1_pairFrom_140 rfl ?_
          refine E.iload 10 dX1_pairFrom_142 rfl ?_
          obtain ⟨r6, hc6, hf⟩ := e_bind hf
          refine E.callVDs (es' := (wW56 G b v42_beasts v42_seats v42_seated v42_quota v42_known v42_surveyed v42_steadyBench v42_steadyWays v42_steadySwing a43 a44 a46 a47 a48 a49 v61_voters a62 v63_voters a64 v65_voters a66)) [] [0, 1, 2] 0 42 dX1_pairFrom_144 mlX1_114 hw rfl rfl rfl rfl (mX1_chanceWith (hw.pick2 [0, 1, 2] rfl (by decide)) hc6) rfl rfl rfl rfl ⟨Nat.le_of_ble_eq_true rfl, Nat.le_of_ble_eq_true rfl⟩ rfl rfl (Nat.le_of_ble_eq_true rfl) ⟨Nat.le_refl _, Nat.le_refl _⟩ rfl ?_
          refine E.istore (lv' := [(13, .int r6), (12, .int (x3 ||| ((((x10 : Int32) >>> ((1 : Int32) &&& 31)) : Int32) <<< ((x4 : Int32) &&& 31)))), (11, .int (x2 ||| (((x10 &&& 1) : Int32) <<< ((x4 : Int32) &&& 31)))), (0, .ref (b + 42)), (1, .int 5), (2, .int x2), (3, .int x3), (4, .int x4), (5, .int x5), (6, .long x6), (8, .long x8), (10, .int x10)]) dX1_pairFrom_147 (by decide) rfl ?_
          refine E.iload 8 dX1_pairFrom_149 rfl ?_
          refine E.if_eq dX1_pairFrom_151 (fun h => ?_) (fun h => ?_)
          · have hf := e_ift hf h
            refine E.aload_n 3 dX1_pairFrom_174 rfl ?_
            refine E.get hw 0 42 dX1_pairFrom_175 flX1_36 rfl rfl rfl rfl ?_
            refine E.iload_n 4 dX1_pairFrom_178 rfl ?_
            refine E.iconst (v := 1) dX1_pairFrom_179 (by decide) ?_
            refine E.iadd dX1_pairFrom_180 ?_
            refine E.fold (v := 6) (by decide) ?_
            refine E.aaldL hw 7 50 6 dX1_pairFrom_181 rfl rfl rfl (by unfold vp_in; decide) (by decide) rfl ?_
            refine E.aload_n 3 dX1_pairFrom_182 rfl ?_
            refine E.get hw 0 42 dX1_pairFrom_183 flX1_36 rfl rfl rfl rfl ?_
            refine E.iload_n 4 dX1_pairFrom_186 rfl ?_
            refine E.aaldL hw 7 50 5 dX1_pairFrom_187 rfl rfl rfl (by unfold vp_in; decide) (by decide) rfl ?_
            refine E.iload 0 dX1_pairFrom_188 rfl ?_
            obtain ⟨r7, hc7, hf⟩ := e_bind hf
            refine E.callVDs (es' := (wW56 G b v42_beasts v42_seats v42_seated v42_quota v42_known v42_surveyed v42_steadyBench v42_steadyWays v42_steadySwing a43 a44 a46 a47 a48 a49 v61_voters a62 r7.1 r7.2 v65_voters a66)) [] [10, 11, 8, 9] 10 63 dX1_pairFrom_190 mlX1_177 hw rfl rfl rfl rfl (mX8_voteAfter (hw.pick2 [10, 11, 8, 9] rfl (by decide)) hc7) rfl rfl rfl rfl ⟨Nat.le_of_ble_eq_true rfl, Nat.le_of_ble_eq_true rfl⟩ rfl rfl (Nat.le_of_ble_eq_true rfl) ⟨Nat.le_refl _, Nat.le_refl _⟩ rfl ?_
            refine E.aload_n 3 dX1_pairFrom_193 rfl ?_
            refine E.iload_n 4 dX1_pairFrom_194 rfl ?_
            refine E.iconst (v := 1) dX1_pairFrom_195 (by decide) ?_
            refine E.iadd dX1_pairFrom_196 ?_
            refine E.fold (v := 6) (by decide) ?_
            refine E.iload 2 dX1_pairFrom_197 rfl ?_
            refine E.iload 1 dX1_pairFrom_199 rfl ?_
            obtain ⟨r8, hc8, hf⟩ := e_bind hf
            refine E.callVDs (es' := (wW56 G b v42_beasts v42_seats v42_seated v42_quota v42_known v42_surveyed v42_steadyBench v42_steadyWays v42_steadySwing a43 a44 a46 a47 r8.1 a49 v61_voters a62 r7.1 r7.2 r8.2.1 r8.2.2)) [] [0, 1, 2, 3, 4, 5, 6, 7, 10, 11, 12, 13] 0 42 dX1_pairFrom_201 mlX1_168 hw rfl rfl rfl rfl (mX1_pairFrom_p6 (hw.pick2 [0, 1, 2, 3, 4, 5, 6, 7, 10, 11, 12, 13] rfl (by decide)) hc8) rfl rfl rfl rfl ⟨Nat.le_of_ble_eq_true rfl, Nat.le_of_ble_eq_true rfl⟩ rfl rfl (Nat.le_of_ble_eq_true rfl) ⟨Nat.le_refl _, Nat.le_refl _⟩ rfl ?_
            refine E.iinc (q := 11) (v := (x10 + 1)) (lv' := [(10, .int (x10 + 1)), (13, .int r6), (12, .int (x3 ||| ((((x10 : Int32) >>> ((1 : Int32) &&& 31)) : Int32) <<< ((x4 : Int32) &&& 31)))), (11, .int (x2 ||| (((x10 &&& 1) : Int32) <<< ((x4 : Int32) &&& 31)))), (0, .ref (b + 42)), (1, .int 5), (2, .int x2), (3, .int x3), (4, .int x4), (5, .int x5), (6, .long x6), (8, .long x8)]) dX1_pairFrom_204 rfl rfl (by decide) rfl ?_
            refine E.goto dX1_pairFrom_207 ?_
            refine E.locals [4, 5, 6, 7, 8, 9, 10, 11, 0] rfl ?_
            exact ih hf
          · have hf := e_iff hf h
            refine E.aload_n 3 dX1_pairFrom_154 rfl ?_
            refine E.iload 2 dX1_pairFrom_155 rfl ?_
            refine E.iload 1 dX1_pairFrom_157 rfl ?_
            refine E.lload 9 dX1_pairFrom_159 rfl ?_
            refine E.lload 10 dX1_pairFrom_161 rfl ?_
            refine E.iload 0 dX1_pairFrom_163 rfl ?_
            refine E.i2l dX1_pairFrom_165 ?_
            refine E.lmul dX1_pairFrom_166 ?_
            refine E.ladd dX1_pairFrom_167 ?_
            obtain ⟨r9, hc9, hf⟩ := e_bind hf
            refine E.callVDs (es' := (wW56 G b v42_beasts v42_seats v42_seated v42_quota v42_known v42_surveyed v42_steadyBench v42_steadyWays v42_steadySwing a43 a44 a46 a47 r9 a49 v61_voters a62 v63_voters a64 v65_voters a66)) [] [0, 5] 0 42 dX1_pairFrom_168 mlX1_164 hw rfl rfl rfl rfl (mX1_note (hw.pick2 [0, 5] rfl (by decide)) hc9) rfl rfl rfl rfl ⟨Nat.le_of_ble_eq_true rfl, Nat.le_of_ble_eq_true rfl⟩ rfl rfl (Nat.le_of_ble_eq_true rfl) ⟨Nat.le_refl _, Nat.le_refl _⟩ rfl ?_
            refine E.goto dX1_pairFrom_171 ?_
            refine E.iinc (q := 11) (v := (x10 + 1)) (lv' := [(10, .int (x10 + 1)), (13, .int r6), (12, .int (x3 ||| ((((x10 : Int32) >>> ((1 : Int32) &&& 31)) : Int32) <<< ((x4 : Int32) &&& 31)))), (11, .int (x2 ||| (((x10 &&& 1) : Int32) <<< ((x4 : Int32) &&& 31)))), (0, .ref (b + 42)), (1, .int 5), (2, .int x2), (3, .int x3), (4, .int x4), (5, .int x5), (6, .long x6), (8, .long x8)]) dX1_pairFrom_204 rfl rfl (by decide) rfl ?_
            refine E.goto dX1_pairFrom_207 ?_
            refine E.locals [4, 5, 6, 7, 8, 9, 10, 11, 0] rfl ?_
            exact ih hf
def fX1_pairFrom_p5_L86 (Fu : Nat) (v42_seated : Int32) (v42_quota : Int32) (a43 : Nat → Int32) (a44 : Nat → Int32) (a46 : Nat → Int32) (a47 : Nat → Int32) (a48 : Nat → Int64) (a49 : Nat → Int32) (v61_voters : Int32) (a62 : Nat → Int64) (v63_voters : Int32) (a64 : Nat → Int64) (v65_voters : Int32) (a66 : Nat → Int64) (x2 : Int32) (x3 : Int32) (x4 : Int32) (x5 : Int32) (x6 : Int64) (s0 : Int64) : Option ((Nat → Int64) × Int32 × (Nat → Int64) × Int32 × (Nat → Int64)) := fX1_pairFrom_p5_L91 Fu Fu v42_seated v42_quota a43 a44 a46 a47 a48 a49 v61_voters a62 v63_voters a64 v65_voters a66 x2 x3 x4 x5 x6 s0 0
set_option maxHeartbeats 4000000 in
set_option maxRecDepth 100000 in
theorem tX1_pairFrom_p5_L86 {G : GT} {b : Nat} {c0 : Hp} {n : Nat} (hw : e_wf (kW56) n) {v42_beasts : Int32} {v42_seats : Int32} {v42_known : Int32} {v42_surveyed : Int32} {v42_steadyBench : Int32} {v42_steadyWays : Int32} {v42_steadySwing : Int64} {Fu : Nat} {v42_seated : Int32} {v42_quota : Int32} {a43 : Nat → Int32} {a44 : Nat → Int32} {a46 : Nat → Int32} {a47 : Nat → Int32} {a48 : Nat → Int64} {a49 : Nat → Int32} {v61_voters : Int32} {a62 : Nat → Int64} {v63_voters : Int32} {a64 : Nat → Int64} {v65_voters : Int32} {a66 : Nat → Int64} {x2 : Int32} {x3 : Int32} {x4 : Int32} {x5 : Int32} {x6 : Int64} {s0 : Int64} {R : (Nat → Int64) × Int32 × (Nat → Int64) × Int32 × (Nat → Int64)} (hf : fX1_pairFrom_p5_L86 Fu v42_seated v42_quota a43 a44 a46 a47 a48 a49 v61_voters a62 v63_voters a64 v65_voters a66 x2 x3 x4 x5 x6 s0 = some R) : E G b yX1_pairFrom cX1_pairFrom 14 none (e_rm 4 0 0) e_X0 (e_Z G b (pD none (e_ov (kW56) (wW56 G b v42_beasts v42_seats v42_seated v42_quota v42_known v42_surveyed v42_steadyBench v42_steadyWays v42_steadySwing a43 a44 a46 a47 R.1 a49 v61_voters a62 R.2.1 R.2.2.1 R.2.2.2.1 R.2.2.2.2) c0) n) 0 0) 86 [(0, .ref (b + 42)), (1, .int 5), (2, .int x2), (3, .int x3), (4, .int x4), (5, .int x5), (6, .long x6)] [.long s0] (e_ov (kW56) (wW56 G b v42_beasts v42_seats v42_seated v42_quota v42_known v42_surveyed v42_steadyBench v42_steadyWays v42_steadySwing a43 a44 a46 a47 a48 a49 v61_voters a62 v63_voters a64 v65_voters a66) c0) n 0 0 := by
  unfold fX1_pairFrom_p5_L86 at hf
  refine E.lstore (lv' := [(8, .long s0), (0, .ref (b + 42)), (1, .int 5), (2, .int x2), (3, .int x3), (4, .int x4), (5, .int x5), (6, .long x6)]) dX1_pairFrom_86 (by decide) rfl ?_
  refine E.iconst (v := 0) dX1_pairFrom_88 (by decide) ?_
  refine E.istore (lv' := [(10, .int 0), (8, .long s0), (0, .ref (b + 42)), (1, .int 5), (2, .int x2), (3, .int x3), (4, .int x4), (5, .int x5), (6, .long x6)]) dX1_pairFrom_89 (by decide) rfl ?_
  refine E.locals [2, 3, 4, 5, 6, 7, 8, 1, 0] rfl ?_
  exact tX1_pairFrom_p5_L91 hw _ hf
def fX1_pairFrom_p5_L60 (Fu : Nat) (v42_seated : Int32) (v42_quota : Int32) (a43 : Nat → Int32) (a44 : Nat → Int32) (a46 : Nat → Int32) (a47 : Nat → Int32) (a48 : Nat → Int64) (a49 : Nat → Int32) (v61_voters : Int32) (a62 : Nat → Int64) (v63_voters : Int32) (a64 : Nat → Int64) (v65_voters : Int32) (a66 : Nat → Int64) (x2 : Int32) (x3 : Int32) (x4 : Int32) (x5 : Int32) (s0 : Int64) : Option ((Nat → Int64) × Int32 × (Nat → Int64) × Int32 × (Nat → Int64)) := if (x5 : Int32) = (0 : Int32) then (fX1_pairFrom_p5_L86 Fu v42_seated v42_quota a43 a44 a46 a47 a48 a49 v61_voters a62 v63_voters a64 v65_voters a66 x2 x3 x4 x5 s0 0) else ((fX8_just v61_voters a62 (v42_quota - 1)).bind fun r3 => (fX1_pairFrom_p5_L86 Fu v42_seated v42_quota a43 a44 a46 a47 a48 a49 v61_voters a62 v63_voters a64 v65_voters a66 x2 x3 x4 x5 s0 r3))
set_option maxHeartbeats 4000000 in
set_option maxRecDepth 100000 in
theorem tX1_pairFrom_p5_L60 {G : GT} {b : Nat} {c0 : Hp} {n : Nat} (hw : e_wf (kW56) n) {v42_beasts : Int32} {v42_seats : Int32} {v42_known : Int32} {v42_surveyed : Int32} {v42_steadyBench : Int32} {v42_steadyWays : Int32} {v42_steadySwing : Int64} {Fu : Nat} {v42_seated : Int32} {v42_quota : Int32} {a43 : Nat → Int32} {a44 : Nat → Int32} {a46 : Nat → Int32} {a47 : Nat → Int32} {a48 : Nat → Int64} {a49 : Nat → Int32} {v61_voters : Int32} {a62 : Nat → Int64} {v63_voters : Int32} {a64 : Nat → Int64} {v65_voters : Int32} {a66 : Nat → Int64} {x2 : Int32} {x3 : Int32} {x4 : Int32} {x5 : Int32} {s0 : Int64} {R : (Nat → Int64) × Int32 × (Nat → Int64) × Int32 × (Nat → Int64)} (hf : fX1_pairFrom_p5_L60 Fu v42_seated v42_quota a43 a44 a46 a47 a48 a49 v61_voters a62 v63_voters a64 v65_voters a66 x2 x3 x4 x5 s0 = some R) : E G b yX1_pairFrom cX1_pairFrom 14 none (e_rm 4 0 0) e_X0 (e_Z G b (pD none (e_ov (kW56) (wW56 G b v42_beasts v42_seats v42_seated v42_quota v42_known v42_surveyed v42_steadyBench v42_steadyWays v42_steadySwing a43 a44 a46 a47 R.1 a49 v61_voters a62 R.2.1 R.2.2.1 R.2.2.2.1 R.2.2.2.2) c0) n) 0 0) 60 [(0, .ref (b + 42)), (1, .int 5), (2, .int x2), (3, .int x3), (4, .int x4), (5, .int x5)] [.long s0] (e_ov (kW56) (wW56 G b v42_beasts v42_seats v42_seated v42_quota v42_known v42_surveyed v42_steadyBench v42_steadyWays v42_steadySwing a43 a44 a46 a47 a48 a49 v61_voters a62 v63_voters a64 v65_voters a66) c0) n 0 0 := by
  unfold fX1_pairFrom_p5_L60 at hf
  refine E.lstore (lv' := [(6, .long s0), (0, .ref (b + 42)), (1, .int 5), (2, .int x2), (3, .int x3), (4, .int x4), (5, .int x5)]) dX1_pairFrom_60 (by decide) rfl ?_
  refine E.iload 6 dX1_pairFrom_62 rfl ?_
  refine E.if_eq dX1_pairFrom_64 (fun h => ?_) (fun h => ?_)
  · have hf := e_ift hf h
    refine E.lconst (v := 0) dX1_pairFrom_85 (by decide) ?_
    refine E.locals [1, 2, 3, 4, 5, 6, 0] rfl ?_
    exact tX1_pairFrom_p5_L86 hw hf
  · have hf := e_iff hf h
    refine E.aload_n 1 dX1_pairFrom_67 rfl ?_
    refine E.get hw 0 42 dX1_pairFrom_68 flX1_36 rfl rfl rfl rfl ?_
    refine E.iload_n 2 dX1_pairFrom_71 rfl ?_
    refine E.aaldL hw 7 50 5 dX1_pairFrom_72 rfl rfl rfl (by unfold vp_in; decide) (by decide) rfl ?_
    refine E.aload_n 1 dX1_pairFrom_73 rfl ?_
    refine E.get hw 0 42 dX1_pairFrom_74 flX1_66 rfl rfl rfl rfl ?_
    refine E.iconst (v := 1) dX1_pairFrom_77 (by decide) ?_
    refine E.isub dX1_pairFrom_78 ?_
    obtain ⟨r3, hc3, hf⟩ := e_bind hf
    refine E.callVDs (es' := (wW56 G b v42_beasts v42_seats v42_seated v42_quota v42_known v42_surveyed v42_steadyBench v42_steadyWays v42_steadySwing a43 a44 a46 a47 a48 a49 v61_voters a62 v63_voters a64 v65_voters a66)) [] [8, 9] 8 61 dX1_pairFrom_79 mlX1_174 hw rfl rfl rfl rfl (mX8_just (hw.pick2 [8, 9] rfl (by decide)) hc3) rfl rfl rfl rfl ⟨Nat.le_of_ble_eq_true rfl, Nat.le_of_ble_eq_true rfl⟩ rfl rfl (Nat.le_of_ble_eq_true rfl) ⟨Nat.le_refl _, Nat.le_refl _⟩ rfl ?_
    refine E.goto dX1_pairFrom_82 ?_
    refine E.locals [1, 2, 3, 4, 5, 6, 0] rfl ?_
    exact tX1_pairFrom_p5_L86 hw hf
def fX1_pairFrom_p5_L32 (Fu : Nat) (v42_seated : Int32) (v42_quota : Int32) (a43 : Nat → Int32) (a44 : Nat → Int32) (a46 : Nat → Int32) (a47 : Nat → Int32) (a48 : Nat → Int64) (a49 : Nat → Int32) (v61_voters : Int32) (a62 : Nat → Int64) (v63_voters : Int32) (a64 : Nat → Int64) (v65_voters : Int32) (a66 : Nat → Int64) (x2 : Int32) (x3 : Int32) (x4 : Int32) (s0 : Int32) : Option ((Nat → Int64) × Int32 × (Nat → Int64) × Int32 × (Nat → Int64)) := if (s0 : Int32) = (0 : Int32) then (fX1_pairFrom_p5_L60 Fu v42_seated v42_quota a43 a44 a46 a47 a48 a49 v61_voters a62 v63_voters a64 v65_voters a66 x2 x3 x4 s0 0) else ((fX8_atLeast Fu v61_voters a62 v42_quota).bind fun r2 => (fX1_pairFrom_p5_L60 Fu v42_seated v42_quota a43 a44 a46 a47 a48 a49 v61_voters a62 v63_voters a64 v65_voters a66 x2 x3 x4 s0 (r2 * 100)))
set_option maxHeartbeats 4000000 in
set_option maxRecDepth 100000 in
theorem tX1_pairFrom_p5_L32 {G : GT} {b : Nat} {c0 : Hp} {n : Nat} (hw : e_wf (kW56) n) {v42_beasts : Int32} {v42_seats : Int32} {v42_known : Int32} {v42_surveyed : Int32} {v42_steadyBench : Int32} {v42_steadyWays : Int32} {v42_steadySwing : Int64} {Fu : Nat} {v42_seated : Int32} {v42_quota : Int32} {a43 : Nat → Int32} {a44 : Nat → Int32} {a46 : Nat → Int32} {a47 : Nat → Int32} {a48 : Nat → Int64} {a49 : Nat → Int32} {v61_voters : Int32} {a62 : Nat → Int64} {v63_voters : Int32} {a64 : Nat → Int64} {v65_voters : Int32} {a66 : Nat → Int64} {x2 : Int32} {x3 : Int32} {x4 : Int32} {s0 : Int32} {R : (Nat → Int64) × Int32 × (Nat → Int64) × Int32 × (Nat → Int64)} (hf : fX1_pairFrom_p5_L32 Fu v42_seated v42_quota a43 a44 a46 a47 a48 a49 v61_voters a62 v63_voters a64 v65_voters a66 x2 x3 x4 s0 = some R) : E G b yX1_pairFrom cX1_pairFrom 14 none (e_rm 4 0 0) e_X0 (e_Z G b (pD none (e_ov (kW56) (wW56 G b v42_beasts v42_seats v42_seated v42_quota v42_known v42_surveyed v42_steadyBench v42_steadyWays v42_steadySwing a43 a44 a46 a47 R.1 a49 v61_voters a62 R.2.1 R.2.2.1 R.2.2.2.1 R.2.2.2.2) c0) n) 0 0) 32 [(0, .ref (b + 42)), (1, .int 5), (2, .int x2), (3, .int x3), (4, .int x4)] [.int s0] (e_ov (kW56) (wW56 G b v42_beasts v42_seats v42_seated v42_quota v42_known v42_surveyed v42_steadyBench v42_steadyWays v42_steadySwing a43 a44 a46 a47 a48 a49 v61_voters a62 v63_voters a64 v65_voters a66) c0) n 0 0 := by
  unfold fX1_pairFrom_p5_L32 at hf
  refine E.istore (lv' := [(5, .int s0), (0, .ref (b + 42)), (1, .int 5), (2, .int x2), (3, .int x3), (4, .int x4)]) dX1_pairFrom_32 (by decide) rfl ?_
  refine E.iload 0 dX1_pairFrom_34 rfl ?_
  refine E.if_eq dX1_pairFrom_36 (fun h => ?_) (fun h => ?_)
  · have hf := e_ift hf h
    refine E.lconst (v := 0) dX1_pairFrom_59 (by decide) ?_
    refine E.locals [1, 2, 3, 4, 5, 0] rfl ?_
    exact tX1_pairFrom_p5_L60 hw hf
  · have hf := e_iff hf h
    refine E.aload_n 1 dX1_pairFrom_39 rfl ?_
    refine E.get hw 0 42 dX1_pairFrom_40 flX1_36 rfl rfl rfl rfl ?_
    refine E.iload_n 2 dX1_pairFrom_43 rfl ?_
    refine E.aaldL hw 7 50 5 dX1_pairFrom_44 rfl rfl rfl (by unfold vp_in; decide) (by decide) rfl ?_
    refine E.aload_n 1 dX1_pairFrom_45 rfl ?_
    refine E.get hw 0 42 dX1_pairFrom_46 flX1_66 rfl rfl rfl rfl ?_
    obtain ⟨r2, hc2, hf⟩ := e_bind hf
    refine E.callVDs (es' := (wW56 G b v42_beasts v42_seats v42_seated v42_quota v42_known v42_surveyed v42_steadyBench v42_steadyWays v42_steadySwing a43 a44 a46 a47 a48 a49 v61_voters a62 v63_voters a64 v65_voters a66)) [] [8, 9] 8 61 dX1_pairFrom_49 mlX1_120 hw rfl rfl rfl rfl (mX8_atLeast (hw.pick2 [8, 9] rfl (by decide)) hc2) rfl rfl rfl rfl ⟨Nat.le_of_ble_eq_true rfl, Nat.le_of_ble_eq_true rfl⟩ rfl rfl (Nat.le_of_ble_eq_true rfl) ⟨Nat.le_refl _, Nat.le_refl _⟩ rfl ?_
    refine E.ldc2 dX1_pairFrom_52 kX1_172 ?_
    refine E.lmul dX1_pairFrom_55 ?_
    refine E.goto dX1_pairFrom_56 ?_
    refine E.locals [1, 2, 3, 4, 5, 0] rfl ?_
    exact tX1_pairFrom_p5_L60 hw hf
def fX1_pairFrom_p5 (Fu : Nat) (v42_seated : Int32) (v42_quota : Int32) (a43 : Nat → Int32) (a44 : Nat → Int32) (a46 : Nat → Int32) (a47 : Nat → Int32) (a48 : Nat → Int64) (a49 : Nat → Int32) (v61_voters : Int32) (a62 : Nat → Int64) (v63_voters : Int32) (a64 : Nat → Int64) (v65_voters : Int32) (a66 : Nat → Int64) (x2 : Int32) (x3 : Int32) : Option ((Nat → Int64) × Int32 × (Nat → Int64) × Int32 × (Nat → Int64)) := if (5 : Int32) < (v42_seated : Int32) then (gd 5 8 (if (6 : Int32) < (v42_seated : Int32) then (fX1_pairFrom_p5_L32 Fu v42_seated v42_quota a43 a44 a46 a47 a48 a49 v61_voters a62 v63_voters a64 v65_voters a66 x2 x3 (a49 (5 : Int32).toNatClampNeg) 0) else (fX1_pairFrom_p5_L32 Fu v42_seated v42_quota a43 a44 a46 a47 a48 a49 v61_voters a62 v63_voters a64 v65_voters a66 x2 x3 (a49 (5 : Int32).toNatClampNeg) 1))) else (some (a48, v63_voters, a64, v65_voters, a66))
set_option maxHeartbeats 4000000 in
set_option maxRecDepth 100000 in
theorem tX1_pairFrom_p5 {G : GT} {b : Nat} {c0 : Hp} {n : Nat} (hw : e_wf (kW56) n) {v42_beasts : Int32} {v42_seats : Int32} {v42_known : Int32} {v42_surveyed : Int32} {v42_steadyBench : Int32} {v42_steadyWays : Int32} {v42_steadySwing : Int64} {Fu : Nat} {v42_seated : Int32} {v42_quota : Int32} {a43 : Nat → Int32} {a44 : Nat → Int32} {a46 : Nat → Int32} {a47 : Nat → Int32} {a48 : Nat → Int64} {a49 : Nat → Int32} {v61_voters : Int32} {a62 : Nat → Int64} {v63_voters : Int32} {a64 : Nat → Int64} {v65_voters : Int32} {a66 : Nat → Int64} {x2 : Int32} {x3 : Int32} {R : (Nat → Int64) × Int32 × (Nat → Int64) × Int32 × (Nat → Int64)} (hf : fX1_pairFrom_p5 Fu v42_seated v42_quota a43 a44 a46 a47 a48 a49 v61_voters a62 v63_voters a64 v65_voters a66 x2 x3 = some R) : E G b yX1_pairFrom cX1_pairFrom 14 none (e_rm 4 0 0) e_X0 (e_Z G b (pD none (e_ov (kW56) (wW56 G b v42_beasts v42_seats v42_seated v42_quota v42_known v42_surveyed v42_steadyBench v42_steadyWays v42_steadySwing a43 a44 a46 a47 R.1 a49 v61_voters a62 R.2.1 R.2.2.1 R.2.2.2.1 R.2.2.2.2) c0) n) 0 0) 0 [(0, .ref (b + 42)), (1, .int 5), (2, .int x2), (3, .int x3)] [] (e_ov (kW56) (wW56 G b v42_beasts v42_seats v42_seated v42_quota v42_known v42_surveyed v42_steadyBench v42_steadyWays v42_steadySwing a43 a44 a46 a47 a48 a49 v61_voters a62 v63_voters a64 v65_voters a66) c0) n 0 0 := by
  unfold fX1_pairFrom_p5 at hf
  refine E.iload_n 1 dX1_pairFrom_0 rfl ?_
  refine E.aload_n 0 dX1_pairFrom_1 rfl ?_
  refine E.get hw 0 42 dX1_pairFrom_2 flX1_69 rfl rfl rfl rfl ?_
  refine E.icmp_lt dX1_pairFrom_5 (fun h => ?_) (fun h => ?_)
  · have hf := e_ift hf h
    refine E.aload_n 0 dX1_pairFrom_9 rfl ?_
    refine E.get hw 0 42 dX1_pairFrom_10 flX1_31 rfl rfl rfl rfl ?_
    refine E.iload_n 1 dX1_pairFrom_13 rfl ?_
    obtain ⟨g1, hf⟩ := gd_some hf
    refine E.iald hw 6 49 dX1_pairFrom_14 rfl rfl g1 ?_
    refine E.istore (lv' := [(4, .int (a49 (5 : Int32).toNatClampNeg)), (0, .ref (b + 42)), (1, .int 5), (2, .int x2), (3, .int x3)]) dX1_pairFrom_15 (by decide) rfl ?_
    refine E.iload_n 2 dX1_pairFrom_17 rfl ?_
    refine E.iconst (v := 1) dX1_pairFrom_18 (by decide) ?_
    refine E.iadd dX1_pairFrom_19 ?_
    refine E.fold (v := 6) (by decide) ?_
    refine E.aload_n 1 dX1_pairFrom_20 rfl ?_
    refine E.get hw 0 42 dX1_pairFrom_21 flX1_69 rfl rfl rfl rfl ?_
    refine E.icmp_lt dX1_pairFrom_24 (fun h => ?_) (fun h => ?_)
    · have hf := e_ift hf h
      refine E.iconst (v := 0) dX1_pairFrom_31 (by decide) ?_
      refine E.locals [1, 2, 3, 4, 0] rfl ?_
      exact tX1_pairFrom_p5_L32 hw hf
    · have hf := e_iff hf h
      refine E.iconst (v := 1) dX1_pairFrom_27 (by decide) ?_
      refine E.goto dX1_pairFrom_28 ?_
      refine E.locals [1, 2, 3, 4, 0] rfl ?_
      exact tX1_pairFrom_p5_L32 hw hf
  · have hf := e_iff hf h
    cases hf
    exact E.vret dX1_pairFrom_8 (Nat.le_refl _) (Nat.le_refl _) (pD_rf _ _ _)
set_option maxRecDepth 100000 in
theorem mX1_pairFrom_p5 {G : GT} {b : Nat} {c0 : Hp} {n : Nat} (hw : e_wf (kW56) n) {v42_beasts : Int32} {v42_seats : Int32} {v42_known : Int32} {v42_surveyed : Int32} {v42_steadyBench : Int32} {v42_steadyWays : Int32} {v42_steadySwing : Int64} {Fu : Nat} {v42_seated : Int32} {v42_quota : Int32} {a43 : Nat → Int32} {a44 : Nat → Int32} {a46 : Nat → Int32} {a47 : Nat → Int32} {a48 : Nat → Int64} {a49 : Nat → Int32} {v61_voters : Int32} {a62 : Nat → Int64} {v63_voters : Int32} {a64 : Nat → Int64} {v65_voters : Int32} {a66 : Nat → Int64} {x2 : Int32} {x3 : Int32} {R : (Nat → Int64) × Int32 × (Nat → Int64) × Int32 × (Nat → Int64)} (hf : fX1_pairFrom_p5 Fu v42_seated v42_quota a43 a44 a46 a47 a48 a49 v61_voters a62 v63_voters a64 v65_voters a66 x2 x3 = some R) : e_C G b yX1_pairFrom cX1_pairFrom 14 none 4 0 0 [.ref (b + 42), .int 5, .int x2, .int x3] (e_ov (kW56) (wW56 G b v42_beasts v42_seats v42_seated v42_quota v42_known v42_surveyed v42_steadyBench v42_steadyWays v42_steadySwing a43 a44 a46 a47 a48 a49 v61_voters a62 v63_voters a64 v65_voters a66) c0) n (pD none (e_ov (kW56) (wW56 G b v42_beasts v42_seats v42_seated v42_quota v42_known v42_surveyed v42_steadyBench v42_steadyWays v42_steadySwing a43 a44 a46 a47 R.1 a49 v61_voters a62 R.2.1 R.2.2.1 R.2.2.2.1 R.2.2.2.2) c0) n) := e_C.of (by decide) (Nat.le_of_ble_eq_true rfl) (tX1_pairFrom_p5 hw hf)
abbrev kW57 : List Nat := [42, 43, 44, 46, 47, 48, 49, 50, 59, 60, 61, 62, 63, 64, 65, 66]
abbrev wW57 (G : GT) (b  : Nat) (v42_beasts : Int32) (v42_seats : Int32) (v42_seated : Int32) (v42_quota : Int32) (v42_known : Int32) (v42_surveyed : Int32) (v42_steadyBench : Int32) (v42_steadyWays : Int32) (v42_steadySwing : Int64) (a43 : Nat → Int32) (a44 : Nat → Int32) (a46 : Nat → Int32) (a47 : Nat → Int32) (a48 : Nat → Int64) (a49 : Nat → Int32) (v59_voters : Int32) (a60 : Nat → Int64) (v61_voters : Int32) (a62 : Nat → Int64) (v63_voters : Int32) (a64 : Nat → Int64) (v65_voters : Int32) (a66 : Nat → Int64) : List va_E := [.inr (1, [.ref (b + 43), .ref (b + 44), .ref (b + 45), .ref (b + 46), .ref (b + 47), .ref (b + 48), .ref (b + 49), .ref (b + 50), .ref (b + 67), .int v42_beasts, .int v42_seats, .int v42_seated, .int v42_quota, .int v42_known, .int v42_surveyed, .int v42_steadyBench, .int v42_steadyWays, .long v42_steadySwing]), aI G 32 a43, aI G 8 a44, aI G 512 a46, aI G 2 a47, aJ G 512 a48, aI G 8 a49, aQ G 5 8 (e_tlQ b), .inr (8, [.ref (b + 60), .int v59_voters]), aJ G 9 a60, .inr (8, [.ref (b + 62), .int v61_voters]), aJ G 9 a62, .inr (8, [.ref (b + 64), .int v63_voters]), aJ G 9 a64, .inr (8, [.ref (b + 66), .int v65_voters]), aJ G 9 a66]
def fX1_pairFrom_p4_L91 (Fu : Nat) : Nat → Int32 → Int32 → (Nat → Int32) → (Nat → Int32) → (Nat → Int32) → (Nat → Int32) → (Nat → Int64) → (Nat → Int32) → Int32 → (Nat → Int64) → Int32 → (Nat → Int64) → Int32 → (Nat → Int64) → Int32 → (Nat → Int64) → Int32 → Int32 → Int32 → Int32 → Int64 → Int64 → Int32 → Option ((Nat → Int64) × Int32 × (Nat → Int64) × Int32 × (Nat → Int64) × Int32 × (Nat → Int64))
  | 0, _, _, _, _, _, _, _, _, _, _, _, _, _, _, _, _, _, _, _, _, _, _, _ => none
  | k + 1, v42_seated, v42_quota, a43, a44, a46, a47, a48, a49, v59_voters, a60, v61_voters, a62, v63_voters, a64, v65_voters, a66, x2, x3, x4, x5, x6, x8, x10 => if (3 : Int32) < (x10 : Int32) then (some (a48, v61_voters, a62, v63_voters, a64, v65_voters, a66)) else ((fX1_affords a46 a47 0 (x2 ||| (((x10 &&& 1) : Int32) <<< ((x4 : Int32) &&& 31)))).bind fun r4 => (if (r4 : Int32) = (0 : Int32) then ((fX1_pairFrom_p4_L91 Fu k) v42_seated v42_quota a43 a44 a46 a47 a48 a49 v59_voters a60 v61_voters a62 v63_voters a64 v65_voters a66 x2 x3 x4 x5 x6 x8 (x10 + 1)) else ((fX1_affords a46 a47 1 (x3 ||| ((((x10 : Int32) >>> ((1 : Int32) &&& 31)) : Int32) <<< ((x4 : Int32) &&& 31)))).bind fun r5 => (if (r5 : Int32) = (0 : Int32) then ((fX1_pairFrom_p4_L91 Fu k) v42_seated v42_quota a43 a44 a46 a47 a48 a49 v59_voters a60 v61_voters a62 v63_voters a64 v65_voters a66 x2 x3 x4 x5 x6 x8 (x10 + 1)) else ((fX1_chanceWith a43 a44 x4 x10).bind fun r6 => (if (x5 : Int32) = (0 : Int32) then ((fX8_voteAfter Fu v61_voters a62 v59_voters a60 r6).bind fun r7 => ((fX1_pairFrom_p5 Fu v42_seated v42_quota a43 a44 a46 a47 a48 a49 r7.1 r7.2 v63_voters a64 v65_voters a66 (x2 ||| (((x10 &&& 1) : Int32) <<< ((x4 : Int32) &&& 31))) (x3 ||| ((((x10 : Int32) >>> ((1 : Int32) &&& 31)) : Int32) <<< ((x4 : Int32) &&& 31)))).bind fun r8 => ((fX1_pairFrom_p4_L91 Fu k) v42_seated v42_quota a43 a44 a46 a47 r8.1 a49 v59_voters a60 r7.1 r7.2 r8.2.1 r8.2.2.1 r8.2.2.2.1 r8.2.2.2.2 x2 x3 x4 x5 x6 x8 (x10 + 1)))) else ((fX1_note a48 (x2 ||| (((x10 &&& 1) : Int32) <<< ((x4 : Int32) &&& 31))) (x3 ||| ((((x10 : Int32) >>> ((1 : Int32) &&& 31)) : Int32) <<< ((x4 : Int32) &&& 31))) (x6 + (x8 * ((r6 : Int32).toInt64)))).bind fun r9 => ((fX1_pairFrom_p4_L91 Fu k) v42_seated v42_quota a43 a44 a46 a47 r9 a49 v59_voters a60 v61_voters a62 v63_voters a64 v65_voters a66 x2 x3 x4 x5 x6 x8 (x10 + 1)))))))))
set_option maxHeartbeats 4000000 in
set_option maxRecDepth 100000 in
theorem tX1_pairFrom_p4_L91 {G : GT} {b : Nat} {c0 : Hp} {n : Nat} (hw : e_wf (kW57) n) {v42_beasts : Int32} {v42_seats : Int32} {v42_known : Int32} {v42_surveyed : Int32} {v42_steadyBench : Int32} {v42_steadyWays : Int32} {v42_steadySwing : Int64} {Fu : Nat} : ∀ (k : Nat) {v42_seated : Int32} {v42_quota : Int32} {a43 : Nat → Int32} {a44 : Nat → Int32} {a46 : Nat → Int32} {a47 : Nat → Int32} {a48 : Nat → Int64} {a49 : Nat → Int32} {v59_voters : Int32} {a60 : Nat → Int64} {v61_voters : Int32} {a62 : Nat → Int64} {v63_voters : Int32} {a64 : Nat → Int64} {v65_voters : Int32} {a66 : Nat → Int64} {x2 : Int32} {x3 : Int32} {x4 : Int32} {x5 : Int32} {x6 : Int64} {x8 : Int64} {x10 : Int32} {R : (Nat → Int64) × Int32 × (Nat → Int64) × Int32 × (Nat → Int64) × Int32 × (Nat → Int64)}, fX1_pairFrom_p4_L91 Fu k v42_seated v42_quota a43 a44 a46 a47 a48 a49 v59_voters a60 v61_voters a62 v63_voters a64 v65_voters a66 x2 x3 x4 x5 x6 x8 x10 = some R → E G b yX1_pairFrom cX1_pairFrom 14 none (e_rm 5 0 0) e_X0 (e_Z G b (pD none (e_ov (kW57) (wW57 G b v42_beasts v42_seats v42_seated v42_quota v42_known v42_surveyed v42_steadyBench v42_steadyWays v42_steadySwing a43 a44 a46 a47 R.1 a49 v59_voters a60 R.2.1 R.2.2.1 R.2.2.2.1 R.2.2.2.2.1 R.2.2.2.2.2.1 R.2.2.2.2.2.2) c0) n) 0 0) 91 [(0, .ref (b + 42)), (1, .int 4), (2, .int x2), (3, .int x3), (4, .int x4), (5, .int x5), (6, .long x6), (8, .long x8), (10, .int x10)] [] (e_ov (kW57) (wW57 G b v42_beasts v42_seats v42_seated v42_quota v42_known v42_surveyed v42_steadyBench v42_steadyWays v42_steadySwing a43 a44 a46 a47 a48 a49 v59_voters a60 v61_voters a62 v63_voters a64 v65_voters a66) c0) n 0 0 := by
  intro k
  induction k with
  | zero =>
    intro _ _ _ _ _ _ _ _ _ _ _ _ _ _ _ _ _ _ _ _ _ _ _ _ hf
    have hf : (none : Option ((Nat → Int64) × Int32 × (Nat → Int64) × Int32 × (Nat → Int64) × Int32 × (Nat → Int64))) = some _ := hf
    cases hf
  | succ k ih =>
    intro v42_seated v42_quota a43 a44 a46 a47 a48 a49 v59_voters a60 v61_voters a62 v63_voters a64 v65_voters a66 x2 x3 x4 x5 x6 x8 x10 R hf
    rw [fX1_pairFrom_p4_L91] at hf
    refine E.iload 8 dX1_pairFrom_91 rfl ?_
    refine E.iconst (v := 3) dX1_pairFrom_93 (by decide) ?_
    refine E.icmp_gt dX1_pairFrom_94 (fun h => ?_) (fun h => ?_)
    · have hf := e_ift hf h
      cases hf
      exact E.vret dX1_pairFrom_210 (Nat.le_refl _) (Nat.le_refl _) (pD_rf _ _ _)
    · have hf := e_iff hf h
      refine E.iload_n 2 dX1_pairFrom_97 rfl ?_
      refine E.iload 8 dX1_pairFrom_98 rfl ?_
      refine E.iconst (v := 1) dX1_pairFrom_100 (by decide) ?_
      refine E.iand dX1_pairFrom_101 ?_
      refine E.iload 4 dX1_pairFrom_102 rfl ?_
      refine E.ishl dX1_pairFrom_104 ?_
      refine E.ior dX1_pairFrom_105 ?_
      refine E.istore (lv' := [(11, .int (x2 ||| (((x10 &&& 1) : Int32) <<< ((x4 : Int32) &&& 31)))), (0, .ref (b + 42)), (1, .int 4), (2, .int x2), (3, .int x3), (4, .int x4), (5, .int x5), (6, .long x6), (8, .long x8), (10, .int x10)]) dX1_pairFrom_106 (by decide) rfl ?_
      refine E.iload_n 4 dX1_pairFrom_108 rfl ?_
      refine E.iload 9 dX1_pairFrom_109 rfl ?_
      refine E.iconst (v := 1) dX1_pairFrom_111 (by decide) ?_
      refine E.ishr dX1_pairFrom_112 ?_
      refine E.iload 5 dX1_pairFrom_113 rfl ?_
      refine E.ishl dX1_pairFrom_115 ?_
      refine E.ior dX1_pairFrom_116 ?_
      refine E.istore (lv' := [(12, .int (x3 ||| ((((x10 : Int32) >>> ((1 : Int32) &&& 31)) : Int32) <<< ((x4 : Int32) &&& 31)))), (11, .int (x2 ||| (((x10 &&& 1) : Int32) <<< ((x4 : Int32) &&& 31)))), (0, .ref (b + 42)), (1, .int 4), (2, .int x2), (3, .int x3), (4, .int x4), (5, .int x5), (6, .long x6), (8, .long x8), (10, .int x10)]) dX1_pairFrom_117 (by decide) rfl ?_
      refine E.aload_n 2 dX1_pairFrom_119 rfl ?_
      refine E.iconst (v := 0) dX1_pairFrom_120 (by decide) ?_
      refine E.iload 1 dX1_pairFrom_121 rfl ?_
      obtain ⟨r4, hc4, hf⟩ := e_bind hf
      refine E.callVDs (es' := (wW57 G b v42_beasts v42_seats v42_seated v42_quota v42_known v42_surveyed v42_steadyBench v42_steadyWays v42_steadySwing a43 a44 a46 a47 a48 a49 v59_voters a60 v61_voters a62 v63_voters a64 v65_voters a66)) [] [0, 3, 4] 0 42 dX1_pairFrom_123 mlX1_103 hw rfl rfl rfl rfl (mX1_affords (hw.pick2 [0, 3, 4] rfl (by decide)) hc4) rfl rfl rfl rfl ⟨Nat.le_of_ble_eq_true rfl, Nat.le_of_ble_eq_true rfl⟩ rfl rfl (Nat.le_of_ble_eq_true rfl) ⟨Nat.le_refl _, Nat.le_refl _⟩ rfl ?_
      refine E.if_eq dX1_pairFrom_126 (fun h => ?_) (fun h => ?_)
      · have hf := e_ift hf h
        refine E.iinc (q := 10) (v := (x10 + 1)) (lv' := [(10, .int (x10 + 1)), (12, .int (x3 ||| ((((x10 : Int32) >>> ((1 : Int32) &&& 31)) : Int32) <<< ((x4 : Int32) &&& 31)))), (11, .int (x2 ||| (((x10 &&& 1) : Int32) <<< ((x4 : Int32) &&& 31)))), (0, .ref (b + 42)), (1, .int 4), (2, .int x2), (3, .int x3), (4, .int x4), (5, .int x5), (6, .long x6), (8, .long x8)]) dX1_pairFrom_204 rfl rfl (by decide) rfl ?_
        refine E.goto dX1_pairFrom_207 ?_
        refine E.locals [3, 4, 5, 6, 7, 8, 9, 10, 0] rfl ?_
        exact ih hf
      · have hf := e_iff hf h
        refine E.aload_n 2 dX1_pairFrom_129 rfl ?_
        refine E.iconst (v := 1) dX1_pairFrom_130 (by decide) ?_
        refine E.iload 0 dX1_pairFrom_131 rfl ?_
        obtain ⟨r5, hc5, hf⟩ := e_bind hf
        refine E.callVDs (es' := (wW57 G b v42_beasts v42_seats v42_seated v42_quota v42_known v42_surveyed v42_steadyBench v42_steadyWays v42_steadySwing a43 a44 a46 a47 a48 a49 v59_voters a60 v61_voters a62 v63_voters a64 v65_voters a66)) [] [0, 3, 4] 0 42 dX1_pairFrom_133 mlX1_103 hw rfl rfl rfl rfl (mX1_affords (hw.pick2 [0, 3, 4] rfl (by decide)) hc5) rfl rfl rfl rfl ⟨Nat.le_of_ble_eq_true rfl, Nat.le_of_ble_eq_true rfl⟩ rfl rfl (Nat.le_of_ble_eq_true rfl) ⟨Nat.le_refl _, Nat.le_refl _⟩ rfl ?_
        refine E.if_eq dX1_pairFrom_136 (fun h => ?_) (fun h => ?_)
        · have hf := e_ift hf h
          refine E.iinc (q := 10) (v := (x10 + 1)) (lv' := [(10, .int (x10 + 1)), (12, .int (x3 ||| ((((x10 : Int32) >>> ((1 : Int32) &&& 31)) : Int32) <<< ((x4 : Int32) &&& 31)))), (11, .int (x2 ||| (((x10 &&& 1) : Int32) <<< ((x4 : Int32) &&& 31)))), (0, .ref (b + 42)), (1, .int 4), (2, .int x2), (3, .int x3), (4, .int x4), (5, .int x5), (6, .long x6), (8, .long x8)]) dX1_pairFrom_204 rfl rfl (by decide) rfl ?_
          refine E.goto dX1_pairFrom_207 ?_
          refine E.locals [3, 4, 5, 6, 7, 8, 9, 10, 0] rfl ?_
          exact ih hf
        · have hf := e_iff hf h
          refine E.aload_n 2 dX1_pairFrom_139 rfl ?_
          refine E.iload 6 dX1_pairFrom_140 rfl ?_
          refine E.iload 10 dX1_pairFrom_142 rfl ?_
          obtain ⟨r6, hc6, hf⟩ := e_bind hf
          refine E.callVDs (es' := (wW57 G b v42_beasts v42_seats v42_seated v42_quota v42_known v42_surveyed v42_steadyBench v42_steadyWays v42_steadySwing a43 a44 a46 a47 a48 a49 v59_voters a60 v61_voters a62 v63_voters a64 v65_voters a66)) [] [0, 1, 2] 0 42 dX1_pairFrom_144 mlX1_114 hw rfl rfl rfl rfl (mX1_chanceWith (hw.pick2 [0, 1, 2] rfl (by decide)) hc6) rfl rfl rfl rfl ⟨Nat.le_of_ble_eq_true rfl, Nat.le_of_ble_eq_true rfl⟩ rfl rfl (Nat.le_of_ble_eq_true rfl) ⟨Nat.le_refl _, Nat.le_refl _⟩ rfl ?_
          refine E.istore (lv' := [(13, .int r6), (12, .int (x3 ||| ((((x10 : Int32) >>> ((1 : Int32) &&& 31)) : Int32) <<< ((x4 : Int32) &&& 31)))), (11, .int (x2 ||| (((x10 &&& 1) : Int32) <<< ((x4 : Int32) &&& 31)))), (0, .ref (b + 42)), (1, .int 4), (2, .int x2), (3, .int x3), (4, .int x4), (5, .int x5), (6, .long x6), (8, .long x8), (10, .int x10)]) dX1_pairFrom_147 (by decide) rfl ?_
          refine E.iload 8 dX1_pairFrom_149 rfl ?_
          refine E.if_eq dX1_pairFrom_151 (fun h => ?_) (fun h => ?_)
          · have hf := e_ift hf h
            refine E.aload_n 3 dX1_pairFrom_174 rfl ?_
            refine E.get hw 0 42 dX1_pairFrom_175 flX1_36 rfl rfl rfl rfl ?_
            refine E.iload_n 4 dX1_pairFrom_178 rfl ?_
            refine E.iconst (v := 1) dX1_pairFrom_179 (by decide) ?_
            refine E.iadd dX1_pairFrom_180 ?_
            refine E.fold (v := 5) (by decide) ?_
            refine E.aaldL hw 7 50 5 dX1_pairFrom_181 rfl rfl rfl (by unfold vp_in; decide) (by decide) rfl ?_
            refine E.aload_n 3 dX1_pairFrom_182 rfl ?_
            refine E.get hw 0 42 dX1_pairFrom_183 flX1_36 rfl rfl rfl rfl ?_
            refine E.iload_n 4 dX1_pairFrom_186 rfl ?_
            refine E.aaldL hw 7 50 4 dX1_pairFrom_187 rfl rfl rfl (by unfold vp_in; decide) (by decide) rfl ?_
            refine E.iload 0 dX1_pairFrom_188 rfl ?_
            obtain ⟨r7, hc7, hf⟩ := e_bind hf
            refine E.callVDs (es' := (wW57 G b v42_beasts v42_seats v42_seated v42_quota v42_known v42_surveyed v42_steadyBench v42_steadyWays v42_steadySwing a43 a44 a46 a47 a48 a49 v59_voters a60 r7.1 r7.2 v63_voters a64 v65_voters a66)) [] [10, 11, 8, 9] 10 61 dX1_pairFrom_190 mlX1_177 hw rfl rfl rfl rfl (mX8_voteAfter (hw.pick2 [10, 11, 8, 9] rfl (by decide)) hc7) rfl rfl rfl rfl ⟨Nat.le_of_ble_eq_true rfl, Nat.le_of_ble_eq_true rfl⟩ rfl rfl (Nat.le_of_ble_eq_true rfl) ⟨Nat.le_refl _, Nat.le_refl _⟩ rfl ?_
            refine E.aload_n 3 dX1_pairFrom_193 rfl ?_
            refine E.iload_n 4 dX1_pairFrom_194 rfl ?_
            refine E.iconst (v := 1) dX1_pairFrom_195 (by decide) ?_
            refine E.iadd dX1_pairFrom_196 ?_
            refine E.fold (v := 5) (by decide) ?_
            refine E.iload 2 dX1_pairFrom_197 rfl ?_
            refine E.iload 1 dX1_pairFrom_199 rfl ?_
            obtain ⟨r8, hc8, hf⟩ := e_bind hf
            refine E.callVDs (es' := (wW57 G b v42_beasts v42_seats v42_seated v42_quota v42_known v42_surveyed v42_steadyBench v42_steadyWays v42_steadySwing a43 a44 a46 a47 r8.1 a49 v59_voters a60 r7.1 r7.2 r8.2.1 r8.2.2.1 r8.2.2.2.1 r8.2.2.2.2)) [] [0, 1, 2, 3, 4, 5, 6, 7, 10, 11, 12, 13, 14, 15] 0 42 dX1_pairFrom_201 mlX1_168 hw rfl rfl rfl rfl (mX1_pairFrom_p5 (hw.pick2 [0, 1, 2, 3, 4, 5, 6, 7, 10, 11, 12, 13, 14, 15] rfl (by decide)) hc8) rfl rfl rfl rfl ⟨Nat.le_of_ble_eq_true rfl, Nat.le_of_ble_eq_true rfl⟩ rfl rfl (Nat.le_of_ble_eq_true rfl) ⟨Nat.le_refl _, Nat.le_refl _⟩ rfl ?_
            refine E.iinc (q := 11) (v := (x10 + 1)) (lv' := [(10, .int (x10 + 1)), (13, .int r6), (12, .int (x3 ||| ((((x10 : Int32) >>> ((1 : Int32) &&& 31)) : Int32) <<< ((x4 : Int32) &&& 31)))), (11, .int (x2 ||| (((x10 &&& 1) : Int32) <<< ((x4 : Int32) &&& 31)))), (0, .ref (b + 42)), (1, .int 4), (2, .int x2), (3, .int x3), (4, .int x4), (5, .int x5), (6, .long x6), (8, .long x8)]) dX1_pairFrom_204 rfl rfl (by decide) rfl ?_
            refine E.goto dX1_pairFrom_207 ?_
            refine E.locals [4, 5, 6, 7, 8, 9, 10, 11, 0] rfl ?_
            exact ih hf
          · have hf := e_iff hf h
            refine E.aload_n 3 dX1_pairFrom_154 rfl ?_
            refine E.iload 2 dX1_pairFrom_155 rfl ?_
            refine E.iload 1 dX1_pairFrom_157 rfl ?_
            refine E.lload 9 dX1_pairFrom_159 rfl ?_
            refine E.lload 10 dX1_pairFrom_161 rfl ?_
            refine E.iload 0 dX1_pairFrom_163 rfl ?_
            refine E.i2l dX1_pairFrom_165 ?_
            refine E.lmul dX1_pairFrom_166 ?_
            refine E.ladd dX1_pairFrom_167 ?_
            obtain ⟨r9, hc9, hf⟩ := e_bind hf
            refine E.callVDs (es' := (wW57 G b v42_beasts v42_seats v42_seated v42_quota v42_known v42_surveyed v42_steadyBench v42_steadyWays v42_steadySwing a43 a44 a46 a47 r9 a49 v59_voters a60 v61_voters a62 v63_voters a64 v65_voters a66)) [] [0, 5] 0 42 dX1_pairFrom_168 mlX1_164 hw rfl rfl rfl rfl (mX1_note (hw.pick2 [0, 5] rfl (by decide)) hc9) rfl rfl rfl rfl ⟨Nat.le_of_ble_eq_true rfl, Nat.le_of_ble_eq_true rfl⟩ rfl rfl (Nat.le_of_ble_eq_true rfl) ⟨Nat.le_refl _, Nat.le_refl _⟩ rfl ?_
            refine E.goto dX1_pairFrom_171 ?_
            refine E.iinc (q := 11) (v := (x10 + 1)) (lv' := [(10, .int (x10 + 1)), (13, .int r6), (12, .int (x3 ||| ((((x10 : Int32) >>> ((1 : Int32) &&& 31)) : Int32) <<< ((x4 : Int32) &&& 31)))), (11, .int (x2 ||| (((x10 &&& 1) : Int32) <<< ((x4 : Int32) &&& 31)))), (0, .ref (b + 42)), (1, .int 4), (2, .int x2), (3, .int x3), (4, .int x4), (5, .int x5), (6, .long x6), (8, .long x8)]) dX1_pairFrom_204 rfl rfl (by decide) rfl ?_
            refine E.goto dX1_pairFrom_207 ?_
            refine E.locals [4, 5, 6, 7, 8, 9, 10, 11, 0] rfl ?_
            exact ih hf
def fX1_pairFrom_p4_L86 (Fu : Nat) (v42_seated : Int32) (v42_quota : Int32) (a43 : Nat → Int32) (a44 : Nat → Int32) (a46 : Nat → Int32) (a47 : Nat → Int32) (a48 : Nat → Int64) (a49 : Nat → Int32) (v59_voters : Int32) (a60 : Nat → Int64) (v61_voters : Int32) (a62 : Nat → Int64) (v63_voters : Int32) (a64 : Nat → Int64) (v65_voters : Int32) (a66 : Nat → Int64) (x2 : Int32) (x3 : Int32) (x4 : Int32) (x5 : Int32) (x6 : Int64) (s0 : Int64) : Option ((Nat → Int64) × Int32 × (Nat → Int64) × Int32 × (Nat → Int64) × Int32 × (Nat → Int64)) := fX1_pairFrom_p4_L91 Fu Fu v42_seated v42_quota a43 a44 a46 a47 a48 a49 v59_voters a60 v61_voters a62 v63_voters a64 v65_voters a66 x2 x3 x4 x5 x6 s0 0
set_option maxHeartbeats 4000000 in
set_option maxRecDepth 100000 in
theorem tX1_pairFrom_p4_L86 {G : GT} {b : Nat} {c0 : Hp} {n : Nat} (hw : e_wf (kW57) n) {v42_beasts : Int32} {v42_seats : Int32} {v42_known : Int32} {v42_surveyed : Int32} {v42_steadyBench : Int32} {v42_steadyWays : Int32} {v42_steadySwing : Int64} {Fu : Nat} {v42_seated : Int32} {v42_quota : Int32} {a43 : Nat → Int32} {a44 : Nat → Int32} {a46 : Nat → Int32} {a47 : Nat → Int32} {a48 : Nat → Int64} {a49 : Nat → Int32} {v59_voters : Int32} {a60 : Nat → Int64} {v61_voters : Int32} {a62 : Nat → Int64} {v63_voters : Int32} {a64 : Nat → Int64} {v65_voters : Int32} {a66 : Nat → Int64} {x2 : Int32} {x3 : Int32} {x4 : Int32} {x5 : Int32} {x6 : Int64} {s0 : Int64} {R : (Nat → Int64) × Int32 × (Nat → Int64) × Int32 × (Nat → Int64) × Int32 × (Nat → Int64)} (hf : fX1_pairFrom_p4_L86 Fu v42_seated v42_quota a43 a44 a46 a47 a48 a49 v59_voters a60 v61_voters a62 v63_voters a64 v65_voters a66 x2 x3 x4 x5 x6 s0 = some R) : E G b yX1_pairFrom cX1_pairFrom 14 none (e_rm 5 0 0) e_X0 (e_Z G b (pD none (e_ov (kW57) (wW57 G b v42_beasts v42_seats v42_seated v42_quota v42_known v42_surveyed v42_steadyBench v42_steadyWays v42_steadySwing a43 a44 a46 a47 R.1 a49 v59_voters a60 R.2.1 R.2.2.1 R.2.2.2.1 R.2.2.2.2.1 R.2.2.2.2.2.1 R.2.2.2.2.2.2) c0) n) 0 0) 86 [(0, .ref (b + 42)), (1, .int 4), (2, .int x2), (3, .int x3), (4, .int x4), (5, .int x5), (6, .long x6)] [.long s0] (e_ov (kW57) (wW57 G b v42_beasts v42_seats v42_seated v42_quota v42_known v42_surveyed v42_steadyBench v42_steadyWays v42_steadySwing a43 a44 a46 a47 a48 a49 v59_voters a60 v61_voters a62 v63_voters a64 v65_voters a66) c0) n 0 0 := by
  unfold fX1_pairFrom_p4_L86 at hf
  refine E.lstore (lv' := [(8, .long s0), (0, .ref (b + 42)), (1, .int 4), (2, .int x2), (3, .int x3), (4, .int x4), (5, .int x5), (6, .long x6)]) dX1_pairFrom_86 (by decide) rfl ?_
  refine E.iconst (v := 0) dX1_pairFrom_88 (by decide) ?_
  refine E.istore (lv' := [(10, .int 0), (8, .long s0), (0, .ref (b + 42)), (1, .int 4), (2, .int x2), (3, .int x3), (4, .int x4), (5, .int x5), (6, .long x6)]) dX1_pairFrom_89 (by decide) rfl ?_
  refine E.locals [2, 3, 4, 5, 6, 7, 8, 1, 0] rfl ?_
  exact tX1_pairFrom_p4_L91 hw _ hf
def fX1_pairFrom_p4_L60 (Fu : Nat) (v42_seated : Int32) (v42_quota : Int32) (a43 : Nat → Int32) (a44 : Nat → Int32) (a46 : Nat → Int32) (a47 : Nat → Int32) (a48 : Nat → Int64) (a49 : Nat → Int32) (v59_voters : Int32) (a60 : Nat → Int64) (v61_voters : Int32) (a62 : Nat → Int64) (v63_voters : Int32) (a64 : Nat → Int64) (v65_voters : Int32) (a66 : Nat → Int64) (x2 : Int32) (x3 : Int32) (x4 : Int32) (x5 : Int32) (s0 : Int64) : Option ((Nat → Int64) × Int32 × (Nat → Int64) × Int32 × (Nat → Int64) × Int32 × (Nat → Int64)) := if (x5 : Int32) = (0 : Int32) then (fX1_pairFrom_p4_L86 Fu v42_seated v42_quota a43 a44 a46 a47 a48 a49 v59_voters a60 v61_voters a62 v63_voters a64 v65_voters a66 x2 x3 x4 x5 s0 0) else ((fX8_just v59_voters a60 (v42_quota - 1)).bind fun r3 => (fX1_pairFrom_p4_L86 Fu v42_seated v42_quota a43 a44 a46 a47 a48 a49 v59_voters a60 v61_voters a62 v63_voters a64 v65_voters a66 x2 x3 x4 x5 s0 r3))
set_option maxHeartbeats 4000000 in
set_option maxRecDepth 100000 in
theorem tX1_pairFrom_p4_L60 {G : GT} {b : Nat} {c0 : Hp} {n : Nat} (hw : e_wf (kW57) n) {v42_beasts : Int32} {v42_seats : Int32} {v42_known : Int32} {v42_surveyed : Int32} {v42_steadyBench : Int32} {v42_steadyWays : Int32} {v42_steadySwing : Int64} {Fu : Nat} {v42_seated : Int32} {v42_quota : Int32} {a43 : Nat → Int32} {a44 : Nat → Int32} {a46 : Nat → Int32} {a47 : Nat → Int32} {a48 : Nat → Int64} {a49 : Nat → Int32} {v59_voters : Int32} {a60 : Nat → Int64} {v61_voters : Int32} {a62 : Nat → Int64} {v63_voters : Int32} {a64 : Nat → Int64} {v65_voters : Int32} {a66 : Nat → Int64} {x2 : Int32} {x3 : Int32} {x4 : Int32} {x5 : Int32} {s0 : Int64} {R : (Nat → Int64) × Int32 × (Nat → Int64) × Int32 × (Nat → Int64) × Int32 × (Nat → Int64)} (hf : fX1_pairFrom_p4_L60 Fu v42_seated v42_quota a43 a44 a46 a47 a48 a49 v59_voters a60 v61_voters a62 v63_voters a64 v65_voters a66 x2 x3 x4 x5 s0 = some R) : E G b yX1_pairFrom cX1_pairFrom 14 none (e_rm 5 0 0) e_X0 (e_Z G b (pD none (e_ov (kW57) (wW57 G b v42_beasts v42_seats v42_seated v42_quota v42_known v42_surveyed v42_steadyBench v42_steadyWays v42_steadySwing a43 a44 a46 a47 R.1 a49 v59_voters a60 R.2.1 R.2.2.1 R.2.2.2.1 R.2.2.2.2.1 R.2.2.2.2.2.1 R.2.2.2.2.2.2) c0) n) 0 0) 60 [(0, .ref (b + 42)), (1, .int 4), (2, .int x2), (3, .int x3), (4, .int x4), (5, .int x5)] [.long s0] (e_ov (kW57) (wW57 G b v42_beasts v42_seats v42_seated v42_quota v42_known v42_surveyed v42_steadyBench v42_steadyWays v42_steadySwing a43 a44 a46 a47 a48 a49 v59_voters a60 v61_voters a62 v63_voters a64 v65_voters a66) c0) n 0 0 := by
  unfold fX1_pairFrom_p4_L60 at hf
  refine E.lstore (lv' := [(6, .long s0), (0, .ref (b + 42)), (1, .int 4), (2, .int x2), (3, .int x3), (4, .int x4), (5, .int x5)]) dX1_pairFrom_60 (by decide) rfl ?_
  refine E.iload 6 dX1_pairFrom_62 rfl ?_
  refine E.if_eq dX1_pairFrom_64 (fun h => ?_) (fun h => ?_)
  · have hf := e_ift hf h
    refine E.lconst (v := 0) dX1_pairFrom_85 (by decide) ?_
    refine E.locals [1, 2, 3, 4, 5, 6, 0] rfl ?_
    exact tX1_pairFrom_p4_L86 hw hf
  · have hf := e_iff hf h
    refine E.aload_n 1 dX1_pairFrom_67 rfl ?_
    refine E.get hw 0 42 dX1_pairFrom_68 flX1_36 rfl rfl rfl rfl ?_
    refine E.iload_n 2 dX1_pairFrom_71 rfl ?_
    refine E.aaldL hw 7 50 4 dX1_pairFrom_72 rfl rfl rfl (by unfold vp_in; decide) (by decide) rfl ?_
    refine E.aload_n 1 dX1_pairFrom_73 rfl ?_
    refine E.get hw 0 42 dX1_pairFrom_74 flX1_66 rfl rfl rfl rfl ?_
    refine E.iconst (v := 1) dX1_pairFrom_77 (by decide) ?_
    refine E.isub dX1_pairFrom_78 ?_
    obtain ⟨r3, hc3, hf⟩ := e_bind hf
    refine E.callVDs (es' := (wW57 G b v42_beasts v42_seats v42_seated v42_quota v42_known v42_surveyed v42_steadyBench v42_steadyWays v42_steadySwing a43 a44 a46 a47 a48 a49 v59_voters a60 v61_voters a62 v63_voters a64 v65_voters a66)) [] [8, 9] 8 59 dX1_pairFrom_79 mlX1_174 hw rfl rfl rfl rfl (mX8_just (hw.pick2 [8, 9] rfl (by decide)) hc3) rfl rfl rfl rfl ⟨Nat.le_of_ble_eq_true rfl, Nat.le_of_ble_eq_true rfl⟩ rfl rfl (Nat.le_of_ble_eq_true rfl) ⟨Nat.le_refl _, Nat.le_refl _⟩ rfl ?_
    refine E.goto dX1_pairFrom_82 ?_
    refine E.locals [1, 2, 3, 4, 5, 6, 0] rfl ?_
    exact tX1_pairFrom_p4_L86 hw hf
def fX1_pairFrom_p4_L32 (Fu : Nat) (v42_seated : Int32) (v42_quota : Int32) (a43 : Nat → Int32) (a44 : Nat → Int32) (a46 : Nat → Int32) (a47 : Nat → Int32) (a48 : Nat → Int64) (a49 : Nat → Int32) (v59_voters : Int32) (a60 : Nat → Int64) (v61_voters : Int32) (a62 : Nat → Int64) (v63_voters : Int32) (a64 : Nat → Int64) (v65_voters : Int32) (a66 : Nat → Int64) (x2 : Int32) (x3 : Int32) (x4 : Int32) (s0 : Int32) : Option ((Nat → Int64) × Int32 × (Nat → Int64) × Int32 × (Nat → Int64) × Int32 × (Nat → Int64)) := if (s0 : Int32) = (0 : Int32) then (fX1_pairFrom_p4_L60 Fu v42_seated v42_quota a43 a44 a46 a47 a48 a49 v59_voters a60 v61_voters a62 v63_voters a64 v65_voters a66 x2 x3 x4 s0 0) else ((fX8_atLeast Fu v59_voters a60 v42_quota).bind fun r2 => (fX1_pairFrom_p4_L60 Fu v42_seated v42_quota a43 a44 a46 a47 a48 a49 v59_voters a60 v61_voters a62 v63_voters a64 v65_voters a66 x2 x3 x4 s0 (r2 * 100)))
set_option maxHeartbeats 4000000 in
set_option maxRecDepth 100000 in
theorem tX1_pairFrom_p4_L32 {G : GT} {b : Nat} {c0 : Hp} {n : Nat} (hw : e_wf (kW57) n) {v42_beasts : Int32} {v42_seats : Int32} {v42_known : Int32} {v42_surveyed : Int32} {v42_steadyBench : Int32} {v42_steadyWays : Int32} {v42_steadySwing : Int64} {Fu : Nat} {v42_seated : Int32} {v42_quota : Int32} {a43 : Nat → Int32} {a44 : Nat → Int32} {a46 : Nat → Int32} {a47 : Nat → Int32} {a48 : Nat → Int64} {a49 : Nat → Int32} {v59_voters : Int32} {a60 : Nat → Int64} {v61_voters : Int32} {a62 : Nat → Int64} {v63_voters : Int32} {a64 : Nat → Int64} {v65_voters : Int32} {a66 : Nat → Int64} {x2 : Int32} {x3 : Int32} {x4 : Int32} {s0 : Int32} {R : (Nat → Int64) × Int32 × (Nat → Int64) × Int32 × (Nat → Int64) × Int32 × (Nat → Int64)} (hf : fX1_pairFrom_p4_L32 Fu v42_seated v42_quota a43 a44 a46 a47 a48 a49 v59_voters a60 v61_voters a62 v63_voters a64 v65_voters a66 x2 x3 x4 s0 = some R) : E G b yX1_pairFrom cX1_pairFrom 14 none (e_rm 5 0 0) e_X0 (e_Z G b (pD none (e_ov (kW57) (wW57 G b v42_beasts v42_seats v42_seated v42_quota v42_known v42_surveyed v42_steadyBench v42_steadyWays v42_steadySwing a43 a44 a46 a47 R.1 a49 v59_voters a60 R.2.1 R.2.2.1 R.2.2.2.1 R.2.2.2.2.1 R.2.2.2.2.2.1 R.2.2.2.2.2.2) c0) n) 0 0) 32 [(0, .ref (b + 42)), (1, .int 4), (2, .int x2), (3, .int x3), (4, .int x4)] [.int s0] (e_ov (kW57) (wW57 G b v42_beasts v42_seats v42_seated v42_quota v42_known v42_surveyed v42_steadyBench v42_steadyWays v42_steadySwing a43 a44 a46 a47 a48 a49 v59_voters a60 v61_voters a62 v63_voters a64 v65_voters a66) c0) n 0 0 := by
  unfold fX1_pairFrom_p4_L32 at hf
  refine E.istore (lv' := [(5, .int s0), (0, .ref (b + 42)), (1, .int 4), (2, .int x2), (3, .int x3), (4, .int x4)]) dX1_pairFrom_32 (by decide) rfl ?_
  refine E.iload 0 dX1_pairFrom_34 rfl ?_
  refine E.if_eq dX1_pairFrom_36 (fun h => ?_) (fun h => ?_)
  · have hf := e_ift hf h
    refine E.lconst (v := 0) dX1_pairFrom_59 (by decide) ?_
    refine E.locals [1, 2, 3, 4, 5, 0] rfl ?_
    exact tX1_pairFrom_p4_L60 hw hf
  · have hf := e_iff hf h
    refine E.aload_n 1 dX1_pairFrom_39 rfl ?_
    refine E.get hw 0 42 dX1_pairFrom_40 flX1_36 rfl rfl rfl rfl ?_
    refine E.iload_n 2 dX1_pairFrom_43 rfl ?_
    refine E.aaldL hw 7 50 4 dX1_pairFrom_44 rfl rfl rfl (by unfold vp_in; decide) (by decide) rfl ?_
    refine E.aload_n 1 dX1_pairFrom_45 rfl ?_
    refine E.get hw 0 42 dX1_pairFrom_46 flX1_66 rfl rfl rfl rfl ?_
    obtain ⟨r2, hc2, hf⟩ := e_bind hf
    refine E.callVDs (es' := (wW57 G b v42_beasts v42_seats v42_seated v42_quota v42_known v42_surveyed v42_steadyBench v42_steadyWays v42_steadySwing a43 a44 a46 a47 a48 a49 v59_voters a60 v61_voters a62 v63_voters a64 v65_voters a66)) [] [8, 9] 8 59 dX1_pairFrom_49 mlX1_120 hw rfl rfl rfl rfl (mX8_atLeast (hw.pick2 [8, 9] rfl (by decide)) hc2) rfl rfl rfl rfl ⟨Nat.le_of_ble_eq_true rfl, Nat.le_of_ble_eq_true rfl⟩ rfl rfl (Nat.le_of_ble_eq_true rfl) ⟨Nat.le_refl _, Nat.le_refl _⟩ rfl ?_
    refine E.ldc2 dX1_pairFrom_52 kX1_172 ?_
    refine E.lmul dX1_pairFrom_55 ?_
    refine E.goto dX1_pairFrom_56 ?_
    refine E.locals [1, 2, 3, 4, 5, 0] rfl ?_
    exact tX1_pairFrom_p4_L60 hw hf
def fX1_pairFrom_p4 (Fu : Nat) (v42_seated : Int32) (v42_quota : Int32) (a43 : Nat → Int32) (a44 : Nat → Int32) (a46 : Nat → Int32) (a47 : Nat → Int32) (a48 : Nat → Int64) (a49 : Nat → Int32) (v59_voters : Int32) (a60 : Nat → Int64) (v61_voters : Int32) (a62 : Nat → Int64) (v63_voters : Int32) (a64 : Nat → Int64) (v65_voters : Int32) (a66 : Nat → Int64) (x2 : Int32) (x3 : Int32) : Option ((Nat → Int64) × Int32 × (Nat → Int64) × Int32 × (Nat → Int64) × Int32 × (Nat → Int64)) := if (4 : Int32) < (v42_seated : Int32) then (gd 4 8 (if (5 : Int32) < (v42_seated : Int32) then (fX1_pairFrom_p4_L32 Fu v42_seated v42_quota a43 a44 a46 a47 a48 a49 v59_voters a60 v61_voters a62 v63_voters a64 v65_voters a66 x2 x3 (a49 (4 : Int32).toNatClampNeg) 0) else (fX1_pairFrom_p4_L32 Fu v42_seated v42_quota a43 a44 a46 a47 a48 a49 v59_voters a60 v61_voters a62 v63_voters a64 v65_voters a66 x2 x3 (a49 (4 : Int32).toNatClampNeg) 1))) else (some (a48, v61_voters, a62, v63_voters, a64, v65_voters, a66))
set_option maxHeartbeats 4000000 in
set_option maxRecDepth 100000 in
theorem tX1_pairFrom_p4 {G : GT} {b : Nat} {c0 : Hp} {n : Nat} (hw : e_wf (kW57) n) {v42_beasts : Int32} {v42_seats : Int32} {v42_known : Int32} {v42_surveyed : Int32} {v42_steadyBench : Int32} {v42_steadyWays : Int32} {v42_steadySwing : Int64} {Fu : Nat} {v42_seated : Int32} {v42_quota : Int32} {a43 : Nat → Int32} {a44 : Nat → Int32} {a46 : Nat → Int32} {a47 : Nat → Int32} {a48 : Nat → Int64} {a49 : Nat → Int32} {v59_voters : Int32} {a60 : Nat → Int64} {v61_voters : Int32} {a62 : Nat → Int64} {v63_voters : Int32} {a64 : Nat → Int64} {v65_voters : Int32} {a66 : Nat → Int64} {x2 : Int32} {x3 : Int32} {R : (Nat → Int64) × Int32 × (Nat → Int64) × Int32 × (Nat → Int64) × Int32 × (Nat → Int64)} (hf : fX1_pairFrom_p4 Fu v42_seated v42_quota a43 a44 a46 a47 a48 a49 v59_voters a60 v61_voters a62 v63_voters a64 v65_voters a66 x2 x3 = some R) : E G b yX1_pairFrom cX1_pairFrom 14 none (e_rm 5 0 0) e_X0 (e_Z G b (pD none (e_ov (kW57) (wW57 G b v42_beasts v42_seats v42_seated v42_quota v42_known v42_surveyed v42_steadyBench v42_steadyWays v42_steadySwing a43 a44 a46 a47 R.1 a49 v59_voters a60 R.2.1 R.2.2.1 R.2.2.2.1 R.2.2.2.2.1 R.2.2.2.2.2.1 R.2.2.2.2.2.2) c0) n) 0 0) 0 [(0, .ref (b + 42)), (1, .int 4), (2, .int x2), (3, .int x3)] [] (e_ov (kW57) (wW57 G b v42_beasts v42_seats v42_seated v42_quota v42_known v42_surveyed v42_steadyBench v42_steadyWays v42_steadySwing a43 a44 a46 a47 a48 a49 v59_voters a60 v61_voters a62 v63_voters a64 v65_voters a66) c0) n 0 0 := by
  unfold fX1_pairFrom_p4 at hf
  refine E.iload_n 1 dX1_pairFrom_0 rfl ?_
  refine E.aload_n 0 dX1_pairFrom_1 rfl ?_
  refine E.get hw 0 42 dX1_pairFrom_2 flX1_69 rfl rfl rfl rfl ?_
  refine E.icmp_lt dX1_pairFrom_5 (fun h => ?_) (fun h => ?_)
  · have hf := e_ift hf h
    refine E.aload_n 0 dX1_pairFrom_9 rfl ?_
    refine E.get hw 0 42 dX1_pairFrom_10 flX1_31 rfl rfl rfl rfl ?_
    refine E.iload_n 1 dX1_pairFrom_13 rfl ?_
    obtain ⟨g1, hf⟩ := gd_some hf
    refine E.iald hw 6 49 dX1_pairFrom_14 rfl rfl g1 ?_
    refine E.istore (lv' := [(4, .int (a49 (4 : Int32).toNatClampNeg)), (0, .ref (b + 42)), (1, .int 4), (2, .int x2), (3, .int x3)]) dX1_pairFrom_15 (by decide) rfl ?_
    refine E.iload_n 2 dX1_pairFrom_17 rfl ?_
    refine E.iconst (v := 1) dX1_pairFrom_18 (by decide) ?_
    refine E.iadd dX1_pairFrom_19 ?_
    refine E.fold (v := 5) (by decide) ?_
    refine E.aload_n 1 dX1_pairFrom_20 rfl ?_
    refine E.get hw 0 42 dX1_pairFrom_21 flX1_69 rfl rfl rfl rfl ?_
    refine E.icmp_lt dX1_pairFrom_24 (fun h => ?_) (fun h => ?_)
    · have hf := e_ift hf h
      refine E.iconst (v := 0) dX1_pairFrom_31 (by decide) ?_
      refine E.locals [1, 2, 3, 4, 0] rfl ?_
      exact tX1_pairFrom_p4_L32 hw hf
    · have hf := e_iff hf h
      refine E.iconst (v := 1) dX1_pairFrom_27 (by decide) ?_
      refine E.goto dX1_pairFrom_28 ?_
      refine E.locals [1, 2, 3, 4, 0] rfl ?_
      exact tX1_pairFrom_p4_L32 hw hf
  · have hf := e_iff hf h
    cases hf
    exact E.vret dX1_pairFrom_8 (Nat.le_refl _) (Nat.le_refl _) (pD_rf _ _ _)
set_option maxRecDepth 100000 in
theorem mX1_pairFrom_p4 {G : GT} {b : Nat} {c0 : Hp} {n : Nat} (hw : e_wf (kW57) n) {v42_beasts : Int32} {v42_seats : Int32} {v42_known : Int32} {v42_surveyed : Int32} {v42_steadyBench : Int32} {v42_steadyWays : Int32} {v42_steadySwing : Int64} {Fu : Nat} {v42_seated : Int32} {v42_quota : Int32} {a43 : Nat → Int32} {a44 : Nat → Int32} {a46 : Nat → Int32} {a47 : Nat → Int32} {a48 : Nat → Int64} {a49 : Nat → Int32} {v59_voters : Int32} {a60 : Nat → Int64} {v61_voters : Int32} {a62 : Nat → Int64} {v63_voters : Int32} {a64 : Nat → Int64} {v65_voters : Int32} {a66 : Nat → Int64} {x2 : Int32} {x3 : Int32} {R : (Nat → Int64) × Int32 × (Nat → Int64) × Int32 × (Nat → Int64) × Int32 × (Nat → Int64)} (hf : fX1_pairFrom_p4 Fu v42_seated v42_quota a43 a44 a46 a47 a48 a49 v59_voters a60 v61_voters a62 v63_voters a64 v65_voters a66 x2 x3 = some R) : e_C G b yX1_pairFrom cX1_pairFrom 14 none 5 0 0 [.ref (b + 42), .int 4, .int x2, .int x3] (e_ov (kW57) (wW57 G b v42_beasts v42_seats v42_seated v42_quota v42_known v42_surveyed v42_steadyBench v42_steadyWays v42_steadySwing a43 a44 a46 a47 a48 a49 v59_voters a60 v61_voters a62 v63_voters a64 v65_voters a66) c0) n (pD none (e_ov (kW57) (wW57 G b v42_beasts v42_seats v42_seated v42_quota v42_known v42_surveyed v42_steadyBench v42_steadyWays v42_steadySwing a43 a44 a46 a47 R.1 a49 v59_voters a60 R.2.1 R.2.2.1 R.2.2.2.1 R.2.2.2.2.1 R.2.2.2.2.2.1 R.2.2.2.2.2.2) c0) n) := e_C.of (by decide) (Nat.le_of_ble_eq_true rfl) (tX1_pairFrom_p4 hw hf)
