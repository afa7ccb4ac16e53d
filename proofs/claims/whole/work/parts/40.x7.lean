abbrev kW58 : List Nat := [42, 43, 44, 46, 47, 48, 49, 50, 57, 58, 59, 60, 61, 62, 63, 64, 65, 66]
abbrev wW58 (G : GT) (b  : Nat) (v42_beasts : Int32) (v42_seats : Int32) (v42_seated : Int32) (v42_quota : Int32) (v42_known : Int32) (v42_surveyed : Int32) (v42_steadyBench : Int32) (v42_steadyWays : Int32) (v42_steadySwing : Int64) (a43 : Nat → Int32) (a44 : Nat → Int32) (a46 : Nat → Int32) (a47 : Nat → Int32) (a48 : Nat → Int64) (a49 : Nat → Int32) (v57_voters : Int32) (a58 : Nat → Int64) (v59_voters : Int32) (a60 : Nat → Int64) (v61_voters : Int32) (a62 : Nat → Int64) (v63_voters : Int32) (a64 : Nat → Int64) (v65_voters : Int32) (a66 : Nat → Int64) : List va_E := [.inr (1, [.ref (b + 43), .ref (b + 44), .ref (b + 45), .ref (b + 46), .ref (b + 47), .ref (b + 48), .ref (b + 49), .ref (b + 50), .ref (b + 67), .int v42_beasts, .int v42_seats, .int v42_seated, .int v42_quota, .int v42_known, .int v42_surveyed, .int v42_steadyBench, .int v42_steadyWays, .long v42_steadySwing]), aI G 32 a43, aI G 8 a44, aI G 512 a46, aI G 2 a47, aJ G 512 a48, aI G 8 a49, aQ G 5 8 (e_tlQ b), .inr (8, [.ref (b + 58), .int v57_voters]), aJ G 9 a58, .inr (8, [.ref (b + 60), .int v59_voters]), aJ G 9 a60, .inr (8, [.ref (b + 62), .int v61_voters]), aJ G 9 a62, .inr (8, [.ref (b + 64), .int v63_voters]), aJ G 9 a64, .inr (8, [.ref (b + 66), .int v65_voters]), aJ G 9 a66]
def fX1_pairFrom_p3_L91 (Fu : Nat) : Nat → Int32 → Int32 → (Nat → Int32) → (Nat → Int32) → (Nat → Int32) → (Nat → Int32) → (Nat → Int64) → (Nat → Int32) → Int32 → (Nat → Int64) → Int32 → (Nat → Int64) → Int32 → (Nat → Int64) → Int32 → (Nat → Int64) → Int32 → (Nat → Int64) → Int32 → Int32 → Int32 → Int32 → Int64 → Int64 → Int32 → Option ((Nat → Int64) × Int32 × (Nat → Int64) × Int32 × (Nat → Int64) × Int32 × (Nat → Int64) × Int32 × (Nat → Int64))
  | 0, _, _, _, _, _, _, _, _, _, _, _, _, _, _, _, _, _, _, _, _, _, _, _, _, _ => none
  | k + 1, v42_seated, v42_quota, a43, a44, a46, a47, a48, a49, v57_voters, a58, v59_voters, a60, v61_voters, a62, v63_voters, a64, v65_voters, a66, x2, x3, x4, x5, x6, x8, x10 => if (3 : Int32) < (x10 : Int32) then (some (a48, v59_voters, a60, v61_voters, a62, v63_voters, a64, v65_voters, a66)) else ((fX1_affords a46 a47 0 (x2 ||| (((x10 &&& 1) : Int32) <<< ((x4 : Int32) &&& 31)))).bind fun r4 => (if (r4 : Int32) = (0 : Int32) then ((fX1_pairFrom_p3_L91 Fu k) v42_seated v42_quota a43 a44 a46 a47 a48 a49 v57_voters a58 v59_voters a60 v61_voters a62 v63_voters a64 v65_voters a66 x2 x3 x4 x5 x6 x8 (x10 + 1)) else ((fX1_affords a46 a47 1 (x3 ||| ((((x10 : Int32) >>> ((1 : Int32) &&& 31)) : Int32) <<< ((x4 : Int32) &&& 31)))).bind fun r5 => (if (r5 : Int32) = (0 : Int32) then ((fX1_pairFrom_p3_L91 Fu k) v42_seated v42_quota a43 a44 a46 a47 a48 a49 v57_voters a58 v59_voters a60 v61_voters a62 v63_voters a64 v65_voters a66 x2 x3 x4 x5 x6 x8 (x10 + 1)) else ((fX1_chanceWith a43 a44 x4 x10).bind fun r6 => (if (x5 : Int32) = (0 : Int32) then ((fX8_voteAfter Fu v59_voters a60 v57_voters a58 r6).bind fun r7 => ((fX1_pairFrom_p4 Fu v42_seated v42_quota a43 a44 a46 a47 a48 a49 r7.1 r7.2 v61_voters a62 v63_voters a64 v65_voters a66 (x2 ||| (((x10 &&& 1) : Int32) <<< ((x4 : Int32) &&& 31))) (x3 ||| ((((x10 : Int32) >>> ((1 : Int32) &&& 31)) : Int32) <<< ((x4 : Int32) &&& 31)))).bind fun r8 => ((fX1_pairFrom_p3_L91 Fu k) v42_seated v42_quota a43 a44 a46 a47 r8.1 a49 v57_voters a58 r7.1 r7.2 r8.2.1 r8.2.2.1 r8.2.2.2.1 r8.2.2.2.2.1 r8.2.2.2.2.2.1 r8.2.2.2.2.2.2 x2 x3 x4 x5 x6 x8 (x10 + 1)))) else ((fX1_note a48 (x2 ||| (((x10 &&& 1) : Int32) <<< ((x4 : Int32) &&& 31))) (x3 ||| ((((x10 : Int32) >>> ((1 : Int32) &&& 31)) : Int32) <<< ((x4 : Int32) &&& 31))) (x6 + (x8 * ((r6 : Int32).toInt64)))).bind fun r9 => ((fX1_pairFrom_p3_L91 Fu k) v42_seated v42_quota a43 a44 a46 a47 r9 a49 v57_voters a58 v59_voters a60 v61_voters a62 v63_voters a64 v65_voters a66 x2 x3 x4 x5 x6 x8 (x10 + 1)))))))))
set_option maxHeartbeats 4000000 in
set_option maxRecDepth 100000 in
theorem tX1_pairFrom_p3_L91 {G : GT} {b : Nat} {c0 : Hp} {n : Nat} (hw : e_wf (kW58) n) {v42_beasts : Int32} {v42_seats : Int32} {v42_known : Int32} {v42_surveyed : Int32} {v42_steadyBench : Int32} {v42_steadyWays : Int32} {v42_steadySwing : Int64} {Fu : Nat} : ∀ (k : Nat) {v42_seated : Int32} {v42_quota : Int32} {a43 : Nat → Int32} {a44 : Nat → Int32} {a46 : Nat → Int32} {a47 : Nat → Int32} {a48 : Nat → Int64} {a49 : Nat → Int32} {v57_voters : Int32} {a58 : Nat → Int64} {v59_voters : Int32} {a60 : Nat → Int64} {v61_voters : Int32} {a62 : Nat → Int64} {v63_voters : Int32} {a64 : Nat → Int64} {v65_voters : Int32} {a66 : Nat → Int64} {x2 : Int32} {x3 : Int32} {x4 : Int32} {x5 : Int32} {x6 : Int64} {x8 : Int64} {x10 : Int32} {R : (Nat → Int64) × Int32 × (Nat → Int64) × Int32 × (Nat → Int64) × Int32 × (Nat → Int64) × Int32 × (Nat → Int64)}, fX1_pairFrom_p3_L91 Fu k v42_seated v42_quota a43 a44 a46 a47 a48 a49 v57_voters a58 v59_voters a60 v61_voters a62 v63_voters a64 v65_voters a66 x2 x3 x4 x5 x6 x8 x10 = some R → E G b yX1_pairFrom cX1_pairFrom 14 none (e_rm 6 0 0) e_X0 (e_Z G b (pD none (e_ov (kW58) (wW58 G b v42_beasts v42_seats v42_seated v42_quota v42_known v42_surveyed v42_steadyBench v42_steadyWays v42_steadySwing a43 a44 a46 a47 R.1 a49 v57_voters a58 R.2.1 R.2.2.1 R.2.2.2.1 R.2.2.2.2.1 R.2.2.2.2.2.1 R.2.2.2.2.2.2.1 R.2.2.2.2.2.2.2.1 R.2.2.2.2.2.2.2.2) c0) n) 0 0) 91 [(0, .ref (b + 42)), (1, .int 3), (2, .int x2), (3, .int x3), (4, .int x4), (5, .int x5), (6, .long x6), (8, .long x8), (10, .int x10)] [] (e_ov (kW58) (wW58 G b v42_beasts v42_seats v42_seated v42_quota v42_known v42_surveyed v42_steadyBench v42_steadyWays v42_steadySwing a43 a44 a46 a47 a48 a49 v57_voters a58 v59_voters a60 v61_voters a62 v63_voters a64 v65_voters a66) c0) n 0 0 := by
  intro k
  induction k with
  | zero =>
    intro _ _ _ _ _ _ _ _ _ _ _ _ _ _ _ _ _ _ _ _ _ _ _ _ _ _ hf
    have hf : (none : Option ((Nat → Int64) × Int32 × (Nat → Int64) × Int32 × (Nat → Int64) × Int32 × (Nat → Int64) × Int32 × (Nat → Int64))) = some _ := hf
    cases hf
  | succ k ih =>
    intro v42_seated v42_quota a43 a44 a46 a47 a48 a49 v57_voters a58 v59_voters a60 v61_voters a62 v63_voters a64 v65_voters a66 x2 x3 x4 x5 x6 x8 x10 R hf
    rw [fX1_pairFrom_p3_L91] at hf
    refine E.iload 8 dX1_pairFrom_91 rfl ?_
    refine E.iconst (v := 3) dX1_pairFrom_93 (by decide) ?_
    refine E.icmp_gt dX1_pairFrom_94 (fun h => ?_) (fun h => ?_)
    · have hf := e_ift hf h
      cases hf
      exact E.vret dX1_pairFrom_210 (Nat.le_refl _) (Nat.le_refl _) (pD_rf _ _ _)
    · have hf := e_iff hf h
      refine E.iload_n 2 dX1_pairFrom_97 rfl ?_
      refine E.iload 8 dX1_pairFrom_98 rfl ?_
      refine E.iconst (v := 1) dX1_pairFrom_100 (by decide) ?_
      refine E.iand dX1_pairFrom_101 ?_
      refine E.iload 4 dX1_pairFrom_102 rfl ?_
      refine E.ishl dX1_pairFrom_104 ?_
      refine E.ior dX1_pairFrom_105 ?_
      refine E.istore (lv' := [(11, .int (x2 ||| (((x10 &&& 1) : Int32) <<< ((x4 : Int32) &&& 31)))), (0, .ref (b + 42)), (1, .int 3), (2, .int x2), (3, .int x3), (4, .int x4), (5, .int x5), (6, .long x6), (8, .long x8), (10, .int x10)]) dX1_pairFrom_106 (by decide) rfl ?_
      refine E.iload_n 4 dX1_pairFrom_108 rfl ?_
      refine E.iload 9 dX1_pairFrom_109 rfl ?_
      refine E.iconst (v := 1) dX1_pairFrom_111 (by decide) ?_
      refine E.ishr dX1_pairFrom_112 ?_
      refine E.iload 5 dX1_pairFrom_113 rfl ?_
      refine E.ishl dX1_pairFrom_115 ?_
      refine E.ior dX1_pairFrom_116 ?_
      refine E.istore (lv' := [(12, .int (x3 ||| ((((x10 : Int32) >>> ((1 : Int32) &&& 31)) : Int32) <<< ((x4 : Int32) &&& 31)))), (11, .int (x2 ||| (((x10 &&& 1) : Int32) <<< ((x4 : Int32) &&& 31)))), (0, .ref (b + 42)), (1, .int 3), (2, .int x2), (3, .int x3), (4, .int x4), (5, .int x5), (6, .long x6), (8, .long x8), (10, .int x10)]) dX1_pairFrom_117 (by decide) rfl ?_
      refine E.aload_n 2 dX1_pairFrom_119 rfl ?_
      refine E.iconst (v := 0) dX1_pairFrom_120 (by decide) ?_
      refine E.iload 1 dX1_pairFrom_121 rfl ?_
      obtain ⟨r4, hc4, hf⟩ := e_bind hf
      refine E.callVDs (es' := (wW58 G b v42_beasts v42_seats v42_seated v42_quota v42_known v42_surveyed v42_steadyBench v42_steadyWays v42_steadySwing a43 a44 a46 a47 a48 a49 v57_voters a58 v59_voters a60 v61_voters a62 v63_voters a64 v65_voters a66)) [] [0, 3, 4] 0 42 dX1_pairFrom_123 mlX1_103 hw rfl rfl rfl rfl (mX1_affords (hw.pick2 [0, 3, 4] rfl (by decide)) hc4) rfl rfl rfl rfl ⟨Nat.le_of_ble_eq_true rfl, Nat.le_of_ble_eq_true rfl⟩ rfl rfl (Nat.le_of_ble_eq_true rfl) ⟨Nat.le_refl _, Nat.le_refl _⟩ rfl ?_
      refine E.if_eq dX1_pairFrom_126 (fun h => ?_) (fun h => ?_)
      · have hf := e_ift hf h
        refine E.iinc (q := 10) (v := (x10 + 1)) (lv' := [(10, .int (x10 + 1)), (12, .int (x3 ||| ((((x10 : Int32) >>> ((1 : Int32) &&& 31)) : Int32) <<< ((x4 : Int32) &&& 31)))), (11, .int (x2 ||| (((x10 &&& 1) : Int32) <<< ((x4 : Int32) &&& 31)))), (0, .ref (b + 42)), (1, .int 3), (2, .int x2), (3, .int x3), (4, .int x4), (5, .int x5), (6, .long x6), (8, .long x8)]) dX1_pairFrom_204 rfl rfl (by decide) rfl ?_
        refine E.goto dX1_pairFrom_207 ?_
        refine E.locals [3, 4, 5, 6, 7, 8, 9, 10, 0] rfl ?_
        exact ih hf
      · have hf := e_iff hf h
        refine E.aload_n 2 dX1_pairFrom_129 rfl ?_
        refine E.iconst (v := 1) dX1_pairFrom_130 (by decide) ?_
        refine E.iload 0 dX1_pairFrom_131 rfl ?_
        obtain ⟨r5, hc5, hf⟩ := e_bind hf
        refine E.callVDs (es' := (wW58 G b v42_beasts v42_seats v42_seated v42_quota v42_known v42_surveyed v42_steadyBench v42_steadyWays v42_steadySwing a43 a44 a46 a47 a48 a49 v57_voters a58 v59_voters a60 v61_voters a62 v63_voters a64 v65_voters a66)) [] [0, 3, 4] 0 42 dX1_pairFrom_133 mlX1_103 hw rfl rfl rfl rfl (mX1_affords (hw.pick2 [0, 3, 4] rfl (by decide)) hc5) rfl rfl rfl rfl ⟨Nat.le_of_ble_eq_true rfl, Nat.le_of_ble_eq_true rfl⟩ rfl rfl (Nat.le_of_ble_eq_true rfl) ⟨Nat.le_refl _, Nat.le_refl _⟩ rfl ?_
        refine E.if_eq dX1_pairFrom_136 (fun h => ?_) (fun h => ?_)
        · have hf := e_ift hf h
          refine E.iinc (q := 10) (v := (x10 + 1)) (lv' := [(10, .int (x10 + 1)), (12, .int (x3 ||| ((((x10 : Int32) >>> ((1 : Int32) &&& 31)) : Int32) <<< ((x4 : Int32) &&& 31)))), (11, .int (x2 ||| (((x10 &&& 1) : Int32) <<< ((x4 : Int32) &&& 31)))), (0, .ref (b + 42)), (1, .int 3), (2, .int x2), (3, .int x3), (4, .int x4), (5, .int x5), (6, .long x6), (8, .long x8)]) dX1_pairFrom_204 rfl rfl (by decide) rfl ?_
          refine E.goto dX1_pairFrom_207 ?_
          refine E.locals [3, 4, 5, 6, 7, 8, 9, 10, 0] rfl ?_
          exact ih hf
        · have hf := e_iff hf h
          refine E.aload_n 2 dX1_pairFrom_139 rfl ?_
          refine E.iload 6 dX1_pairFrom_140 rfl ?_
          refine E.iload 10 dX1_pairFrom_142 rfl ?_
          obtain ⟨r6, hc6, hf⟩ := e_bind hf
          refine E.callVDs (es' := (wW58 G b v42_beasts v42_seats v42_seated v42_quota v42_known v42_surveyed v42_steadyBench v42_steadyWays v42_steadySwing a43 a44 a46 a47 a48 a49 v57_voters a58 v59_voters a60 v61_voters a62 v63_voters a64 v65_voters a66)) [] [0, 1, 2] 0 42 dX1_pairFrom_144 mlX1_114 hw rfl rfl rfl rfl (mX1_chanceWith (hw.pick2 [0, 1, 2] rfl (by decide)) hc6) rfl rfl rfl rfl ⟨Nat.le_of_ble_eq_true rfl, Nat.le_of_ble_eq_true rfl⟩ rfl rfl (Nat.le_of_ble_eq_true rfl) ⟨Nat.le_refl _, Nat.le_refl _⟩ rfl ?_
          refine E.istore (lv' := [(13, .int r6), (12, .int (x3 ||| ((((x10 : Int32) >>> ((1 : Int32) &&& 31)) : Int32) <<< ((x4 : Int32) &&& 31)))), (11, .int (x2 ||| (((x10 &&& 1) : Int32) <<< ((x4 : Int32) &&& 31)))), (0, .ref (b + 42)), (1, .int 3), (2, .int x2), (3, .int x3), (4, .int x4), (5, .int x5), (6, .long x6), (8, .long x8), (10, .int x10)]) dX1_pairFrom_147 (by decide) rfl ?_
          refine E.iload 8 dX1_pairFrom_149 rfl ?_
          refine E.if_eq dX1_pairFrom_151 (fun h => ?_) (fun h => ?_)
          · have hf := e_ift hf h
            refine E.aload_n 3 dX1_pairFrom_174 rfl ?_
            refine E.get hw 0 42 dX1_pairFrom_175 flX1_36 rfl rfl rfl rfl ?_
            refine E.iload_n 4 dX1_pairFrom_178 rfl ?_
            refine E.iconst (v := 1) dX1_pairFrom_179 (by decide) ?_
            refine E.iadd dX1_pairFrom_180 ?_
            refine E.fold (v := 4) (by decide) ?_
            refine E.aaldL hw 7 50 4 dX1_pairFrom_181 rfl rfl rfl (by unfold vp_in; decide) (by decide) rfl ?_
            refine E.aload_n 3 dX1_pairFrom_182 rfl ?_
            refine E.get hw 0 42 dX1_pairFrom_183 flX1_36 rfl rfl rfl rfl ?_
            refine E.iload_n 4 dX1_pairFrom_186 rfl ?_
            refine E.aaldL hw 7 50 3 dX1_pairFrom_187 rfl rfl rfl (by unfold vp_in; decide) (by decide) rfl ?_
            refine E.iload 0 dX1_pairFrom_188 rfl ?_
            obtain ⟨r7, hc7, hf⟩ := e_bind hf
            refine E.callVDs (es' := (wW58 G b v42_beasts v42_seats v42_seated v42_quota v42_known v42_surveyed v42_steadyBench v42_steadyWays v42_steadySwing a43 a44 a46 a47 a48 a49 v57_voters a58 r7.1 r7.2 v61_voters a62 v63_voters a64 v65_voters a66)) [] [10, 11, 8, 9] 10 59 dX1_pairFrom_190 mlX1_177 hw rfl rfl rfl rfl (mX8_voteAfter (hw.pick2 [10, 11, 8, 9] rfl (by decide)) hc7) rfl rfl rfl rfl ⟨Nat.le_of_ble_eq_true rfl, Nat.le_of_ble_eq_true rfl⟩ rfl rfl (Nat.le_of_ble_eq_true rfl) ⟨Nat.le_refl _, Nat.le_refl _⟩ rfl ?_
            refine E.aload_n 3 dX1_pairFrom_193 rfl ?_
            refine E.iload_n 4 dX1_pairFrom_194 rfl ?_
            refine E.iconst (v := 1) dX1_pairFrom_195 (by decide) ?_
            refine E.iadd dX1_pairFrom_196 ?_
            refine E.fold (v := 4) (by decide) ?_
            refine E.iload 2 dX1_pairFrom_197 rfl ?_
            refine E.iload 1 dX1_pairFrom_199 rfl ?_
            obtain ⟨r8, hc8, hf⟩ := e_bind hf
            refine E.callVDs (es' := (wW58 G b v42_beasts v42_seats v42_seated v42_quota v42_known v42_surveyed v42_steadyBench v42_steadyWays v42_steadySwing a43 a44 a46 a47 r8.1 a49 v57_voters a58 r7.1 r7.2 r8.2.1 r8.2.2.1 r8.2.2.2.1 r8.2.2.2.2.1 r8.2.2.2.2.2.1 r8.2.2.2.2.2.2)) [] [0, 1, 2, 3, 4, 5, 6, 7, 10, 11, 12, 13, 14, 15, 16, 17] 0 42 dX1_pairFrom_201 mlX1_168 hw rfl rfl rfl rfl (mX1_pairFrom_p4 (hw.pick2 [0, 1, 2, 3, 4, 5, 6, 7, 10, 11, 12, 13, 14, 15, 16, 17] rfl (by decide)) hc8) rfl rfl rfl rfl ⟨Nat.le_of_ble_eq_true rfl, Nat.le_of_ble_eq_true rfl⟩ rfl rfl (Nat.le_of_ble_eq_true rfl) ⟨Nat.le_refl _, Nat.le_refl _⟩ rfl ?_
            refine E.iinc (q := 11) (v := (x10 + 1)) (lv' := [(10, .int (x10 + 1)), (13, .int r6), (12, .int (x3 ||| ((((x10 : Int32) >>> ((1 : Int32) &&& 31)) : Int32) <<< ((x4 : Int32) &&& 31)))), (11, .int (x2 ||| (((x10 &&& 1) : Int32) <<< ((x4 : Int32) &&& 31)))), (0, .ref (b + 42)), (1, .int 3), (2, .int x2), (3, .int x3), (4, .int x4), (5, .int x5), (6, .long x6), (8, .long x8)]) dX1_pairFrom_204 rfl rfl (by decide) rfl ?_
            refine E.goto dX1_pairFrom_207 ?_
            refine E.locals [4, 5, 6, 7, 8, 9, 10, 11, 0] rfl ?_
            exact ih hf
          · have hf := e_iff hf h
            refine E.aload_n 3 dX1_pairFrom_154 rfl ?_
            refine E.iload 2 dX1_pairFrom_155 rfl ?_
            refine E.iload 1 dX1_pairFrom_157 rfl ?_
            refine E.lload 9 dX1_pairFrom_159 rfl ?_
            refine E.lload 10 dX1_pairFrom_161 rfl ?_
            refine E.iload 0 dX1_pairFrom_163 rfl ?_
            refine E.i2l dX1_pairFrom_165 ?_
            refine E.lmul dX1_pairFrom_166 ?_
            refine E.ladd dX1_pairFrom_167 ?_
            obtain ⟨r9, hc9, hf⟩ := e_bind hf
            refine E.callVDs (es' := (wW58 G b v42_beasts v42_seats v42_seated v42_quota v42_known v42_surveyed v42_steadyBench v42_steadyWays v42_steadySwing a43 a44 a46 a47 r9 a49 v57_voters a58 v59_voters a60 v61_voters a62 v63_voters a64 v65_voters a66)) [] [0, 5] 0 42 dX1_pairFrom_168 mlX1_164 hw rfl rfl rfl rfl (mX1_note (hw.pick2 [0, 5] rfl (by decide)) hc9) rfl rfl rfl rfl ⟨Nat.le_of_ble_eq_true rfl, Nat.le_of_ble_eq_true rfl⟩ rfl rfl (Nat.le_of_ble_eq_true rfl) ⟨Nat.le_refl _, Nat.le_refl _⟩ rfl ?_
            refine E.goto dX1_pairFrom_171 ?_
            refine E.iinc (q := 11) (v := (x10 + 1)) (lv' := [(10, .int (x10 + 1)), (13, .int r6), (12, .int (x3 ||| ((((x10 : Int32) >>> ((1 : Int32) &&& 31)) : Int32) <<< ((x4 : Int32) &&& 31)))), (11, .int (x2 ||| (((x10 &&& 1) : Int32) <<< ((x4 : Int32) &&& 31)))), (0, .ref (b + 42)), (1, .int 3), (2, .int x2), (3, .int x3), (4, .int x4), (5, .int x5), (6, .long x6), (8, .long x8)]) dX1_pairFrom_204 rfl rfl (by decide) rfl ?_
            refine E.goto dX1_pairFrom_207 ?_
            refine E.locals [4, 5, 6, 7, 8, 9, 10, 11, 0] rfl ?_
            exact ih hf
def fX1_pairFrom_p3_L86 (Fu : Nat) (v42_seated : Int32) (v42_quota : Int32) (a43 : Nat → Int32) (a44 : Nat → Int32) (a46 : Nat → Int32) (a47 : Nat → Int32) (a48 : Nat → Int64) (a49 : Nat → Int32) (v57_voters : Int32) (a58 : Nat → Int64) (v59_voters : Int32) (a60 : Nat → Int64) (v61_voters : Int32) (a62 : Nat → Int64) (v63_voters : Int32) (a64 : Nat → Int64) (v65_voters : Int32) (a66 : Nat → Int64) (x2 : Int32) (x3 : Int32) (x4 : Int32) (x5 : Int32) (x6 : Int64) (s0 : Int64) : Option ((Nat → Int64) × Int32 × (Nat → Int64) × Int32 × (Nat → Int64) × Int32 × (Nat → Int64) × Int32 × (Nat → Int64)) := fX1_pairFrom_p3_L91 Fu Fu v42_seated v42_quota a43 a44 a46 a47 a48 a49 v57_voters a58 v59_voters a60 v61_voters a62 v63_voters a64 v65_voters a66 x2 x3 x4 x5 x6 s0 0
set_option maxHeartbeats 4000000 in
set_option maxRecDepth 100000 in
theorem tX1_pairFrom_p3_L86 {G : GT} {b : Nat} {c0 : Hp} {n : Nat} (hw : e_wf (kW58) n) {v42_beasts : Int32} {v42_seats : Int32} {v42_known : Int32} {v42_surveyed : Int32} {v42_steadyBench : Int32} {v42_steadyWays : Int32} {v42_steadySwing : Int64} {Fu : Nat} {v42_seated : Int32} {v42_quota : Int32} {a43 : Nat → Int32} {a44 : Nat → Int32} {a46 : Nat → Int32} {a47 : Nat → Int32} {a48 : Nat → Int64} {a49 : Nat → Int32} {v57_voters : Int32} {a58 : Nat → Int64} {v59_voters : Int32} {a60 : Nat → Int64} {v61_voters : Int32} {a62 : Nat → Int64} {v63_voters : Int32} {a64 : Nat → Int64} {v65_voters : Int32} {a66 : Nat → Int64} {x2 : Int32} {x3 : Int32} {x4 : Int32} {x5 : Int32} {x6 : Int64} {s0 : Int64} {R : (Nat → Int64) × Int32 × (Nat → Int64) × Int32 × (Nat → Int64) × Int32 × (Nat → Int64) × Int32 × (Nat → Int64)} (hf : fX1_pairFrom_p3_L86 Fu v42_seated v42_quota a43 a44 a46 a47 a48 a49 v57_voters a58 v59_voters a60 v61_voters a62 v63_voters a64 v65_voters a66 x2 x3 x4 x5 x6 s0 = some R) : E G b yX1_pairFrom cX1_pairFrom 14 none (e_rm 6 0 0) e_X0 (e_Z G b (pD none (e_ov (kW58) (wW58 G b v42_beasts v42_seats v42_seated v42_quota v42_known v42_surveyed v42_steadyBench v42_steadyWays v42_steadySwing a43 a44 a46 a47 R.1 a49 v57_voters a58 R.2.1 R.2.2.1 R.2.2.2.1 R.2.2.2.2.1 R.2.2.2.2.2.1 R.2.2.2.2.2.2.1 R.2.2.2.2.2.2.2.1 R.2.2.2.2.2.2.2.2) c0) n) 0 0) 86 [(0, .ref (b + 42)), (1, .int 3), (2, .int x2), (3, .int x3), (4, .int x4), (5, .int x5), (6, .long x6)] [.long s0] (e_ov (kW58) (wW58 G b v42_beasts v42_seats v42_seated v42_quota v42_known v42_surveyed v42_steadyBench v42_steadyWays v42_steadySwing a43 a44 a46 a47 a48 a49 v57_voters a58 v59_voters a60 v61_voters a62 v63_voters a64 v65_voters a66) c0) n 0 0 := by
  unfold fX1_pairFrom_p3_L86 at hf
  refine E.lstore (lv' := [(8, .long s0), (0, .ref (b + 42)), (1, .int 3), (2, .int x2), (3, .int x3), (4, .int x4), (5, .int x5), (6, .long x6)]) dX1_pairFrom_86 (by decide) rfl ?_
  refine E.iconst (v := 0) dX1_pairFrom_88 (by decide) ?_
  refine E.istore (lv' := [(10, .int 0), (8, .long s0), (0, .ref (b + 42)), (1, .int 3), (2, .int x2), (3, .int x3), (4, .int x4), (5, .int x5), (6, .long x6)]) dX1_pairFrom_89 (by decide) rfl ?_
  refine E.locals [2, 3, 4, 5, 6, 7, 8, 1, 0] rfl ?_
  exact tX1_pairFrom_p3_L91 hw _ hf
def fX1_pairFrom_p3_L60 (Fu : Nat) (v42_seated : Int32) (v42_quota : Int32) (a43 : Nat → Int32) (a44 : Nat → Int32) (a46 : Nat → Int32) (a47 : Nat → Int32) (a48 : Nat → Int64) (a49 : Nat → Int32) (v57_voters : Int32) (a58 : Nat → Int64) (v59_voters : Int32) (a60 : Nat → Int64) (v61_voters : Int32) (a62 : Nat → Int64) (v63_voters : Int32) (a64 : Nat → Int64) (v65_voters : Int32) (a66 : Nat → Int64) (x2 : Int32) (x3 : Int32) (x4 : Int32) (x5 : Int32) (s0 : Int64) : Option ((Nat → Int64) × Int32 × (Nat → Int64) × Int32 × (Nat → Int64) × Int32 × (Nat → Int64) × Int32 × (Nat → Int64)) := if (x5 : Int32) = (0 : Int32) then (fX1_pairFrom_p3_L86 Fu v42_seated v42_quota a43 a44 a46 a47 a48 a49 v57_voters a58 v59_voters a60 v61_voters a62 v63_voters a64 v65_voters a66 x2 x3 x4 x5 s0 0) else ((fX8_just v57_voters a58 (v42_quota - 1)).bind fun r3 => (fX1_pairFrom_p3_L86 Fu v42_seated v42_quota a43 a44 a46 a47 a48 a49 v57_voters a58 v59_voters a60 v61_voters a62 v63_voters a64 v65_voters a66 x2 x3 x4 x5 s0 r3))
set_option maxHeartbeats 4000000 in
set_option maxRecDepth 100000 in
theorem tX1_pairFrom_p3_L60 {G : GT} {b : Nat} {c0 : Hp} {n : Nat} (hw : e_wf (kW58) n) {v42_beasts : Int32} {v42_seats : Int32} {v42_known : Int32} {v42_surveyed : Int32} {v42_steadyBench : Int32} {v42_steadyWays : Int32} {v42_steadySwing : Int64} {Fu : Nat} {v42_seated : Int32} {v42_quota : Int32} {a43 : Nat → Int32} {a44 : Nat → Int32} {a46 : Nat → Int32} {a47 : Nat → Int32} {a48 : Nat → Int64} {a49 : Nat → Int32} {v57_voters : Int32} {a58 : Nat → Int64} {v59_voters : Int32} {a60 : Nat → Int64} {v61_voters : Int32} {a62 : Nat → Int64} {v63_voters : Int32} {a64 : Nat → Int64} {v65_voters : Int32} {a66 : Nat → Int64} {x2 : Int32} {x3 : Int32} {x4 : Int32} {x5 : Int32} {s0 : Int64} {R : (Nat → Int64) × Int32 × (Nat → Int64) × Int32 × (Nat → Int64) × Int32 × (Nat → Int64) × Int32 × (Nat → Int64)} (hf : fX1_pairFrom_p3_L60 Fu v42_seated v42_quota a43 a44 a46 a47 a48 a49 v57_voters a58 v59_voters a60 v61_voters a62 v63_voters a64 v65_voters a66 x2 x3 x4 x5 s0 = some R) : E G b yX1_pairFrom cX1_pairFrom 14 none (e_rm 6 0 0) e_X0 (e_Z G b (pD none (e_ov (kW58) (wW58 G b v42_beasts v42_seats v42_seated v42_quota v42_known v42_surveyed v42_steadyBench v42_steadyWays v42_steadySwing a43 a44 a46 a47 R.1 a49 v57_voters a58 R.2.1 R.2.2.1 R.2.2.2.1 R.2.2.2.2.1 R.2.2.2.2.2.1 R.2.2.2.2.2.2.1 R.2.2.2.2.2.2.2.1 R.2.2.2.2.2.2.2.2) c0) n) 0 0) 60 [(0, .ref (b + 42)), (1, .int 3), (2, .int x2), (3, .int x3), (4, .int x4), (5, .int x5)] [.long s0] (e_ov (kW58) (wW58 G b v42_beasts v42_seats v42_seated v42_quota v42_known v42_surveyed v42_steadyBench v42_steadyWays v42_steadySwing a43 a44 a46 a47 a48 a49 v57_voters a58 v59_voters a60 v61_voters a62 v63_voters a64 v65_voters a66) c0) n 0 0 := by
  unfold fX1_pairFrom_p3_L60 at hf
  refine E.lstore (lv' := [(6, .long s0), (0, .ref (b + 42)), (1, .int 3), (2, .int x2), (3, .int x3), (4, .int x4), (5, .int x5)]) dX1_pairFrom_60 (by decide) rfl ?_
  refine E.iload 6 dX1_pairFrom_62 rfl ?_
  refine E.if_eq dX1_pairFrom_64 (fun h => ?_) (fun h => ?_)
  · have hf := e_ift hf h
    refine E.lconst (v := 0) dX1_pairFrom_85 (by decide) ?_
    refine E.locals [1, 2, 3, 4, 5, 6, 0] rfl ?_
    exact tX1_pairFrom_p3_L86 hw hf
  · have hf := e_iff hf h
    refine E.aload_n 1 dX1_pairFrom_67 rfl ?_
    refine E.get hw 0 42 dX1_pairFrom_68 flX1_36 rfl rfl rfl rfl ?_
    refine E.iload_n 2 dX1_pairFrom_71 rfl ?_
    refine E.aaldL hw 7 50 3 dX1_pairFrom_72 rfl rfl rfl (by unfold vp_in; decide) (by decide) rfl ?_
    refine E.aload_n 1 dX1_pairFrom_73 rfl ?_
    refine E.get hw 0 42 dX1_pairFrom_74 flX1_66 rfl rfl rfl rfl ?_
    refine E.iconst (v := 1) dX1_pairFrom_77 (by decide) ?_
    refine E.isub dX1_pairFrom_78 ?_
    obtain ⟨r3, hc3, hf⟩ := e_bind hf
    refine E.callVDs (es' := (wW58 G b v42_beasts v42_seats v42_seated v42_quota v42_known v42_surveyed v42_steadyBench v42_steadyWays v42_steadySwing a43 a44 a46 a47 a48 a49 v57_voters a58 v59_voters a60 v61_voters a62 v63_voters a64 v65_voters a66)) [] [8, 9] 8 57 dX1_pairFrom_79 mlX1_174 hw rfl rfl rfl rfl (mX8_just (hw.pick2 [8, 9] rfl (by decide)) hc3) rfl rfl rfl rfl ⟨Nat.le_of_ble_eq_true rfl, Nat.le_of_ble_eq_true rfl⟩ rfl rfl (Nat.le_of_ble_eq_true rfl) ⟨Nat.le_refl _, Nat.le_refl _⟩ rfl ?_
    refine E.goto dX1_pairFrom_82 ?_
    refine E.locals [1, 2, 3, 4, 5, 6, 0] rfl ?_
    exact tX1_pairFrom_p3_L86 hw hf
def fX1_pairFrom_p3_L32 (Fu : Nat) (v42_seated : Int32) (v42_quota : Int32) (a43 : Nat → Int32) (a44 : Nat → Int32) (a46 : Nat → Int32) (a47 : Nat → Int32) (a48 : Nat → Int64) (a49 : Nat → Int32) (v57_voters : Int32) (a58 : Nat → Int64) (v59_voters : Int32) (a60 : Nat → Int64) (v61_voters : Int32) (a62 : Nat → Int64) (v63_voters : Int32) (a64 : Nat → Int64) (v65_voters : Int32) (a66 : Nat → Int64) (x2 : Int32) (x3 : Int32) (x4 : Int32) (s0 : Int32) : Option ((Nat → Int64) × Int32 × (Nat → Int64) × Int32 × (Nat → Int64) × Int32 × (Nat → Int64) × Int32 × (Nat → Int64)) := if (s0 : Int32) = (0 : Int32) then (fX1_pairFrom_p3_L60 Fu v42_seated v42_quota a43 a44 a46 a47 a48 a49 v57_voters a58 v59_voters a60 v61_voters a62 v63_voters a64 v65_voters a66 x2 x3 x4 s0 0) else ((fX8_atLeast Fu v57_voters a58 v42_quota).bind fun r2 => (fX1_pairFrom_p3_L60 Fu v42_seated v42_quota a43 a44 a46 a47 a48 a49 v57_voters a58 v59_voters a60 v61_voters a62 v63_voters a64 v65_voters a66 x2 x3 x4 s0 (r2 * 100)))
set_option maxHeartbeats 4000000 in
set_option maxRecDepth 100000 in
theorem tX1_pairFrom_p3_L32 {G : GT} {b : Nat} {c0 : Hp} {n : Nat} (hw : e_wf (kW58) n) {v42_beasts : Int32} {v42_seats : Int32} {v42_known : Int32} {v42_surveyed : Int32} {v42_steadyBench : Int32} {v42_steadyWays : Int32} {v42_steadySwing : Int64} {Fu : Nat} {v42_seated : Int32} {v42_quota : Int32} {a43 : Nat → Int32} {a44 : Nat → Int32} {a46 : Nat → Int32} {a47 : Nat → Int32} {a48 : Nat → Int64} {a49 : Nat → Int32} {v57_voters : Int32} {a58 : Nat → Int64} {v59_voters : Int32} {a60 : Nat → Int64} {v61_voters : Int32} {a62 : Nat → Int64} {v63_voters : Int32} {a64 : Nat → Int64} {v65_voters : Int32} {a66 : Nat → Int64} {x2 : Int32} {x3 : Int32} {x4 : Int32} {s0 : Int32} {R : (Nat → Int64) × Int32 × (Nat → Int64) × Int32 × (Nat → Int64) × Int32 × (Nat → Int64) × Int32 × (Nat → Int64)} (hf : fX1_pairFrom_p3_L32 Fu v42_seated v42_quota a43 a44 a46 a47 a48 a49 v57_voters a58 v59_voters a60 v61_voters a62 v63_voters a64 v65_voters a66 x2 x3 x4 s0 = some R) : E G b yX1_pairFrom cX1_pairFrom 14 none (e_rm 6 0 0) e_X0 (e_Z G b (pD none (e_ov (kW58) (wW58 G b v42_beasts v42_seats v42_seated v42_quota v42_known v42_surveyed v42_steadyBench v42_steadyWays v42_steadySwing a43 a44 a46 a47 R.1 a49 v57_voters a58 R.2.1 R.2.2.1 R.2.2.2.1 R.2.2.2.2.1 R.2.2.2.2.2.1 R.2.2.2.2.2.2.1 R.2.2.2.2.2.2.2.1 R.2.2.2.2.2.2.2.2) c0) n) 0 0) 32 [(0, .ref (b + 42)), (1, .int 3), (2, .int x2), (3, .int x3), (4, .int x4)] [.int s0] (e_ov (kW58) (wW58 G b v42_beasts v42_seats v42_seated v42_quota v42_known v42_surveyed v42_steadyBench v42_steadyWays v42_steadySwing a43 a44 a46 a47 a48 a49 v57_voters a58 v59_voters a60 v61_voters a62 v63_voters a64 v65_voters a66) c0) n 0 0 := by
  unfold fX1_pairFrom_p3_L32 at hf
  refine E.istore (lv' := [(5, .int s0), (0, .ref (b + 42)), (1, .int 3), (2, .int x2), (3, .int x3), (4, .int x4)]) dX1_pairFrom_32 (by decide) rfl ?_
  refine E.iload 0 dX1_pairFrom_34 rfl ?_
  refine E.if_eq dX1_pairFrom_36 (fun h => ?_) (fun h => ?_)
  · have hf := e_ift hf h
    refine E.lconst (v := 0) dX1_pairFrom_59 (by decide) ?_
    refine E.locals [1, 2, 3, 4, 5, 0] rfl ?_
    exact tX1_pairFrom_p3_L60 hw hf
  · have hf := e_iff hf h
    refine E.aload_n 1 dX1_pairFrom_39 rfl ?_
    refine E.get hw 0 42 dX1_pairFrom_40 flX1_36 rfl rfl rfl rfl ?_
    refine E.iload_n 2 dX1_pairFrom_43 rfl ?_
    refine E.aaldL hw 7 50 3 dX1_pairFrom_44 rfl rfl rfl (by unfold vp_in; decide) (by decide) rfl ?_
    refine E.aload_n 1 dX1_pairFrom_45 rfl ?_
    refine E.get hw 0 42 dX1_pairFrom_46 flX1_66 rfl rfl rfl rfl ?_
    obtain ⟨r2, hc2, hf⟩ := e_bind hf
    refine E.callVDs (es' := (wW58 G b v42_beasts v42_seats v42_seated v42_quota v42_known v42_surveyed v42_steadyBench v42_steadyWays v42_steadySwing a43 a44 a46 a47 a48 a49 v57_voters a58 v59_voters a60 v61_voters a62 v63_voters a64 v65_voters a66)) [] [8, 9] 8 57 dX1_pairFrom_49 mlX1_120 hw rfl rfl rfl rfl (mX8_atLeast (hw.pick2 [8, 9] rfl (by decide)) hc2) rfl rfl rfl rfl ⟨Nat.le_of_ble_eq_true rfl, Nat.le_of_ble_eq_true rfl⟩ rfl rfl (Nat.le_of_ble_eq_true rfl) ⟨Nat.le_refl _, Nat.le_refl _⟩ rfl ?_
    refine E.ldc2 dX1_pairFrom_52 kX1_172 ?_
    refine E.lmul dX1_pairFrom_55 ?_
    refine E.goto dX1_pairFrom_56 ?_
    refine E.locals [1, 2, 3, 4, 5, 0] rfl ?_
    exact tX1_pairFrom_p3_L60 hw hf
def fX1_pairFrom_p3 (Fu : Nat) (v42_seated : Int32) (v42_quota : Int32) (a43 : Nat → Int32) (a44 : Nat → Int32) (a46 : Nat → Int32) (a47 : Nat → Int32) (a48 : Nat → Int64) (a49 : Nat → Int32) (v57_voters : Int32) (a58 : Nat → Int64) (v59_voters : Int32) (a60 : Nat → Int64) (v61_voters : Int32) (a62 : Nat → Int64) (v63_voters : Int32) (a64 : Nat → Int64) (v65_voters : Int32) (a66 : Nat → Int64) (x2 : Int32) (x3 : Int32) : Option ((Nat → Int64) × Int32 × (Nat → Int64) × Int32 × (Nat → Int64) × Int32 × (Nat → Int64) × Int32 × (Nat → Int64)) := if (3 : Int32) < (v42_seated : Int32) then (gd 3 8 (if (4 : Int32) < (v42_seated : Int32) then (fX1_pairFrom_p3_L32 Fu v42_seated v42_quota a43 a44 a46 a47 a48 a49 v57_voters a58 v59_voters a60 v61_voters a62 v63_voters a64 v65_voters a66 x2 x3 (a49 (3 : Int32).toNatClampNeg) 0) else (fX1_pairFrom_p3_L32 Fu v42_seated v42_quota a43 a44 a46 a47 a48 a49 v57_voters a58 v59_voters a60 v61_voters a62 v63_voters a64 v65_voters a66 x2 x3 (a49 (3 : Int32).toNatClampNeg) 1))) else (some (a48, v59_voters, a60, v61_voters, a62, v63_voters, a64, v65_voters, a66))
set_option maxHeartbeats 4000000 in
set_option maxRecDepth 100000 in
theorem tX1_pairFrom_p3 {G : GT} {b : Nat} {c0 : Hp} {n : Nat} (hw : e_wf (kW58) n) {v42_beasts : Int32} {v42_seats : Int32} {v42_known : Int32} {v42_surveyed : Int32} {v42_steadyBench : Int32} {v42_steadyWays : Int32} {v42_steadySwing : Int64} {Fu : Nat} {v42_seated : Int32} {v42_quota : Int32} {a43 : Nat → Int32} {a44 : Nat → Int32} {a46 : Nat → Int32} {a47 : Nat → Int32} {a48 : Nat → Int64} {a49 : Nat → Int32} {v57_voters : Int32} {a58 : Nat → Int64} {v59_voters : Int32} {a60 : Nat → Int64} {v61_voters : Int32} {a62 : Nat → Int64} {v63_voters : Int32} {a64 : Nat → Int64} {v65_voters : Int32} {a66 : Nat → Int64} {x2 : Int32} {x3 : Int32} {R : (Nat → Int64) × Int32 × (Nat → Int64) × Int32 × (Nat → Int64) × Int32 × (Nat → Int64) × Int32 × (Nat → Int64)} (hf : fX1_pairFrom_p3 Fu v42_seated v42_quota a43 a44 a46 a47 a48 a49 v57_voters a58 v59_voters a60 v61_voters a62 v63_voters a64 v65_voters a66 x2 x3 = some R) : E G b yX1_pairFrom cX1_pairFrom 14 none (e_rm 6 0 0) e_X0 (e_Z G b (pD none (e_ov (kW58) (wW58 G b v42_beasts v42_seats v42_seated v42_quota v42_known v42_surveyed v42_steadyBench v42_steadyWays v42_steadySwing a43 a44 a46 a47 R.1 a49 v57_voters a58 R.2.1 R.2.2.1 R.2.2.2.1 R.2.2.2.2.1 R.2.2.2.2.2.1 R.2.2.2.2.2.2.1 R.2.2.2.2.2.2.2.1 R.2.2.2.2.2.2.2.2) c0) n) 0 0) 0 [(0, .ref (b + 42)), (1, .int 3), (2, .int x2), (3, .int x3)] [] (e_ov (kW58) (wW58 G b v42_beasts v42_seats v42_seated v42_quota v42_known v42_surveyed v42_steadyBench v42_steadyWays v42_steadySwing a43 a44 a46 a47 a48 a49 v57_voters a58 v59_voters a60 v61_voters a62 v63_voters a64 v65_voters a66) c0) n 0 0 := by
  unfold fX1_pairFrom_p3 at hf
  refine E.iload_n 1 dX1_pairFrom_0 rfl ?_
  refine E.aload_n 0 dX1_pairFrom_1 rfl ?_
  refine E.get hw 0 42 dX1_pairFrom_2 flX1_69 rfl rfl rfl rfl ?_
  refine E.icmp_lt dX1_pairFrom_5 (fun h => ?_) (fun h => ?_)
  · have hf := e_ift hf h
    refine E.aload_n 0 dX1_pairFrom_9 rfl ?_
    refine E.get hw 0 42 dX1_pairFrom_10 flX1_31 rfl rfl rfl rfl ?_
    refine E.iload_n 1 dX1_pairFrom_13 rfl ?_
    obtain ⟨g1, hf⟩ := gd_some hf
    refine E.iald hw 6 49 dX1_pairFrom_14 rfl rfl g1 ?_
    refine E.istore (lv' := [(4, .int (a49 (3 : Int32).toNatClampNeg)), (0, .ref (b + 42)), (1, .int 3), (2, .int x2), (3, .int x3)]) dX1_pairFrom_15 (by decide) rfl ?_
    refine E.iload_n 2 dX1_pairFrom_17 rfl ?_
    refine E.iconst (v := 1) dX1_pairFrom_18 (by decide) ?_
    refine E.iadd dX1_pairFrom_19 ?_
    refine E.fold (v := 4) (by decide) ?_
    refine E.aload_n 1 dX1_pairFrom_20 rfl ?_
    refine E.get hw 0 42 dX1_pairFrom_21 flX1_69 rfl rfl rfl rfl ?_
    refine E.icmp_lt dX1_pairFrom_24 (fun h => ?_) (fun h => ?_)
    · have hf := e_ift hf h
      refine E.iconst (v := 0) dX1_pairFrom_31 (by decide) ?_
      refine E.locals [1, 2, 3, 4, 0] rfl ?_
      exact tX1_pairFrom_p3_L32 hw hf
    · have hf := e_iff hf h
      refine E.iconst (v := 1) dX1_pairFrom_27 (by decide) ?_
      refine E.goto dX1_pairFrom_28 ?_
      refine E.locals [1, 2, 3, 4, 0] rfl ?_
      exact tX1_pairFrom_p3_L32 hw hf
  · have hf := e_iff hf h
    cases hf
    exact E.vret dX1_pairFrom_8 (Nat.le_refl _) (Nat.le_refl _) (pD_rf _ _ _)
set_option maxRecDepth 100000 in
theorem mX1_pairFrom_p3 {G : GT} {b : Nat} {c0 : Hp} {n : Nat} (hw : e_wf (kW58) n) {v42_beasts : Int32} {v42_seats : Int32} {v42_known : Int32} {v42_surveyed : Int32} {v42_steadyBench : Int32} {v42_steadyWays : Int32} {v42_steadySwing : Int64} {Fu : Nat} {v42_seated : Int32} {v42_quota : Int32} {a43 : Nat → Int32} {a44 : Nat → Int32} {a46 : Nat → Int32} {a47 : Nat → Int32} {a48 : Nat → Int64} {a49 : Nat → Int32} {v57_voters : Int32} {a58 : Nat → Int64} {v59_voters : Int32} {a60 : Nat → Int64} {v61_voters : Int32} {a62 : Nat → Int64} {v63_voters : Int32} {a64 : Nat → Int64} {v65_voters : Int32} {a66 : Nat → Int64} {x2 : Int32} {x3 : Int32} {R : (Nat → Int64) × Int32 × (Nat → Int64) × Int32 × (Nat → Int64) × Int32 × (Nat → Int64) × Int32 × (Nat → Int64)} (hf : fX1_pairFrom_p3 Fu v42_seated v42_quota a43 a44 a46 a47 a48 a49 v57_voters a58 v59_voters a60 v61_voters a62 v63_voters a64 v65_voters a66 x2 x3 = some R) : e_C G b yX1_pairFrom cX1_pairFrom 14 none 6 0 0 [.ref (b + 42), .int 3, .int x2, .int x3] (e_ov (kW58) (wW58 G b v42_beasts v42_seats v42_seated v42_quota v42_known v42_surveyed v42_steadyBench v42_steadyWays v42_steadySwing a43 a44 a46 a47 a48 a49 v57_voters a58 v59_voters a60 v61_voters a62 v63_voters a64 v65_voters a66) c0) n (pD none (e_ov (kW58) (wW58 G b v42_beasts v42_seats v42_seated v42_quota v42_known v42_surveyed v42_steadyBench v42_steadyWays v42_steadySwing a43 a44 a46 a47 R.1 a49 v57_voters a58 R.2.1 R.2.2.1 R.2.2.2.1 R.2.2.2.2.1 R.2.2.2.2.2.1 R.2.2.2.2.2.2.1 R.2.2.2.2.2.2.2.1 R.2.2.2.2.2.2.2.2) c0) n) := e_C.of (by decide) (Nat.le_of_ble_eq_true rfl) (tX1_pairFrom_p3 hw hf)
abbrev kW59 : List Nat := [42, 43, 44, 46, 47, 48, 49, 50, 55, 56, 57, 58, 59, 60, 61, 62, 63, 64, 65, 66]
abbrev wW59 (G : GT) (b  : Nat) (v42_beasts : Int32) (v42_seats : Int32) (v42_seated : Int32) (v42_quota : Int32) (v42_known : Int32) (v42_surveyed : Int32) (v42_steadyBench : Int32) (v42_steadyWays : Int32) (v42_steadySwing : Int64) (a43 : Nat → Int32) (a44 : Nat → Int32) (a46 : Nat → Int32) (a47 : Nat → Int32) (a48 : Nat → Int64) (a49 : Nat → Int32) (v55_voters : Int32) (a56 : Nat → Int64) (v57_voters : Int32) (a58 : Nat → Int64) (v59_voters : Int32) (a60 : Nat → Int64) (v61_voters : Int32) (a62 : Nat → Int64) (v63_voters : Int32) (a64 : Nat → Int64) (v65_voters : Int32) (a66 : Nat → Int64) : List va_E := [.inr (1, [.ref (b + 43), .ref (b + 44), .ref (b + 45), .ref (b + 46), .ref (b + 47), .ref (b + 48), .ref (b + 49), .ref (b + 50), .ref (b + 67), .int v42_beasts, .int v42_seats, .int v42_seated, .int v42_quota, .int v42_known, .int v42_surveyed, .int v42_steadyBench, .int v42_steadyWays, .long v42_steadySwing]), aI G 32 a43, aI G 8 a44, aI G 512 a46, aI G 2 a47, aJ G 512 a48, aI G 8 a49, aQ G 5 8 (e_tlQ b), .inr (8, [.ref (b + 56), .int v55_voters]), aJ G 9 a56, .inr (8, [.ref (b + 58), .int v57_voters]), aJ G 9 a58, .inr (8, [.ref (b + 60), .int v59_voters]), aJ G 9 a60, .inr (8, [.ref (b + 62), .int v61_voters]), aJ G 9 a62, .inr (8, [.ref (b + 64), .int v63_voters]), aJ G 9 a64, .inr (8, [.ref (b + 66), .int v65_voters]), aJ G 9 a66]
def fX1_pairFrom_p2_L91 (Fu : Nat) : Nat → Int32 → Int32 → (Nat → Int32) → (Nat → Int32) → (Nat → Int32) → (Nat → Int32) → (Nat → Int64) → (Nat → Int32) → Int32 → (Nat → Int64) → Int32 → (Nat → Int64) → Int32 → (Nat → Int64) → Int32 → (Nat → Int64) → Int32 → (Nat → Int64) → Int32 → (Nat → Int64) → Int32 → Int32 → Int32 → Int32 → Int64 → Int64 → Int32 → Option ((Nat → Int64) × Int32 × (Nat → Int64) × Int32 × (Nat → Int64) × Int32 × (Nat → Int64) × Int32 × (Nat → Int64) × Int32 × (Nat → Int64))
  | 0, _, _, _, _, _, _, _, _, _, _, _, _, _, _, _, _, _, _, _, _, _, _, _, _, _, _, _ => none
  | k + 1, v42_seated, v42_quota, a43, a44, a46, a47, a48, a49, v55_voters, a56, v57_voters, a58, v59_voters, a60, v61_voters, a62, v63_voters, a64, v65_voters, a66, x2, x3, x4, x5, x6, x8, x10 => if (3 : Int32) < (x10 : Int32) then (some (a48, v57_voters, a58, v59_voters, a60, v61_voters, a62, v63_voters, a64, v65_voters, a66)) else ((fX1_affords a46 a47 0 (x2 ||| (((x10 &&& 1) : Int32) <<< ((x4 : Int32) &&& 31)))).bind fun r4 => (if (r4 : Int32) = (0 : Int32) then ((fX1_pairFrom_p2_L91 Fu k) v42_seated v42_quota a43 a44 a46 a47 a48 a49 v55_voters a56 v57_voters a58 v59_voters a60 v61_voters a62 v63_voters a64 v65_voters a66 x2 x3 x4 x5 x6 x8 (x10 + 1)) else ((fX1_affords a46 a47 1 (x3 ||| ((((x10 : Int32) >>> ((1 : Int32) &&& 31)) : Int32) <<< ((x4 : Int32) &&& 31)))).bind fun r5 => (if (r5 : Int32) = (0 : Int32) then ((fX1_pairFrom_p2_L91 Fu k) v42_seated v42_quota a43 a44 a46 a47 a48 a49 v55_voters a56 v57_voters a58 v59_voters a60 v61_voters a62 v63_voters a64 v65_voters a66 x2 x3 x4 x5 x6 x8 (x10 + 1)) else ((fX1_chanceWith a43 a44 x4 x10).bind fun r6 => (if (x5 : Int32) = (0 : Int32) then ((fX8_voteAfter Fu v57_voters a58 v55_voters a56 r6).bind fun r7 => ((fX1_pairFrom_p3 Fu v42_seated v42_quota a43 a44 a46 a47 a48 a49 r7.1 r7.2 v59_voters a60 v61_voters a62 v63_voters a64 v65_voters a66 (x2 ||| (((x10 &&& 1) : Int32) <<< ((x4 : Int32) &&& 31))) (x3 ||| ((((x10 : Int32) >>> ((1 : Int32) &&& 31)) : Int32) <<< ((x4 : Int32) &&& 31)))).bind fun r8 => ((fX1_pairFrom_p2_L91 Fu k) v42_seated v42_quota a43 a44 a46 a47 r8.1 a49 v55_voters a56 r7.1 r7.2 r8.2.1 r8.2.2.1 r8.2.2.2.1 r8.2.2.2.2.1 r8.2.2.2.2.2.1 r8.2.2.2.2.2.2.1 r8.2.2.2.2.2.2.2.1 r8.2.2.2.2.2.2.2.2 x2 x3 x4 x5 x6 x8 (x10 + 1)))) else ((fX1_note a48 (x2 ||| (((x10 &&& 1) : Int32) <<< ((x4 : Int32) &&& 31))) (x3 ||| ((((x10 : Int32) >>> ((1 : Int32) &&& 31)) : Int32) <<< ((x4 : Int32) &&& 31))) (x6 + (x8 * ((r6 : Int32).toInt64)))).bind fun r9 => ((fX1_pairFrom_p2_L91 Fu k) v42_seated v42_quota a43 a44 a46 a47 r9 a49 v55_voters a56 v57_voters a58 v59_voters a60 v61_voters a62 v63_voters a64 v65_voters a66 x2 x3 x4 x5 x6 x8 (x10 + 1)))))))))
set_option maxHeartbeats 4000000 in
set_option maxRecDepth 100000 in
theorem tX1_pairFrom_p2_L91 {G : GT} {b : Nat} {c0 : Hp} {n : Nat} (hw : e_wf (kW59) n) {v42_beasts : Int32} {v42_seats : Int32} {v42_known : Int32} {v42_surveyed : Int32} {v42_steadyBench : Int32} {v42_steadyWays : Int32} {v42_steadySwing : Int64} {Fu : Nat} : ∀ (k : Nat) {v42_seated : Int32} {v42_quota : Int32} {a43 : Nat → Int32} {a44 : Nat → Int32} {a46 : Nat → Int32} {a47 : Nat → Int32} {a48 : Nat → Int64} {a49 : Nat → Int32} {v55_voters : Int32} {a56 : Nat → Int64} {v57_voters : Int32} {a58 : Nat → Int64} {v59_voters : Int32} {a60 : Nat → Int64} {v61_voters : Int32} {a62 : Nat → Int64} {v63_voters : Int32} {a64 : Nat → Int64} {v65_voters : Int32} {a66 : Nat → Int64} {x2 : Int32} {x3 : Int32} {x4 : Int32} {x5 : Int32} {x6 : Int64} {x8 : Int64} {x10 : Int32} {R : (Nat → Int64) × Int32 × (Nat → Int64) × Int32 × (Nat → Int64) × Int32 × (Nat → Int64) × Int32 × (Nat → Int64) × Int32 × (Nat → Int64)}, fX1_pairFrom_p2_L91 Fu k v42_seated v42_quota a43 a44 a46 a47 a48 a49 v55_voters a56 v57_voters a58 v59_voters a60 v61_voters a62 v63_voters a64 v65_voters a66 x2 x3 x4 x5 x6 x8 x10 = some R → E G b yX1_pairFrom cX1_pairFrom 14 none (e_rm 7 0 0) e_X0 (e_Z G b (pD none (e_ov (kW59) (wW59 G b v42_beasts v42_seats v42_seated v42_quota v42_known v42_surveyed v42_steadyBench v42_steadyWays v42_steadySwing a43 a44 a46 a47 R.1 a49 v55_voters a56 R.2.1 R.2.2.1 R.2.2.2.1 R.2.2.2.2.1 R.2.2.2.2.2.1 R.2.2.2.2.2.2.1 R.2.2.2.2.2.2.2.1 R.2.2.2.2.2.2.2.2.1 R.2.2.2.2.2.2.2.2.2.1 R.2.2.2.2.2.2.2.2.2.2) c0) n) 0 0) 91 [(0, .ref (b + 42)), (1, .int 2), (2, .int x2), (3, .int x3), (4, .int x4), (5, .int x5), (6, .long x6), (8, .long x8), (10, .int x10)] [] (e_ov (kW59) (wW59 G b v42_beasts v42_seats v42_seated v42_quota v42_known v42_surveyed v42_steadyBench v42_steadyWays v42_steadySwing a43 a44 a46 a47 a48 a49 v55_voters a56 v57_voters a58 v59_voters a60 v61_voters a62 v63_voters a64 v65_voters a66) c0) n 0 0 := by
  intro k
  induction k with
  | zero =>
    intro _ _ _ _ _ _ _ _ _ _ _ _ _ _ _ _ _ _ _ _ _ _ _ _ _ _ _ _ hf
    have hf : (none : Option ((Nat → Int64) × Int32 × (Nat → Int64) × Int32 × (Nat → Int64) × Int32 × (Nat → Int64) × Int32 × (Nat → Int64) × Int32 × (Nat → Int64))) = some _ := hf
    cases hf
  | succ k ih =>
    intro v42_seated v42_quota a43 a44 a46 a47 a48 a49 v55_voters a56 v57_voters a58 v59_voters a60 v61_voters a62 v63_voters a64 v65_voters a66 x2 x3 x4 x5 x6 x8 x10 R hf
    rw [fX1_pairFrom_p2_L91] at hf
    refine E.iload 8 dX1_pairFrom_91 rfl ?_
    refine E.iconst (v := 3) dX1_pairFrom_93 (by decide) ?_
    refine E.icmp_gt dX1_pairFrom_94 (fun h => ?_) (fun h => ?_)
    · have hf := e_ift hf h
      cases hf
      exact E.vret dX1_pairFrom_210 (Nat.le_refl _) (Nat.le_refl _) (pD_rf _ _ _)
    · have hf := e_iff hf h
      refine E.iload_n 2 dX1_pairFrom_97 rfl ?_
      refine E.iload 8 dX1_pairFrom_98 rfl ?_
      refine E.iconst (v := 1) dX1_pairFrom_100 (by decide) ?_
      refine E.iand dX1_pairFrom_101 ?_
      refine E.iload 4 dX1_pairFrom_102 rfl ?_
      refine E.ishl dX1_pairFrom_104 ?_
      refine E.ior dX1_pairFrom_105 ?_
      refine E.istore (lv' := [(11, .int (x2 ||| (((x10 &&& 1) : Int32) <<< ((x4 : Int32) &&& 31)))), (0, .ref (b + 42)), (1, .int 2), (2, .int x2), (3, .int x3), (4, .int x4), (5, .int x5), (6, .long x6), (8, .long x8), (10, .int x10)]) dX1_pairFrom_106 (by decide) rfl ?_
      refine E.iload_n 4 dX1_pairFrom_108 rfl ?_
      refine E.iload 9 dX1_pairFrom_109 rfl ?_
      refine E.iconst (v := 1) dX1_pairFrom_111 (by decide) ?_
      refine E.ishr dX1_pairFrom_112 ?_
      refine E.iload 5 dX1_pairFrom_113 rfl ?_
      refine E.ishl dX1_pairFrom_115 ?_
      refine E.ior dX1_pairFrom_116 ?_
      refine E.istore (lv' := [(12, .int (x3 ||| ((((x10 : Int32) >>> ((1 : Int32) &&& 31)) : Int32) <<< ((x4 : Int32) &&& 31)))), (11, .int (x2 ||| (((x10 &&& 1) : Int32) <<< ((x4 : Int32) &&& 31)))), (0, .ref (b + 42)), (1, .int 2), (2, .int x2), (3, .int x3), (4, .int x4), (5, .int x5), (6, .long x6), (8, .long x8), (10, .int x10)]) dX1_pairFrom_117 (by decide) rfl ?_
      refine E.aload_n 2 dX1_pairFrom_119 rfl ?_
      refine E.iconst (v := 0) dX1_pairFrom_120 (by decide) ?_
      refine E.iload 1 dX1_pairFrom_121 rfl ?_
      obtain ⟨r4, hc4, hf⟩ := e_bind hf
      refine E.callVDs (es' := (wW59 G b v42_beasts v42_seats v42_seated v42_quota v42_known v42_surveyed v42_steadyBench v42_steadyWays v42_steadySwing a43 a44 a46 a47 a48 a49 v55_voters a56 v57_voters a58 v59_voters a60 v61_voters a62 v63_voters a64 v65_voters a66)) [] [0, 3, 4] 0 42 dX1_pairFrom_123 mlX1_103 hw rfl rfl rfl rfl (mX1_affords (hw.pick2 [0, 3, 4] rfl (by decide)) hc4) rfl rfl rfl rfl ⟨Nat.le_of_ble_eq_true rfl, Nat.le_of_ble_eq_true rfl⟩ rfl rfl (Nat.le_of_ble_eq_true rfl) ⟨Nat.le_refl _, Nat.le_refl _⟩ rfl ?_
      refine E.if_eq dX1_pairFrom_126 (fun h => ?_) (fun h => ?_)
      · have hf := e_ift hf h
        refine E.iinc (q := 10) (v := (x10 + 1)) (lv' := [(10, .int (x10 + 1)), (12, .int (x3 ||| ((((x10 : Int32) >>> ((1 : Int32) &&& 31)) : Int32) <<< ((x4 : Int32) &&& 31)))), (11, .int (x2 ||| (((x10 &&& 1) : Int32) <<< ((x4 : Int32) &&& 31)))), (0, .ref (b + 42)), (1, .int 2), (2, .int x2), (3, .int x3), (4, .int x4), (5, .int x5), (6, .long x6), (8, .long x8)]) dX1_pairFrom_204 rfl rfl (by decide) rfl ?_
        refine E.goto dX1_pairFrom_207 ?_
        refine E.locals [3, 4, 5, 6, 7, 8, 9, 10, 0] rfl ?_
        exact ih hf
      · have hf := e_iff hf h
        refine E.aload_n 2 dX1_pairFrom_129 rfl ?_
        refine E.iconst (v := 1) dX1_pairFrom_130 (by decide) ?_
        refine E.iload 0 dX1_pairFrom_131 rfl ?_
        obtain ⟨r5, hc5, hf⟩ := e_bind hf
        refine E.callVDs (es' := (wW59 G b v42_beasts v42_seats v42_seated v42_quota v42_known v42_surveyed v42_steadyBench v42_steadyWays v42_steadySwing a43 a44 a46 a47 a48 a49 v55_voters a56 v57_voters a58 v59_voters a60 v61_voters a62 v63_voters a64 v65_voters a66)) [] [0, 3, 4] 0 42 dX1_pairFrom_133 mlX1_103 hw rfl rfl rfl rfl (mX1_affords (hw.pick2 [0, 3, 4] rfl (by decide)) hc5) rfl rfl rfl rfl ⟨Nat.le_of_ble_eq_true rfl, Nat.le_of_ble_eq_true rfl⟩ rfl rfl (Nat.le_of_ble_eq_true rfl) ⟨Nat.le_refl _, Nat.le_refl _⟩ rfl ?_
        refine E.if_eq dX1_pairFrom_136 (fun h => ?_) (fun h => ?_)
        · have hf := e_ift hf h
          refine E.iinc (q := 10) (v := (x10 + 1)) (lv' := [(10, .int (x10 + 1)), (12, .int (x3 ||| ((((x10 : Int32) >>> ((1 : Int32) &&& 31)) : Int32) <<< ((x4 : Int32) &&& 31)))), (11, .int (x2 ||| (((x10 &&& 1) : Int32) <<< ((x4 : Int32) &&& 31)))), (0, .ref (b + 42)), (1, .int 2), (2, .int x2), (3, .int x3), (4, .int x4), (5, .int x5), (6, .long x6), (8, .long x8)]) dX1_pairFrom_204 rfl rfl (by decide) rfl ?_
          refine E.goto dX1_pairFrom_207 ?_
          refine E.locals [3, 4, 5, 6, 7, 8, 9, 10, 0] rfl ?_
          exact ih hf
        · have hf := e_iff hf h
          refine E.aload_n 2 dX1_pairFrom_139 rfl ?_
          refine E.iload 6 dX1_pairFrom_140 rfl ?_
          refine E.iload 10 dX1_pairFrom_142 rfl ?_
          obtain ⟨r6, hc6, hf⟩ := e_bind hf
          refine E.callVDs (es' := (wW59 G b v42_beasts v42_seats v42_seated v42_quota v42_known v42_surveyed v42_steadyBench v42_steadyWays v42_steadySwing a43 a44 a46 a47 a48 a49 v55_voters a56 v57_voters a58 v59_voters a60 v61_voters a62 v63_voters a64 v65_voters a66)) [] [0, 1, 2] 0 42 dX1_pairFrom_144 mlX1_114 hw rfl rfl rfl rfl (mX1_chanceWith (hw.pick2 [0, 1, 2] rfl (by decide)) hc6) rfl rfl rfl rfl ⟨Nat.le_of_ble_eq_true rfl, Nat.le_of_ble_eq_true rfl⟩ rfl rfl (Nat.le_of_ble_eq_true rfl) ⟨Nat.le_refl _, Nat.le_refl _⟩ rfl ?_
          refine E.istore (lv' := [(13, .int r6), (12, .int (x3 ||| ((((x10 : Int32) >>> ((1 : Int32) &&& 31)) : Int32) <<< ((x4 : Int32) &&& 31)))), (11, .int (x2 ||| (((x10 &&& 1) : Int32) <<< ((x4 : Int32) &&& 31)))), (0, .ref (b + 42)), (1, .int 2), (2, .int x2), (3, .int x3), (4, .int x4), (5, .int x5), (6, .long x6), (8, .long x8), (10, .int x10)]) dX1_pairFrom_147 (by decide) rfl ?_
          refine E.iload 8 dX1_pairFrom_149 rfl ?_
          refine E.if_eq dX1_pairFrom_151 (fun h => ?_) (fun h => ?_)
          · have hf := e_ift hf h
            refine E.aload_n 3 dX1_pairFrom_174 rfl ?_
            refine E.get hw 0 42 dX1_pairFrom_175 flX1_36 rfl rfl rfl rfl ?_
            refine E.iload_n 4 dX1_pairFrom_178 rfl ?_
            refine E.iconst (v := 1) dX1_pairFrom_179 (by decide) ?_
            refine E.iadd dX1_pairFrom_180 ?_
            refine E.fold (v := 3) (by decide) ?_
            refine E.aaldL hw 7 50 3 dX1_pairFrom_181 rfl rfl rfl (by unfold vp_in; decide) (by decide) rfl ?_
            refine E.aload_n 3 dX1_pairFrom_182 rfl ?_
            refine E.get hw 0 42 dX1_pairFrom_183 flX1_36 rfl rfl rfl rfl ?_
            refine E.iload_n 4 dX1_pairFrom_186 rfl ?_
            refine E.aaldL hw 7 50 2 dX1_pairFrom_187 rfl rfl rfl (by unfold vp_in; decide) (by decide) rfl ?_
            refine E.iload 0 dX1_pairFrom_188 rfl ?_
            obtain ⟨r7, hc7, hf⟩ := e_bind hf
            refine E.callVDs (es' := (wW59 G b v42_beasts v42_seats v42_seated v42_quota v42_known v42_surveyed v42_steadyBench v42_steadyWays v42_steadySwing a43 a44 a46 a47 a48 a49 v55_voters a56 r7.1 r7.2 v59_voters a60 v61_voters a62 v63_voters a64 v65_voters a66)) [] [10, 11, 8, 9] 10 57 dX1_pairFrom_190 mlX1_177 hw rfl rfl rfl rfl (mX8_voteAfter (hw.pick2 [10, 11, 8, 9] rfl (by decide)) hc7) rfl rfl rfl rfl ⟨Nat.le_of_ble_eq_true rfl, Nat.le_of_ble_eq_true rfl⟩ rfl rfl (Nat.le_of_ble_eq_true rfl) ⟨Nat.le_refl _, Nat.le_refl _⟩ rfl ?_
            refine E.aload_n 3 dX1_pairFrom_193 rfl ?_
            refine E.iload_n 4 dX1_pairFrom_194 rfl ?_
            refine E.iconst (v := 1) dX1_pairFrom_195 (by decide) ?_
            refine E.iadd dX1_pairFrom_196 ?_
            refine E.fold (v := 3) (by decide) ?_
            refine E.iload 2 dX1_pairFrom_197 rfl ?_
            refine E.iload 1 dX1_pairFrom_199 rfl ?_
            obtain ⟨r8, hc8, hf⟩ := e_bind hf
            refine E.callVDs (es' := (wW59 G b v42_beasts v42_seats v42_seated v42_quota v42_known v42_surveyed v42_steadyBench v42_steadyWays v42_steadySwing a43 a44 a46 a47 r8.1 a49 v55_voters a56 r7.1 r7.2 r8.2.1 r8.2.2.1 r8.2.2.2.1 r8.2.2.2.2.1 r8.2.2.2.2.2.1 r8.2.2.2.2.2.2.1 r8.2.2.2.2.2.2.2.1 r8.2.2.2.2.2.2.2.2)) [] [0, 1, 2, 3, 4, 5, 6, 7, 10, 11, 12, 13, 14, 15, 16, 17, 18, 19] 0 42 dX1_pairFrom_201 mlX1_168 hw rfl rfl rfl rfl (mX1_pairFrom_p3 (hw.pick2 [0, 1, 2, 3, 4, 5, 6, 7, 10, 11, 12, 13, 14, 15, 16, 17, 18, 19] rfl (by decide)) hc8) rfl rfl rfl rfl ⟨Nat.le_of_ble_eq_true rfl, Nat.le_of_ble_eq_true rfl⟩ rfl rfl (Nat.le_of_ble_eq_true rfl) ⟨Nat.le_refl _, Nat.le_refl _⟩ rfl ?_
            refine E.iinc (q := 11) (v := (x10 + 1)) (lv' := [(10, .int (x10 + 1)), (13, .int r6), (12, .int (x3 ||| ((((x10 : Int32) >>> ((1 : Int32) &&& 31)) : Int32) <<< ((x4 : Int32) &&& 31)))), (11, .int (x2 ||| (((x10 &&& 1) : Int32) <<< ((x4 : Int32) &&& 31)))), (0, .ref (b + 42)), (1, .int 2), (2, .int x2), (3, .int x3), (4, .int x4), (5, .int x5), (6, .long x6), (8, .long x8)]) dX1_pairFrom_204 rfl rfl (by decide) rfl ?_
            refine E.goto dX1_pairFrom_207 ?_
            refine E.locals [4, 5, 6, 7, 8, 9, 10, 11, 0] rfl ?_
            exact ih hf
          · have hf := e_iff hf h
            refine E.aload_n 3 dX1_pairFrom_154 rfl ?_
            refine E.iload 2 dX1_pairFrom_155 rfl ?_
            refine E.iload 1 dX1_pairFrom_157 rfl ?_
            refine E.lload 9 dX1_pairFrom_159 rfl ?_
            refine E.lload 10 dX1_pairFrom_161 rfl ?_
            refine E.iload 0 dX1_pairFrom_163 rfl ?_
            refine E.i2l dX1_pairFrom_165 ?_
            refine E.lmul dX1_pairFrom_166 ?_
            refine E.ladd dX1_pairFrom_167 ?_
            obtain ⟨r9, hc9, hf⟩ := e_bind hf
            refine E.callVDs (es' := (wW59 G b v42_beasts v42_seats v42_seated v42_quota v42_known v42_surveyed v42_steadyBench v42_steadyWays v42_steadySwing a43 a44 a46 a47 r9 a49 v55_voters a56 v57_voters a58 v59_voters a60 v61_voters a62 v63_voters a64 v65_voters a66)) [] [0, 5] 0 42 dX1_pairFrom_168 mlX1_164 hw rfl rfl rfl rfl (mX1_note (hw.pick2 [0, 5] rfl (by decide)) hc9) rfl rfl rfl rfl ⟨Nat.le_of_ble_eq_true rfl, Nat.le_of_ble_eq_true rfl⟩ rfl rfl (Nat.le_of_ble_eq_true rfl) ⟨Nat.le_refl _, Nat.le_refl _⟩ rfl ?_
            refine E.goto dX1_pairFrom_171 ?_
            refine E.iinc (q := 11) (v := (x10 + 1)) (lv' := [(10, .int (x10 + 1)), (13, .int r6), (12, .int (x3 ||| ((((x10 : Int32) >>> ((1 : Int32) &&& 31)) : Int32) <<< ((x4 : Int32) &&& 31)))), (11, .int (x2 ||| (((x10 &&& 1) : Int32) <<< ((x4 : Int32) &&& 31)))), (0, .ref (b + 42)), (1, .int 2), (2, .int x2), (3, .int x3), (4, .int x4), (5, .int x5), (6, .long x6), (8, .long x8)]) dX1_pairFrom_204 rfl rfl (by decide) rfl ?_
            refine E.goto dX1_pairFrom_207 ?_
            refine E.locals [4, 5, 6, 7, 8, 9, 10, 11, 0] rfl ?_
            exact ih hf
def fX1_pairFrom_p2_L86 (Fu : Nat) (v42_seated : Int32) (v42_quota : Int32) (a43 : Nat → Int32) (a44 : Nat → Int32) (a46 : Nat → Int32) (a47 : Nat → Int32) (a48 : Nat → Int64) (a49 : Nat → Int32) (v55_voters : Int32) (a56 : Nat → Int64) (v57_voters : Int32) (a58 : Nat → Int64) (v59_voters : Int32) (a60 : Nat → Int64) (v61_voters : Int32) (a62 : Nat → Int64) (v63_voters : Int32) (a64 : Nat → Int64) (v65_voters : Int32) (a66 : Nat → Int64) (x2 : Int32) (x3 : Int32) (x4 : Int32) (x5 : Int32) (x6 : Int64) (s0 : Int64) : Option ((Nat → Int64) × Int32 × (Nat → Int64) × Int32 × (Nat → Int64) × Int32 × (Nat → Int64) × Int32 × (Nat → Int64) × Int32 × (Nat → Int64)) := fX1_pairFrom_p2_L91 Fu Fu v42_seated v42_quota a43 a44 a46 a47 a48 a49 v55_voters a56 v57_voters a58 v59_voters a60 v61_voters a62 v63_voters a64 v65_voters a66 x2 x3 x4 x5 x6 s0 0
set_option maxHeartbeats 4000000 in
set_option maxRecDepth 100000 in
theorem tX1_pairFrom_p2_L86 {G : GT} {b : Nat} {c0 : Hp} {n : Nat} (hw : e_wf (kW59) n) {v42_beasts : Int32} {v42_seats : Int32} {v42_known : Int32} {v42_surveyed : Int32} {v42_steadyBench : Int32} {v42_steadyWays : Int32} {v42_steadySwing : Int64} {Fu : Nat} {v42_seated : Int32} {v42_quota : Int32} {a43 : Nat → Int32} {a44 : Nat → Int32} {a46 : Nat → Int32} {a47 : Nat → Int32} {a48 : Nat → Int64} {a49 : Nat → Int32} {v55_voters : Int32} {a56 : Nat → Int64} {v57_voters : Int32} {a58 : Nat → Int64} {v59_voters : Int32} {a60 : Nat → Int64} {v61_voters : Int32} {a62 : Nat → Int64} {v63_voters : Int32} {a64 : Nat → Int64} {v65_voters : Int32} {a66 : Nat → Int64} {x2 : Int32} {x3 : Int32} {x4 : Int32} {x5 : Int32} {x6 : Int64} {s0 : Int64} {R : (Nat → Int64) × Int32 × (Nat → Int64) × Int32 × (Nat → Int64) × Int32 × (Nat → Int64) × Int32 × (Nat → Int64) × Int32 × (Nat → Int64)} (hf : fX1_pairFrom_p2_L86 Fu v42_seated v42_quota a43 a44 a46 a47 a48 a49 v55_voters a56 v57_voters a58 v59_voters a60 v61_voters a62 v63_voters a64 v65_voters a66 x2 x3 x4 x5 x6 s0 = some R) : E G b yX1_pairFrom cX1_pairFrom 14 none (e_rm 7 0 0) e_X0 (e_Z G b (pD none (e_ov (kW59) (wW59 G b v42_beasts v42_seats v42_seated v42_quota v42_known v42_surveyed v42_steadyBench v42_steadyWays v42_steadySwing a43 a44 a46 a47 R.1 a49 v55_voters a56 R.2.1 R.2.2.1 R.2.2.2.1 R.2.2.2.2.1 R.2.2.2.2.2.1 R.2.2.2.2.2.2.1 R.2.2.2.2.2.2.2.1 R.2.2.2.2.2.2.2.2.1 R.2.2.2.2.2.2.2.2.2.1 R.2.2.2.2.2.2.2.2.2.2) c0) n) 0 0) 86 [(0, .ref (b + 42)), (1, .int 2), (2, .int x2), (3, .int x3), (4, .int x4), (5, .int x5), (6, .long x6)] [.long s0] (e_ov (kW59) (wW59 G b v42_beasts v42_seats v42_seated v42_quota v42_known v42_surveyed v42_steadyBench v42_steadyWays v42_steadySwing a43 a44 a46 a47 a48 a49 v55_voters a56 v57_voters a58 v59_voters a60 v61_voters a62 v63_voters a64 v65_voters a66) c0) n 0 0 := by
  unfold fX1_pairFrom_p2_L86 at hf
  refine E.lstore (lv' := [(8, .long s0), (0, .ref (b + 42)), (1, .int 2), (2, .int x2), (3, .int x3), (4, .int x4), (5, .int x5), (6, .long x6)]) dX1_pairFrom_86 (by decide) rfl ?_
  refine E.iconst (v := 0) dX1_pairFrom_88 (by decide) ?_
  refine E.istore (lv' := [(10, .int 0), (8, .long s0), (0, .ref (b + 42)), (1, .int 2), (2, .int x2), (3, .int x3), (4, .int x4), (5, .int x5), (6, .long x6)]) dX1_pairFrom_89 (by decide) rfl ?_
  refine E.locals [2, 3, 4, 5, 6, 7, 8, 1, 0] rfl ?_
  exact tX1_pairFrom_p2_L91 hw _ hf
def fX1_pairFrom_p2_L60 (Fu : Nat) (v42_seated : Int32) (v42_quota : Int32) (a43 : Nat → Int32) (a44 : Nat → Int32) (a46 : Nat → Int32) (a47 : Nat → Int32) (a48 : Nat → Int64) (a49 : Nat → Int32) (v55_voters : Int32) (a56 : Nat → Int64) (v57_voters : Int32) (a58 : Nat → Int64) (v59_voters : Int32) (a60 : Nat → Int64) (v61_voters : Int32) (a62 : Nat → Int64) (v63_voters : Int32) (a64 : Nat → Int64) (v65_voters : Int32) (a66 : Nat → Int64) (x2 : Int32) (x3 : Int32) (x4 : Int32) (x5 : Int32) (s0 : Int64) : Option ((Nat → Int64) × Int32 × (Nat → Int64) × Int32 × (Nat → Int64) × Int32 × (Nat → Int64) × Int32 × (Nat → Int64) × Int32 × (Nat → Int64)) := if (x5 : Int32) = (0 : Int32) then (fX1_pairFrom_p2_L86 Fu v42_seated v42_quota a43 a44 a46 a47 a48 a49 v55_voters a56 v57_voters a58 v59_voters a60 v61_voters a62 v63_voters a64 v65_voters a66 x2 x3 x4 x5 s0 0) else ((fX8_just v55_voters a56 (v42_quota - 1)).bind fun r3 => (fX1_pairFrom_p2_L86 Fu v42_seated v42_quota a43 a44 a46 a47 a48 a49 v55_voters a56 v57_voters a58 v59_voters a60 v61_voters a62 v63_voters a64 v65_voters a66 x2 x3 x4 x5 s0 r3))
set_option maxHeartbeats 4000000 in
set_option maxRecDepth 100000 in
theorem tX1_pairFrom_p2_L60 {G : GT} {b : Nat} {c0 : Hp} {n : Nat} (hw : e_wf (kW59) n) {v42_beasts : Int32} {v42_seats : Int32} {v42_known : Int32} {v42_surveyed : Int32} {v42_steadyBench : Int32} {v42_steadyWays : Int32} {v42_steadySwing : Int64} {Fu : Nat} {v42_seated : Int32} {v42_quota : Int32} {a43 : Nat → Int32} {a44 : Nat → Int32} {a46 : Nat → Int32} {a47 : Nat → Int32} {a48 : Nat → Int64} {a49 : Nat → Int32} {v55_voters : Int32} {a56 : Nat → Int64} {v57_voters : Int32} {a58 : Nat → Int64} {v59_voters : Int32} {a60 : Nat → Int64} {v61_voters : Int32} {a62 : Nat → Int64} {v63_voters : Int32} {a64 : Nat → Int64} {v65_voters : Int32} {a66 : Nat → Int64} {x2 : Int32} {x3 : Int32} {x4 : Int32} {x5 : Int32} {s0 : Int64} {R : (Nat → Int64) × Int32 × (Nat → Int64) × Int32 × (Nat → Int64) × Int32 × (Nat → Int64) × Int32 × (Nat → Int64) × Int32 × (Nat → Int64)} (hf : fX1_pairFrom_p2_L60 Fu v42_seated v42_quota a43 a44 a46 a47 a48 a49 v55_voters a56 v57_voters a58 v59_voters a60 v61_voters a62 v63_voters a64 v65_voters a66 x2 x3 x4 x5 s0 = some R) : E G b yX1_pairFrom cX1_pairFrom 14 none (e_rm 7 0 0) e_X0 (e_Z G b (pD none (e_ov (kW59) (wW59 G b v42_beasts v42_seats v42_seated v42_quota v42_known v42_surveyed v42_steadyBench v42_steadyWays v42_steadySwing a43 a44 a46 a47 R.1 a49 v55_voters a56 R.2.1 R.2.2.1 R.2.2.2.1 R.2.2.2.2.1 R.2.2.2.2.2.1 R.2.2.2.2.2.2.1 R.2.2.2.2.2.2.2.1 R.2.2.2.2.2.2.2.2.1 R.2.2.2.2.2.2.2.2.2.1 R.2.2.2.2.2.2.2.2.2.2) c0) n) 0 0) 60 [(0, .ref (b + 42)), (1, .int 2), (2, .int x2), (3, .int x3), (4, .int x4), (5, .int x5)] [.long s0] (e_ov (kW59) (wW59 G b v42_beasts v42_seats v42_seated v42_quota v42_known v42_surveyed v42_steadyBench v42_steadyWays v42_steadySwing a43 a44 a46 a47 a48 a49 v55_voters a56 v57_voters a58 v59_voters a60 v61_voters a62 v63_voters a64 v65_voters a66) c0) n 0 0 := by
  unfold fX1_pairFrom_p2_L60 at hf
  refine E.lstore (lv' := [(6, .long s0), (0, .ref (b + 42)), (1, .int 2), (2, .int x2), (3, .int x3), (4, .int x4), (5, .int x5)]) dX1_pairFrom_60 (by decide) rfl ?_
  refine E.iload 6 dX1_pairFrom_62 rfl ?_
  refine E.if_eq dX1_pairFrom_64 (fun h => ?_) (fun h => ?_)
  · have hf := e_ift hf h
    refine E.lconst (v := 0) dX1_pairFrom_85 (by decide) ?_
    refine E.locals [1, 2, 3, 4, 5, 6, 0] rfl ?_
    exact tX1_pairFrom_p2_L86 hw hf
  · have hf := e_iff hf h
    refine E.aload_n 1 dX1_pairFrom_67 rfl ?_
    refine E.get hw 0 42 dX1_pairFrom_68 flX1_36 rfl rfl rfl rfl ?_
    refine E.iload_n 2 dX1_pairFrom_71 rfl ?_
    refine E.aaldL hw 7 50 2 dX1_pairFrom_72 rfl rfl rfl (by unfold vp_in; decide) (by decide) rfl ?_
    refine E.aload_n 1 dX1_pairFrom_73 rfl ?_
    refine E.get hw 0 42 dX1_pairFrom_74 flX1_66 rfl rfl rfl rfl ?_
    refine E.iconst (v := 1) dX1_pairFrom_77 (by decide) ?_
    refine E.isub dX1_pairFrom_78 ?_
    obtain ⟨r3, hc3, hf⟩ := e_bind hf
    refine E.callVDs (es' := (wW59 G b v42_beasts v42_seats v42_seated v42_quota v42_known v42_surveyed v42_steadyBench v42_steadyWays v42_steadySwing a43 a44 a46 a47 a48 a49 v55_voters a56 v57_voters a58 v59_voters a60 v61_voters a62 v63_voters a64 v65_voters a66)) [] [8, 9] 8 55 dX1_pairFrom_79 mlX1_174 hw rfl rfl rfl rfl (mX8_just (hw.pick2 [8, 9] rfl (by decide)) hc3) rfl rfl rfl rfl ⟨Nat.le_of_ble_eq_true rfl, Nat.le_of_ble_eq_true rfl⟩ rfl rfl (Nat.le_of_ble_eq_true rfl) ⟨Nat.le_refl _, Nat.le_refl _⟩ rfl ?_
    refine E.goto dX1_pairFrom_82 ?_
    refine E.locals [1, 2, 3, 4, 5, 6, 0] rfl ?_
    exact tX1_pairFrom_p2_L86 hw hf
def fX1_pairFrom_p2_L32 (Fu : Nat) (v42_seated : Int32) (v42_quota : Int32) (a43 : Nat → Int32) (a44 : Nat → Int32) (a46 : Nat → Int32) (a47 : Nat → Int32) (a48 : Nat → Int64) (a49 : Nat → Int32) (v55_voters : Int32) (a56 : Nat → Int64) (v57_voters : Int32) (a58 : Nat → Int64) (v59_voters : Int32) (a60 : Nat → Int64) (v61_voters : Int32) (a62 : Nat → Int64) (v63_voters : Int32) (a64 : Nat → Int64) (v65_voters : Int32) (a66 : Nat → Int64) (x2 : Int32) (x3 : Int32) (x4 : Int32) (s0 : Int32) : Option ((Nat → Int64) × Int32 × (Nat → Int64) × Int32 × (Nat → Int64) × Int32 × (Nat → Int64) × Int32 × (Nat → Int64) × Int32 × (Nat → Int64)) := if (s0 : Int32) = (0 : Int32) then (fX1_pairFrom_p2_L60 Fu v42_seated v42_quota a43 a44 a46 a47 a48 a49 v55_voters a56 v57_voters a58 v59_voters a60 v61_voters a62 v63_voters a64 v65_voters a66 x2 x3 x4 s0 0) else ((fX8_atLeast Fu v55_voters a56 v42_quota).bind fun r2 => (fX1_pairFrom_p2_L60 Fu v42_seated v42_quota a43 a44 a46 a47 a48 a49 v55_voters a56 v57_voters a58 v59_voters a60 v61_voters a62 v63_voters a64 v65_voters a66 x2 x3 x4 s0 (r2 * 100)))
set_option maxHeartbeats 4000000 in
set_option maxRecDepth 100000 in
theorem tX1_pairFrom_p2_L32 {G : GT} {b : Nat} {c0 : Hp} {n : Nat} (hw : e_wf (kW59) n) {v42_beasts : Int32} {v42_seats : Int32} {v42_known : Int32} {v42_surveyed : Int32} {v42_steadyBench : Int32} {v42_steadyWays : Int32} {v42_steadySwing : Int64} {Fu : Nat} {v42_seated : Int32} {v42_quota : Int32} {a43 : Nat → Int32} {a44 : Nat → Int32} {a46 : Nat → Int32} {a47 : Nat → Int32} {a48 : Nat → Int64} {a49 : Nat → Int32} {v55_voters : Int32} {a56 : Nat → Int64} {v57_voters : Int32} {a58 : Nat → Int64} {v59_voters : Int32} {a60 : Nat → Int64} {v61_voters : Int32} {a62 : Nat → Int64} {v63_voters : Int32} {a64 : Nat → Int64} {v65_voters : Int32} {a66 : Nat → Int64} {x2 : Int32} {x3 : Int32} {x4 : Int32} {s0 : Int32} {R : (Nat → Int64) × Int32 × (Nat → Int64) × Int32 × (Nat → Int64) × Int32 × (Nat → Int64) × Int32 × (Nat → Int64) × Int32 × (Nat → Int64)} (hf : fX1_pairFrom_p2_L32 Fu v42_seated v42_quota a43 a44 a46 a47 a48 a49 v55_voters a56 v57_voters a58 v59_voters a60 v61_voters a62 v63_voters a64 v65_voters a66 x2 x3 x4 s0 = some R) : E G b yX1_pairFrom cX1_pairFrom 14 none (e_rm 7 0 0) e_X0 (e_Z G b (pD none (e_ov (kW59) (wW59 G b v42_beasts v42_seats v42_seated v42_quota v42_known v42_surveyed v42_steadyBench v42_steadyWays v42_steadySwing a43 a44 a46 a47 R.1 a49 v55_voters a56 R.2.1 R.2.2.1 R.2.2.2.1 R.2.2.2.2.1 R.2.2.2.2.2.1 R.2.2.2.2.2.2.1 R.2.2.2.2.2.2.2.1 R.2.2.2.2.2.2.2.2.1 R.2.2.2.2.2.2.2.2.2.1 R.2.2.2.2.2.2.2.2.2.2) c0) n) 0 0) 32 [(0, .ref (b + 42)), (1, .int 2), (2, .int x2), (3, .int x3), (4, .int x4)] [.int s0] (e_ov (kW59) (wW59 G b v42_beasts v42_seats v42_seated v42_quota v42_known v42_surveyed v42_steadyBench v42_steadyWays v42_steadySwing a43 a44 a46 a47 a48 a49 v55_voters a56 v57_voters a58 v59_voters a60 v61_voters a62 v63_voters a64 v65_voters a66) c0) n 0 0 := by
  unfold fX1_pairFrom_p2_L32 at hf
  refine E.istore (lv' := [(5, .int s0), (0, .ref (b + 42)), (1, .int 2), (2, .int x2), (3, .int x3), (4, .int x4)]) dX1_pairFrom_32 (by decide) rfl ?_
  refine E.iload 0 dX1_pairFrom_34 rfl ?_
  refine E.if_eq dX1_pairFrom_36 (fun h => ?_) (fun h => ?_)
  · have hf := e_ift hf h
    refine E.lconst (v := 0) dX1_pairFrom_59 (by decide) ?_
    refine E.locals [1, 2, 3, 4, 5, 0] rfl ?_
    exact tX1_pairFrom_p2_L60 hw hf
  · have hf := e_iff hf h
    refine E.aload_n 1 dX1_pairFrom_39 rfl ?_
    refine E.get hw 0 42 dX1_pairFrom_40 flX1_36 rfl rfl rfl rfl ?_
    refine E.iload_n 2 dX1_pairFrom_43 rfl ?_
    refine E.aaldL hw 7 50 2 dX1_pairFrom_44 rfl rfl rfl (by unfold vp_in; decide) (by decide) rfl ?_
    refine E.aload_n 1 dX1_pairFrom_45 rfl ?_
    refine E.get hw 0 42 dX1_pairFrom_46 flX1_66 rfl rfl rfl rfl ?_
    obtain ⟨r2, hc2, hf⟩ := e_bind hf
    refine E.callVDs (es' := (wW59 G b v42_beasts v42_seats v42_seated v42_quota v42_known v42_surveyed v42_steadyBench v42_steadyWays v42_steadySwing a43 a44 a46 a47 a48 a49 v55_voters a56 v57_voters a58 v59_voters a60 v61_voters a62 v63_voters a64 v65_voters a66)) [] [8, 9] 8 55 dX1_pairFrom_49 mlX1_120 hw rfl rfl rfl rfl (mX8_atLeast (hw.pick2 [8, 9] rfl (by decide)) hc2) rfl rfl rfl rfl ⟨Nat.le_of_ble_eq_true rfl, Nat.le_of_ble_eq_true rfl⟩ rfl rfl (Nat.le_of_ble_eq_true rfl) ⟨Nat.le_refl _, Nat.le_refl _⟩ rfl ?_
    refine E.ldc2 dX1_pairFrom_52 kX1_172 ?_
    refine E.lmul dX1_pairFrom_55 ?_
    refine E.goto dX1_pairFrom_56 ?_
    refine E.locals [1, 2, 3, 4, 5, 0] rfl ?_
    exact tX1_pairFrom_p2_L60 hw hf
def fX1_pairFrom_p2 (Fu : Nat) (v42_seated : Int32) (v42_quota : Int32) (a43 : Nat → Int32) (a44 : Nat → Int32) (a46 : Nat → Int32) (a47 : Nat → Int32) (a48 : Nat → Int64) (a49 : Nat → Int32) (v55_voters : Int32) (a56 : Nat → Int64) (v57_voters : Int32) (a58 : Nat → Int64) (v59_voters : Int32) (a60 : Nat → Int64) (v61_voters : Int32) (a62 : Nat → Int64) (v63_voters : Int32) (a64 : Nat → Int64) (v65_voters : Int32) (a66 : Nat → Int64) (x2 : Int32) (x3 : Int32) : Option ((Nat → Int64) × Int32 × (Nat → Int64) × Int32 × (Nat → Int64) × Int32 × (Nat → Int64) × Int32 × (Nat → Int64) × Int32 × (Nat → Int64)) := if (2 : Int32) < (v42_seated : Int32) then (gd 2 8 (if (3 : Int32) < (v42_seated : Int32) then (fX1_pairFrom_p2_L32 Fu v42_seated v42_quota a43 a44 a46 a47 a48 a49 v55_voters a56 v57_voters a58 v59_voters a60 v61_voters a62 v63_voters a64 v65_voters a66 x2 x3 (a49 (2 : Int32).toNatClampNeg) 0) else (fX1_pairFrom_p2_L32 Fu v42_seated v42_quota a43 a44 a46 a47 a48 a49 v55_voters a56 v57_voters a58 v59_voters a60 v61_voters a62 v63_voters a64 v65_voters a66 x2 x3 (a49 (2 : Int32).toNatClampNeg) 1))) else (some (a48, v57_voters, a58, v59_voters, a60, v61_voters, a62, v63_voters, a64, v65_voters, a66))
set_option maxHeartbeats 4000000 in
set_option maxRecDepth 100000 in
theorem tX1_pairFrom_p2 {G : GT} {b : Nat} {c0 : Hp} {n : Nat} (hw : e_wf (kW59) n) {v42_beasts : Int32} {v42_seats : Int32} {v42_known : Int32} {v42_surveyed : Int32} {v42_steadyBench : Int32} {v42_steadyWays : Int32} {v42_steadySwing : Int64} {Fu : Nat} {v42_seated : Int32} {v42_quota : Int32} {a43 : Nat → Int32} {a44 : Nat → Int32} {a46 : Nat → Int32} {a47 : Nat → Int32} {a48 : Nat → Int64} {a49 : Nat → Int32} {v55_voters : Int32} {a56 : Nat → Int64} {v57_voters : Int32} {a58 : Nat → Int64} {v59_voters : Int32} {a60 : Nat → Int64} {v61_voters : Int32} {a62 : Nat → Int64} {v63_voters : Int32} {a64 : Nat → Int64} {v65_voters : Int32} {a66 : Nat → Int64} {x2 : Int32} {x3 : Int32} {R : (Nat → Int64) × Int32 × (Nat → Int64) × Int32 × (Nat → Int64) × Int32 × (Nat → Int64) × Int32 × (Nat → Int64) × Int32 × (Nat → Int64)} (hf : fX1_pairFrom_p2 Fu v42_seated v42_quota a43 a44 a46 a47 a48 a49 v55_voters a56 v57_voters a58 v59_voters a60 v61_voters a62 v63_voters a64 v65_voters a66 x2 x3 = some R) : E G b yX1_pairFrom cX1_pairFrom 14 none (e_rm 7 0 0) e_X0 (e_Z G b (pD none (e_ov (kW59) (wW59 G b v42_beasts v42_seats v42_seated v42_quota v42_known v42_surveyed v42_steadyBench v42_steadyWays v42_steadySwing a43 a44 a46 a47 R.1 a49 v55_voters a56 R.2.1 R.2.2.1 R.2.2.2.1 R.2.2.2.2.1 R.2.2.2.2.2.1 R.2.2.2.2.2.2.1 R.2.2.2.2.2.2.2.1 R.2.2.2.2.2.2.2.2.1 R.2.2.2.2.2.2.2.2.2.1 R.2.2.2.2.2.2.2.2.2.2) c0) n) 0 0) 0 [(0, .ref (b + 42)), (1, .int 2), (2, .int x2), (3, .int x3)] [] (e_ov (kW59) (wW59 G b v42_beasts v42_seats v42_seated v42_quota v42_known v42_surveyed v42_steadyBench v42_steadyWays v42_steadySwing a43 a44 a46 a47 a48 a49 v55_voters a56 v57_voters a58 v59_voters a60 v61_voters a62 v63_voters a64 v65_voters a66) c0) n 0 0 := by
  unfold fX1_pairFrom_p2 at hf
  refine E.iload_n 1 dX1_pairFrom_0 rfl ?_
  refine E.aload_n 0 dX1_pairFrom_1 rfl ?_
  refine E.get hw 0 42 dX1_pairFrom_2 flX1_69 rfl rfl rfl rfl ?_
  refine E.icmp_lt dX1_pairFrom_5 (fun h => ?_) (fun h => ?_)
  · have hf := e_ift hf h
    refine E.aload_n 0 dX1_pairFrom_9 rfl ?_
    refine E.get hw 0 42 dX1_pairFrom_10 flX1_31 rfl rfl rfl rfl ?_
    refine E.iload_n 1 dX1_pairFrom_13 rfl ?_
    obtain ⟨g1, hf⟩ := gd_some hf
    refine E.iald hw 6 49 dX1_pairFrom_14 rfl rfl g1 ?_
    refine E.istore (lv' := [(4, .int (a49 (2 : Int32).toNatClampNeg)), (0, .ref (b + 42)), (1, .int 2), (2, .int x2), (3, .int x3)]) dX1_pairFrom_15 (by decide) rfl ?_
    refine E.iload_n 2 dX1_pairFrom_17 rfl ?_
    refine E.iconst (v := 1) dX1_pairFrom_18 (by decide) ?_
    refine E.iadd dX1_pairFrom_19 ?_
    refine E.fold (v := 3) (by decide) ?_
    refine E.aload_n 1 dX1_pairFrom_20 rfl ?_
    refine E.get hw 0 42 dX1_pairFrom_21 flX1_69 rfl rfl rfl rfl ?_
    refine E.icmp_lt dX1_pairFrom_24 (fun h => ?_) (fun h => ?_)
    · have hf := e_ift hf h
      refine E.iconst (v := 0) dX1_pairFrom_31 (by decide) ?_
      refine E.locals [1, 2, 3, 4, 0] rfl ?_
      exact tX1_pairFrom_p2_L32 hw hf
    · have hf := e_iff hf h
      refine E.iconst (v := 1) dX1_pairFrom_27 (by decide) ?_
      refine E.goto dX1_pairFrom_28 ?_
      refine E.locals [1, 2, 3, 4, 0] rfl ?_
      exact tX1_pairFrom_p2_L32 hw hf
  · have hf := e_iff hf h
    cases hf
    exact E.vret dX1_pairFrom_8 (Nat.le_refl _) (Nat.le_refl _) (pD_rf _ _ _)
set_option maxRecDepth 100000 in
theorem mX1_pairFrom_p2 {G : GT} {b : Nat} {c0 : Hp} {n : Nat} (hw : e_wf (kW59) n) {v42_beasts : Int32} {v42_seats : Int32} {v42_known : Int32} {v42_surveyed : Int32} {v42_steadyBench : Int32} {v42_steadyWays : Int32} {v42_steadySwing : Int64} {Fu : Nat} {v42_seated : Int32} {v42_quota : Int32} {a43 : Nat → Int32} {a44 : Nat → Int32} {a46 : Nat → Int32} {a47 : Nat → Int32} {a48 : Nat → Int64} {a49 : Nat → Int32} {v55_voters : Int32} {a56 : Nat → Int64} {v57_voters : Int32} {a58 : Nat → Int64} {v59_voters : Int32} {a60 : Nat → Int64} {v61_voters : Int32} {a62 : Nat → Int64} {v63_voters : Int32} {a64 : Nat → Int64} {v65_voters : Int32} {a66 : Nat → Int64} {x2 : Int32} {x3 : Int32} {R : (Nat → Int64) × Int32 × (Nat → Int64) × Int32 × (Nat → Int64) × Int32 × (Nat → Int64) × Int32 × (Nat → Int64) × Int32 × (Nat → Int64)} (hf : fX1_pairFrom_p2 Fu v42_seated v42_quota a43 a44 a46 a47 a48 a49 v55_voters a56 v57_voters a58 v59_voters a60 v61_voters a62 v63_voters a64 v65_voters a66 x2 x3 = some R) : e_C G b yX1_pairFrom cX1_pairFrom 14 none 7 0 0 [.ref (b + 42), .int 2, .int x2, .int x3] (e_ov (kW59) (wW59 G b v42_beasts v42_seats v42_seated v42_quota v42_known v42_surveyed v42_steadyBench v42_steadyWays v42_steadySwing a43 a44 a46 a47 a48 a49 v55_voters a56 v57_voters a58 v59_voters a60 v61_voters a62 v63_voters a64 v65_voters a66) c0) n (pD none (e_ov (kW59) (wW59 G b v42_beasts v42_seats v42_seated v42_quota v42_known v42_surveyed v42_steadyBench v42_steadyWays v42_steadySwing a43 a44 a46 a47 R.1 a49 v55_voters a56 R.2.1 R.2.2.1 R.2.2.2.1 R.2.2.2.2.1 R.2.2.2.2.2.1 R.2.2.2.2.2.2.1 R.2.2.2.2.2.2.2.1 R.2.2.2.2.2.2.2.2.1 R.2.2.2.2.2.2.2.2.2.1 R.2.2.2.2.2.2.2.2.2.2) c0) n) := e_C.of (by decide) (Nat.le_of_ble_eq_true rfl) (tX1_pairFrom_p2 hw hf)
abbrev kW60 : List Nat := [42, 43, 44, 46, 47, 48, 49, 50, 53, 54, 55, 56, 57, 58, 59, 60, 61, 62, 63, 64, 65, 66]
abbrev wW60 (G : GT) (b  : Nat) (v42_beasts : Int32) (v42_seats : Int32) (v42_seated : Int32) (v42_quota : Int32) (v42_known : Int32) (v42_surveyed : Int32) (v42_steadyBench : Int32) (v42_steadyWays : Int32) (v42_steadySwing : Int64) (a43 : Nat → Int32) (a44 : Nat → Int32) (a46 : Nat → Int32) (a47 : Nat → Int32) (a48 : Nat → Int64) (a49 : Nat → Int32) (v53_voters : Int32) (a54 : Nat → Int64) (v55_voters : Int32) (a56 : Nat → Int64) (v57_voters : Int32) (a58 : Nat → Int64) (v59_voters : Int32) (a60 : Nat → Int64) (v61_voters : Int32) (a62 : Nat → Int64) (v63_voters : Int32) (a64 : Nat → Int64) (v65_voters : Int32) (a66 : Nat → Int64) : List va_E := [.inr (1, [.ref (b + 43), .ref (b + 44), .ref (b + 45), .ref (b + 46), .ref (b + 47), .ref (b + 48), .ref (b + 49), .ref (b + 50), .ref (b + 67), .int v42_beasts, .int v42_seats, .int v42_seated, .int v42_quota, .int v42_known, .int v42_surveyed, .int v42_steadyBench, .int v42_steadyWays, .long v42_steadySwing]), aI G 32 a43, aI G 8 a44, aI G 512 a46, aI G 2 a47, aJ G 512 a48, aI G 8 a49, aQ G 5 8 (e_tlQ b), .inr (8, [.ref (b + 54), .int v53_voters]), aJ G 9 a54, .inr (8, [.ref (b + 56), .int v55_voters]), aJ G 9 a56, .inr (8, [.ref (b + 58), .int v57_voters]), aJ G 9 a58, .inr (8, [.ref (b + 60), .int v59_voters]), aJ G 9 a60, .inr (8, [.ref (b + 62), .int v61_voters]), aJ G 9 a62, .inr (8, [.ref (b + 64), .int v63_voters]), aJ G 9 a64, .inr (8, [.ref (b + 66), .int v65_voters]), aJ G 9 a66]
def fX1_pairFrom_p1_L91 (Fu : Nat) : Nat → Int32 → Int32 → (Nat → Int32) → (Nat → Int32) → (Nat → Int32) → (Nat → Int32) → (Nat → Int64) → (Nat → Int32) → Int32 → (Nat → Int64) → Int32 → (Nat → Int64) → Int32 → (Nat → Int64) → Int32 → (Nat → Int64) → Int32 → (Nat → Int64) → Int32 → (Nat → Int64) → Int32 → (Nat → Int64) → Int32 → Int32 → Int32 → Int32 → Int64 → Int64 → Int32 → Option ((Nat → Int64) × Int32 × (Nat → Int64) × Int32 × (Nat → Int64) × Int32 × (Nat → Int64) × Int32 × (Nat → Int64) × Int32 × (Nat → Int64) × Int32 × (Nat → Int64))
  | 0, _, _, _, _, _, _, _, _, _, _, _, _, _, _, _, _, _, _, _, _, _, _, _, _, _, _, _, _, _ => none
  | k + 1, v42_seated, v42_quota, a43, a44, a46, a47, a48, a49, v53_voters, a54, v55_voters, a56, v57_voters, a58, v59_voters, a60, v61_voters, a62, v63_voters, a64, v65_voters, a66, x2, x3, x4, x5, x6, x8, x10 => if (3 : Int32) < (x10 : Int32) then (some (a48, v55_voters, a56, v57_voters, a58, v59_voters, a60, v61_voters, a62, v63_voters, a64, v65_voters, a66)) else ((fX1_affords a46 a47 0 (x2 ||| (((x10 &&& 1) : Int32) <<< ((x4 : Int32) &&& 31)))).bind fun r4 => (if (r4 : Int32) = (0 : Int32) then ((fX1_pairFrom_p1_L91 Fu k) v42_seated v42_quota a43 a44 a46 a47 a48 a49 v53_voters a54 v55_voters a56 v57_voters a58 v59_voters a60 v61_voters a62 v63_voters a64 v65_voters a66 x2 x3 x4 x5 x6 x8 (x10 + 1)) else ((fX1_affords a46 a47 1 (x3 ||| ((((x10 : Int32) >>> ((1 : Int32) &&& 31)) : Int32) <<< ((x4 : Int32) &&& 31)))).bind fun r5 => (if (r5 : Int32) = (0 : Int32) then ((fX1_pairFrom_p1_L91 Fu k) v42_seated v42_quota a43 a44 a46 a47 a48 a49 v53_voters a54 v55_voters a56 v57_voters a58 v59_voters a60 v61_voters a62 v63_voters a64 v65_voters a66 x2 x3 x4 x5 x6 x8 (x10 + 1)) else ((fX1_chanceWith a43 a44 x4 x10).bind fun r6 => (if (x5 : Int32) = (0 : Int32) then ((fX8_voteAfter Fu v55_voters a56 v53_voters a54 r6).bind fun r7 => ((fX1_pairFrom_p2 Fu v42_seated v42_quota a43 a44 a46 a47 a48 a49 r7.1 r7.2 v57_voters a58 v59_voters a60 v61_voters a62 v63_voters a64 v65_voters a66 (x2 ||| (((x10 &&& 1) : Int32) <<< ((x4 : Int32) &&& 31))) (x3 ||| ((((x10 : Int32) >>> ((1 : Int32) &&& 31)) : Int32) <<< ((x4 : Int32) &&& 31)))).bind fun r8 => ((fX1_pairFrom_p1_L91 Fu k) v42_seated v42_quota a43 a44 a46 a47 r8.1 a49 v53_voters a54 r7.1 r7.2 r8.2.1 r8.2.2.1 r8.2.2.2.1 r8.2.2.2.2.1 r8.2.2.2.2.2.1 r8.2.2.2.2.2.2.1 r8.2.2.2.2.2.2.2.1 r8.2.2.2.2.2.2.2.2.1 r8.2.2.2.2.2.2.2.2.2.1 r8.2.2.2.2.2.2.2.2.2.2 x2 x3 x4 x5 x6 x8 (x10 + 1)))) else ((fX1_note a48 (x2 ||| (((x10 &&& 1) : Int32) <<< ((x4 : Int32) &&& 31))) (x3 ||| ((((x10 : Int32) >>> ((1 : Int32) &&& 31)) : Int32) <<< ((x4 : Int32) &&& 31))) (x6 + (x8 * ((r6 : Int32).toInt64)))).bind fun r9 => ((fX1_pairFrom_p1_L91 Fu k) v42_seated v42_quota a43 a44 a46 a47 r9 a49 v53_voters a54 v55_voters a56 v57_voters a58 v59_voters a60 v61_voters a62 v63_voters a64 v65_voters a66 x2 x3 x4 x5 x6 x8 (x10 + 1)))))))))
set_option maxHeartbeats 4000000 in
set_option maxRecDepth 100000 in
theorem tX1_pairFrom_p1_L91 {G : GT} {b : Nat} {c0 : Hp} {n : Nat} (hw : e_wf (kW60) n) {v42_beasts : Int32} {v42_seats : Int32} {v42_known : Int32} {v42_surveyed : Int32} {v42_steadyBench : Int32} {v42_steadyWays : Int32} {v42_steadySwing : Int64} {Fu : Nat} : ∀ (k : Nat) {v42_seated : Int32} {v42_quota : Int32} {a43 : Nat → Int32} {a44 : Nat → Int32} {a46 : Nat → Int32} {a47 : Nat → Int32} {a48 : Nat → Int64} {a49 : Nat → Int32} {v53_voters : Int32} {a54 : Nat → Int64} {v55_voters : Int32} {a56 : Nat → Int64} {v57_voters : Int32} {a58 : Nat → Int64} {v59_voters : Int32} {a60 : Nat → Int64} {v61_voters : Int32} {a62 : Nat → Int64} {v63_voters : Int32} {a64 : Nat → Int64} {v65_voters : Int32} {a66 : Nat → Int64} {x2 : Int32} {x3 : Int32} {x4 : Int32} {x5 : Int32} {x6 : Int64} {x8 : Int64} {x10 : Int32} {R : (Nat → Int64) × Int32 × (Nat → Int64) × Int32 × (Nat → Int64) × Int32 × (Nat → Int64) × Int32 × (Nat → Int64) × Int32 × (Nat → Int64) × Int32 × (Nat → Int64)}, fX1_pairFrom_p1_L91 Fu k v42_seated v42_quota a43 a44 a46 a47 a48 a49 v53_voters a54 v55_voters a56 v57_voters a58 v59_voters a60 v61_voters a62 v63_voters a64 v65_voters a66 x2 x3 x4 x5 x6 x8 x10 = some R → E G b yX1_pairFrom cX1_pairFrom 14 none (e_rm 8 0 0) e_X0 (e_Z G b (pD none (e_ov (kW60) (wW60 G b v42_beasts v42_seats v42_seated v42_quota v42_known v42_surveyed v42_steadyBench v42_steadyWays v42_steadySwing a43 a44 a46 a47 R.1 a49 v53_voters a54 R.2.1 R.2.2.1 R.2.2.2.1 R.2.2.2.2.1 R.2.2.2.2.2.1 R.2.2.2.2.2.2.1 R.2.2.2.2.2.2.2.1 R.2.2.2.2.2.2.2.2.1 R.2.2.2.2.2.2.2.2.2.1 R.2.2.2.2.2.2.2.2.2.2.1 R.2.2.2.2.2.2.2.2.2.2.2.1 R.2.2.2.2.2.2.2.2.2.2.2.2) c0) n) 0 0) 91 [(0, .ref (b + 42)), (1, .int 1), (2, .int x2), (3, .int x3), (4, .int x4), (5, .int x5), (6, .long x6), (8, .long x8), (10, .int x10)] [] (e_ov (kW60) (wW60 G b v42_beasts v42_seats v42_seated v42_quota v42_known v42_surveyed v42_steadyBench v42_steadyWays v42_steadySwing a43 a44 a46 a47 a48 a49 v53_voters a54 v55_voters a56 v57_voters a58 v59_voters a60 v61_voters a62 v63_voters a64 v65_voters a66) c0) n 0 0 := by
  intro k
  induction k with
  | zero =>
    intro _ _ _ _ _ _ _ _ _ _ _ _ _ _ _ _ _ _ _ _ _ _ _ _ _ _ _ _ _ _ hf
    have hf : (none : Option ((Nat → Int64) × Int32 × (Nat → Int64) × Int32 × (Nat → Int64) × Int32 × (Nat → Int64) × Int32 × (Nat → Int64) × Int32 × (Nat → Int64) × Int32 × (Nat → Int64))) = some _ := hf
    cases hf
  | succ k ih =>
    intro v42_seated v42_quota a43 a44 a46 a47 a48 a49 v53_voters a54 v55_voters a56 v57_voters a58 v59_voters a60 v61_voters a62 v63_voters a64 v65_voters a66 x2 x3 x4 x5 x6 x8 x10 R hf
    rw [fX1_pairFrom_p1_L91] at hf
    refine E.iload 8 dX1_pairFrom_91 rfl ?_
    refine E.iconst (v := 3) dX1_pairFrom_93 (by decide) ?_
    refine E.icmp_gt dX1_pairFrom_94 (fun h => ?_) (fun h => ?_)
    · have hf := e_ift hf h
      cases hf
      exact E.vret dX1_pairFrom_210 (Nat.le_refl _) (Nat.le_refl _) (pD_rf _ _ _)
    · have hf := e_iff hf h
      refine E.iload_n 2 dX1_pairFrom_97 rfl ?_
      refine E.iload 8 dX1_pairFrom_98 rfl ?_
      refine E.iconst (v := 1) dX1_pairFrom_100 (by decide) ?_
      refine E.iand dX1_pairFrom_101 ?_
      refine E.iload 4 dX1_pairFrom_102 rfl ?_
      refine E.ishl dX1_pairFrom_104 ?_
      refine E.ior dX1_pairFrom_105 ?_
      refine E.istore (lv' := [(11, .int (x2 ||| (((x10 &&& 1) : Int32) <<< ((x4 : Int32) &&& 31)))), (0, .ref (b + 42)), (1, .int 1), (2, .int x2), (3, .int x3), (4, .int x4), (5, .int x5), (6, .long x6), (8, .long x8), (10, .int x10)]) dX1_pairFrom_106 (by decide) rfl ?_
      refine E.iload_n 4 dX1_pairFrom_108 rfl ?_
      refine E.iload 9 dX1_pairFrom_109 rfl ?_
      refine E.iconst (v := 1) dX1_pairFrom_111 (by decide) ?_
      refine E.ishr dX1_pairFrom_112 ?_
      refine E.iload 5 dX1_pairFrom_113 rfl ?_
      refine E.ishl dX1_pairFrom_115 ?_
      refine E.ior dX1_pairFrom_116 ?_
      refine E.istore (lv' := [(12, .int (x3 ||| ((((x10 : Int32) >>> ((1 : Int32) &&& 31)) : Int32) <<< ((x4 : Int32) &&& 31)))), (11, .int (x2 ||| (((x10 &&& 1) : Int32) <<< ((x4 : Int32) &&& 31)))), (0, .ref (b + 42)), (1, .int 1), (2, .int x2), (3, .int x3), (4, .int x4), (5, .int x5), (6, .long x6), (8, .long x8), (10, .int x10)]) dX1_pairFrom_117 (by decide) rfl ?_
      refine E.aload_n 2 dX1_pairFrom_119 rfl ?_
      refine E.iconst (v := 0) dX1_pairFrom_120 (by decide) ?_
      refine E.iload 1 dX1_pairFrom_121 rfl ?_
      obtain ⟨r4, hc4, hf⟩ := e_bind hf
      refine E.callVDs (es' := (wW60 G b v42_beasts v42_seats v42_seated v42_quota v42_known v42_surveyed v42_steadyBench v42_steadyWays v42_steadySwing a43 a44 a46 a47 a48 a49 v53_voters a54 v55_voters a56 v57_voters a58 v59_voters a60 v61_voters a62 v63_voters a64 v65_voters a66)) [] [0, 3, 4] 0 42 dX1_pairFrom_123 mlX1_103 hw rfl rfl rfl rfl (mX1_affords (hw.pick2 [0, 3, 4] rfl (by decide)) hc4) rfl rfl rfl rfl ⟨Nat.le_of_ble_eq_true rfl, Nat.le_of_ble_eq_true rfl⟩ rfl rfl (Nat.le_of_ble_eq_true rfl) ⟨Nat.le_refl _, Nat.le_refl _⟩ rfl ?_
      refine E.if_eq dX1_pairFrom_126 (fun h => ?_) (fun h => ?_)
      · have hf := e_ift hf h
        refine E.iinc (q := 10) (v := (x10 + 1)) (lv' := [(10, .int (x10 + 1)), (12, .int (x3 ||| ((((x10 : Int32) >>> ((1 : Int32) &&& 31)) : Int32) <<< ((x4 : Int32) &&& 31)))), (11, .int (x2 ||| (((x10 &&& 1) : Int32) <<< ((x4 : Int32) &&& 31)))), (0, .ref (b + 42)), (1, .int 1), (2, .int x2), (3, .int x3), (4, .int x4), (5, .int x5), (6, .long x6), (8, .long x8)]) dX1_pairFrom_204 rfl rfl (by decide) rfl ?_
        refine E.goto dX1_pairFrom_207 ?_
        refine E.locals [3, 4, 5, 6, 7, 8, 9, 10, 0] rfl ?_
        exact ih hf
      · have hf := e_iff hf h
        refine E.aload_n 2 dX1_pairFrom_129 rfl ?_
        refine E.iconst (v := 1) dX1_pairFrom_130 (by decide) ?_
        refine E.iload 0 dX1_pairFrom_131 rfl ?_
        obtain ⟨r5, hc5, hf⟩ := e_bind hf
        refine E.callVDs (es' := (wW60 G b v42_beasts v42_seats v42_seated v42_quota v42_known v42_surveyed v42_steadyBench v42_steadyWays v42_steadySwing a43 a44 a46 a47 a48 a49 v53_voters a54 v55_voters a56 v57_voters a58 v59_voters a60 v61_voters a62 v63_voters a64 v65_voters a66)) [] [0, 3, 4] 0 42 dX1_pairFrom_133 mlX1_103 hw rfl rfl rfl rfl (mX1_affords (hw.pick2 [0, 3, 4] rfl (by decide)) hc5) rfl rfl rfl rfl ⟨Nat.le_of_ble_eq_true rfl, Nat.le_of_ble_eq_true rfl⟩ rfl rfl (Nat.le_of_ble_eq_true rfl) ⟨Nat.le_refl _, Nat.le_refl _⟩ rfl ?_
        refine E.if_eq dX1_pairFrom_136 (fun h => ?_) (fun h => ?_)
        · have hf := e_ift hf h
          refine E.iinc (q := 10) (v := (x10 + 1)) (lv' := [(10, .int (x10 + 1)), (12, .int (x3 ||| ((((x10 : Int32) >>> ((1 : Int32) &&& 31)) : Int32) <<< ((x4 : Int32) &&& 31)))), (11, .int (x2 ||| (((x10 &&& 1) : Int32) <<< ((x4 : Int32) &&& 31)))), (0, .ref (b + 42)), (1, .int 1), (2, .int x2), (3, .int x3), (4, .int x4), (5, .int x5), (6, .long x6), (8, .long x8)]) dX1_pairFrom_204 rfl rfl (by decide) rfl ?_
          refine E.goto dX1_pairFrom_207 ?_
          refine E.locals [3, 4, 5, 6, 7, 8, 9, 10, 0] rfl ?_
          exact ih hf
        · have hf := e_iff hf h
          refine E.aload_n 2 dX1_pairFrom_139 rfl ?_
          refine E.iload 6 dX1_pairFrom_140 rfl ?_
          refine E.iload 10 dX1_pairFrom_142 rfl ?_
          obtain ⟨r6, hc6, hf⟩ := e_bind hf
          refine E.callVDs (es' := (wW60 G b v42_beasts v42_seats v42_seated v42_quota v42_known v42_surveyed v42_steadyBench v42_steadyWays v42_steadySwing a43 a44 a46 a47 a48 a49 v53_voters a54 v55_voters a56 v57_voters a58 v59_voters a60 v61_voters a62 v63_voters a64 v65_voters a66)) [] [0, 1, 2] 0 42 dX1_pairFrom_144 mlX1_114 hw rfl rfl rfl rfl (mX1_chanceWith (hw.pick2 [0, 1, 2] rfl (by decide)) hc6) rfl rfl rfl rfl ⟨Nat.le_of_ble_eq_true rfl, Nat.le_of_ble_eq_true rfl⟩ rfl rfl (Nat.le_of_ble_eq_true rfl) ⟨Nat.le_refl _, Nat.le_refl _⟩ rfl ?_
          refine E.istore (lv' := [(13, .int r6), (12, .int (x3 ||| ((((x10 : Int32) >>> ((1 : Int32) &&& 31)) : Int32) <<< ((x4 : Int32) &&& 31)))), (11, .int (x2 ||| (((x10 &&& 1) : Int32) <<< ((x4 : Int32) &&& 31)))), (0, .ref (b + 42)), (1, .int 1), (2, .int x2), (3, .int x3), (4, .int x4), (5, .int x5), (6, .long x6), (8, .long x8), (10, .int x10)]) dX1_pairFrom_147 (by decide) rfl ?_
          refine E.iload 8 dX1_pairFrom_149 rfl ?_
          refine E.if_eq dX1_pairFrom_151 (fun h => ?_) (fun h => ?_)
          · have hf := e_ift hf h
            refine E.aload_n 3 dX1_pairFrom_174 rfl ?_
            refine E.get hw 0 42 dX1_pairFrom_175 flX1_36 rfl rfl rfl rfl ?_
            refine E.iload_n 4 dX1_pairFrom_178 rfl ?_
            refine E.iconst (v := 1) dX1_pairFrom_179 (by decide) ?_
            refine E.iadd dX1_pairFrom_180 ?_
            refine E.fold (v := 2) (by decide) ?_
            refine E.aaldL hw 7 50 2 dX1_pairFrom_181 rfl rfl rfl (by unfold vp_in; decide) (by decide) rfl ?_
            refine E.aload_n 3 dX1_pairFrom_182 rfl ?_
            refine E.get hw 0 42 dX1_pairFrom_183 flX1_36 rfl rfl rfl rfl ?_
            refine E.iload_n 4 dX1_pairFrom_186 rfl ?_
            refine E.aaldL hw 7 50 1 dX1_pairFrom_187 rfl rfl rfl (by unfold vp_in; decide) (by decide) rfl ?_
            refine E.iload 0 dX1_pairFrom_188 rfl ?_
            obtain ⟨r7, hc7, hf⟩ := e_bind hf
            refine E.callVDs (es' := (wW60 G b v42_beasts v42_seats v42_seated v42_quota v42_known v42_surveyed v42_steadyBench v42_steadyWays v42_steadySwing a43 a44 a46 a47 a48 a49 v53_voters a54 r7.1 r7.2 v57_voters a58 v59_voters a60 v61_voters a62 v63_voters a64 v65_voters a66)) [] [10, 11, 8, 9] 10 55 dX1_pairFrom_190 mlX1_177 hw rfl rfl rfl rfl (mX8_voteAfter (hw.pick2 [10, 11, 8, 9] rfl (by decide)) hc7) rfl rfl rfl rfl ⟨Nat.le_of_ble_eq_true rfl, Nat.le_of_ble_eq_true rfl⟩ rfl rfl (Nat.le_of_ble_eq_true rfl) ⟨Nat.le_refl _, Nat.le_refl _⟩ rfl ?_
            refine E.aload_n 3 dX1_pairFrom_193 rfl ?_
            refine E.iload_n 4 dX1_pairFrom_194 rfl ?_
            refine E.iconst (v := 1) dX1_pairFrom_195 (by decide) ?_
            refine E.iadd dX1_pairFrom_196 ?_
            refine E.fold (v := 2) (by decide) ?_
            refine E.iload 2 dX1_pairFrom_197 rfl ?_
            refine E.iload 1 dX1_pairFrom_199 rfl ?_
            obtain ⟨r8, hc8, hf⟩ := e_bind hf
            refine E.callVDs (es' := (wW60 G b v42_beasts v42_seats v42_seated v42_quota v42_known v42_surveyed v42_steadyBench v42_steadyWays v42_steadySwing a43 a44 a46 a47 r8.1 a49 v53_voters a54 r7.1 r7.2 r8.2.1 r8.2.2.1 r8.2.2.2.1 r8.2.2.2.2.1 r8.2.2.2.2.2.1 r8.2.2.2.2.2.2.1 r8.2.2.2.2.2.2.2.1 r8.2.2.2.2.2.2.2.2.1 r8.2.2.2.2.2.2.2.2.2.1 r8.2.2.2.2.2.2.2.2.2.2)) [] [0, 1, 2, 3, 4, 5, 6, 7, 10, 11, 12, 13, 14, 15, 16, 17, 18, 19, 20, 21] 0 42 dX1_pairFrom_201 mlX1_168 hw rfl rfl rfl rfl (mX1_pairFrom_p2 (hw.pick2 [0, 1, 2, 3, 4, 5, 6, 7, 10, 11, 12, 13, 14, 15, 16, 17, 18, 19, 20, 21] rfl (by decide)) hc8) rfl rfl rfl rfl ⟨Nat.le_of_ble_eq_true rfl, Nat.le_of_ble_eq_true rfl⟩ rfl rfl (Nat.le_of_ble_eq_true rfl) ⟨Nat.le_refl _, Nat.le_refl _⟩ rfl ?_
            refine E.iinc (q := 11) (v := (x10 + 1)) (lv' := [(10, .int (x10 + 1)), (13, .int r6), (12, .int (x3 ||| ((((x10 : Int32) >>> ((1 : Int32) &&& 31)) : Int32) <<< ((x4 : Int32) &&& 31)))), (11, .int (x2 ||| (((x10 &&& 1) : Int32) <<< ((x4 : Int32) &&& 31)))), (0, .ref (b + 42)), (1, .int 1), (2, .int x2), (3, .int x3), (4, .int x4), (5, .int x5), (6, .long x6), (8, .long x8)]) dX1_pairFrom_204 rfl rfl (by decide) rfl ?_
            refine E.goto dX1_pairFrom_207 ?_
            refine E.locals [4, 5, 6, 7, 8, 9, 10, 11, 0] rfl ?_
            exact ih hf
          · have hf := e_iff hf h
            refine E.aload_n 3 dX1_pairFrom_154 rfl ?_
            refine E.iload 2 dX1_pairFrom_155 rfl ?_
            refine E.iload 1 dX1_pairFrom_157 rfl ?_
            refine E.lload 9 dX1_pairFrom_159 rfl ?_
            refine E.lload 10 dX1_pairFrom_161 rfl ?_
            refine E.iload 0 dX1_pairFrom_163 rfl ?_
            refine E.i2l dX1_pairFrom_165 ?_
            refine E.lmul dX1_pairFrom_166 ?_
            refine E.ladd dX1_pairFrom_167 ?_
            obtain ⟨r9, hc9, hf⟩ := e_bind hf
            refine E.callVDs (es' := (wW60 G b v42_beasts v42_seats v42_seated v42_quota v42_known v42_surveyed v42_steadyBench v42_steadyWays v42_steadySwing a43 a44 a46 a47 r9 a49 v53_voters a54 v55_voters a56 v57_voters a58 v59_voters a60 v61_voters a62 v63_voters a64 v65_voters a66)) [] [0, 5] 0 42 dX1_pairFrom_168 mlX1_164 hw rfl rfl rfl rfl (mX1_note (hw.pick2 [0, 5] rfl (by decide)) hc9) rfl rfl rfl rfl ⟨Nat.le_of_ble_eq_true rfl, Nat.le_of_ble_eq_true rfl⟩ rfl rfl (Nat.le_of_ble_eq_true rfl) ⟨Nat.le_refl _, Nat.le_refl _⟩ rfl ?_
            refine E.goto dX1_pairFrom_171 ?_
            refine E.iinc (q := 11) (v := (x10 + 1)) (lv' := [(10, .int (x10 + 1)), (13, .int r6), (12, .int (x3 ||| ((((x10 : Int32) >>> ((1 : Int32) &&& 31)) : Int32) <<< ((x4 : Int32) &&& 31)))), (11, .int (x2 ||| (((x10 &&& 1) : Int32) <<< ((x4 : Int32) &&& 31)))), (0, .ref (b + 42)), (1, .int 1), (2, .int x2), (3, .int x3), (4, .int x4), (5, .int x5), (6, .long x6), (8, .long x8)]) dX1_pairFrom_204 rfl rfl (by decide) rfl ?_
            refine E.goto dX1_pairFrom_207 ?_
            refine E.locals [4, 5, 6, 7, 8, 9, 10, 11, 0] rfl ?_
            exact ih hf
def fX1_pairFrom_p1_L86 (Fu : Nat) (v42_seated : Int32) (v42_quota : Int32) (a43 : Nat → Int32) (a44 : Nat → Int32) (a46 : Nat → Int32) (a47 : Nat → Int32) (a48 : Nat → Int64) (a49 : Nat → Int32) (v53_voters : Int32) (a54 : Nat → Int64) (v55_voters : Int32) (a56 : Nat → Int64) (v57_voters : Int32) (a58 : Nat → Int64) (v59_voters : Int32) (a60 : Nat → Int64) (v61_voters : Int32) (a62 : Nat → Int64) (v63_voters : Int32) (a64 : Nat → Int64) (v65_voters : Int32) (a66 : Nat → Int64) (x2 : Int32) (x3 : Int32) (x4 : Int32) (x5 : Int32) (x6 : Int64) (s0 : Int64) : Option ((Nat → Int64) × Int32 × (Nat → Int64) × Int32 × (Nat → Int64) × Int32 × (Nat → Int64) × Int32 × (Nat → Int64) × Int32 × (Nat → Int64) × Int32 × (Nat → Int64)) := fX1_pairFrom_p1_L91 Fu Fu v42_seated v42_quota a43 a44 a46 a47 a48 a49 v53_voters a54 v55_voters a56 v57_voters a58 v59_voters a60 v61_voters a62 v63_voters a64 v65_voters a66 x2 x3 x4 x5 x6 s0 0
set_option maxHeartbeats 4000000 in
set_option maxRecDepth 100000 in
theorem tX1_pairFrom_p1_L86 {G : GT} {b : Nat} {c0 : Hp} {n : Nat} (hw : e_wf (kW60) n) {v42_beasts : Int32} {v42_seats : Int32} {v42_known : Int32} {v42_surveyed : Int32} {v42_steadyBench : Int32} {v42_steadyWays : Int32} {v42_steadySwing : Int64} {Fu : Nat} {v42_seated : Int32} {v42_quota : Int32} {a43 : Nat → Int32} {a44 : Nat → Int32} {a46 : Nat → Int32} {a47 : Nat → Int32} {a48 : Nat → Int64} {a49 : Nat → Int32} {v53_voters : Int32} {a54 : Nat → Int64} {v55_voters : Int32} {a56 : Nat → Int64} {v57_voters : Int32} {a58 : Nat → Int64} {v59_voters : Int32} {a60 : Nat → Int64} {v61_voters : Int32} {a62 : Nat → Int64} {v63_voters : Int32} {a64 : Nat → Int64} {v65_voters : Int32} {a66 : Nat → Int64} {x2 : Int32} {x3 : Int32} {x4 : Int32} {x5 : Int32} {x6 : Int64} {s0 : Int64} {R : (Nat → Int64) × Int32 × (Nat → Int64) × Int32 × (Nat → Int64) × Int32 × (Nat → Int64) × Int32 × (Nat → Int64) × Int32 × (Nat → Int64) × Int32 × (Nat → Int64)} (hf : fX1_pairFrom_p1_L86 Fu v42_seated v42_quota a43 a44 a46 a47 a48 a49 v53_voters a54 v55_voters a56 v57_voters a58 v59_voters a60 v61_voters a62 v63_voters a64 v65_voters a66 x2 x3 x4 x5 x6 s0 = some R) : E G b yX1_pairFrom cX1_pairFrom 14 none (e_rm 8 0 0) e_X0 (e_Z G b (pD none (e_ov (kW60) (wW60 G b v42_beasts v42_seats v42_seated v42_quota v42_known v42_surveyed v42_steadyBench v42_steadyWays v42_steadySwing a43 a44 a46 a47 R.1 a49 v53_voters a54 R.2.1 R.2.2.1 R.2.2.2.1 R.2.2.2.2.1 R.2.2.2.2.2.1 R.2.2.2.2.2.2.1 R.2.2.2.2.2.2.2.1 R.2.2.2.2.2.2.2.2.1 R.2.2.2.2.2.2.2.2.2.1 R.2.2.2.2.2.2.2.2.2.2.1 R.2.2.2.2.2.2.2.2.2.2.2.1 R.2.2.2.2.2.2.2.2.2.2.2.2) c0) n) 0 0) 86 [(0, .ref (b + 42)), (1, .int 1), (2, .int x2), (3, .int x3), (4, .int x4), (5, .int x5), (6, .long x6)] [.long s0] (e_ov (kW60) (wW60 G b v42_beasts v42_seats v42_seated v42_quota v42_known v42_surveyed v42_steadyBench v42_steadyWays v42_steadySwing a43 a44 a46 a47 a48 a49 v53_voters a54 v55_voters a56 v57_voters a58 v59_voters a60 v61_voters a62 v63_voters a64 v65_voters a66) c0) n 0 0 := by
  unfold fX1_pairFrom_p1_L86 at hf
  refine E.lstore (lv' := [(8, .long s0), (0, .ref (b + 42)), (1, .int 1), (2, .int x2), (3, .int x3), (4, .int x4), (5, .int x5), (6, .long x6)]) dX1_pairFrom_86 (by decide) rfl ?_
  refine E.iconst (v := 0) dX1_pairFrom_88 (by decide) ?_
  refine E.istore (lv' := [(10, .int 0), (8, .long s0), (0, .ref (b + 42)), (1, .int 1), (2, .int x2), (3, .int x3), (4, .int x4), (5, .int x5), (6, .long x6)]) dX1_pairFrom_89 (by decide) rfl ?_
  refine E.locals [2, 3, 4, 5, 6, 7, 8, 1, 0] rfl ?_
  exact tX1_pairFrom_p1_L91 hw _ hf
def fX1_pairFrom_p1_L60 (Fu : Nat) (v42_seated : Int32) (v42_quota : Int32) (a43 : Nat → Int32) (a44 : Nat → Int32) (a46 : Nat → Int32) (a47 : Nat → Int32) (a48 : Nat → Int64) (a49 : Nat → Int32) (v53_voters : Int32) (a54 : Nat → Int64) (v55_voters : Int32) (a56 : Nat → Int64) (v57_voters : Int32) (a58 : Nat → Int64) (v59_voters : Int32) (a60 : Nat → Int64) (v61_voters : Int32) (a62 : Nat → Int64) (v63_voters : Int32) (a64 : Nat → Int64) (v65_voters : Int32) (a66 : Nat → Int64) (x2 : Int32) (x3 : Int32) (x4 : Int32) (x5 : Int32) (s0 : Int64) : Option ((Nat → Int64) × Int32 × (Nat → Int64) × Int32 × (Nat → Int64) × Int32 × (Nat → Int64) × Int32 × (Nat → Int64) × Int32 × (Nat → Int64) × Int32 × (Nat → Int64)) := if (x5 : Int32) = (0 : Int32) then (fX1_pairFrom_p1_L86 Fu v42_seated v42_quota a43 a44 a46 a47 a48 a49 v53_voters a54 v55_voters a56 v57_voters a58 v59_voters a60 v61_voters a62 v63_voters a64 v65_voters a66 x2 x3 x4 x5 s0 0) else ((fX8_just v53_voters a54 (v42_quota - 1)).bind fun r3 => (fX1_pairFrom_p1_L86 Fu v42_seated v42_quota a43 a44 a46 a47 a48 a49 v53_voters a54 v55_voters a56 v57_voters a58 v59_voters a60 v61_voters a62 v63_voters a64 v65_voters a66 x2 x3 x4 x5 s0 r3))
set_option maxHeartbeats 4000000 in
set_option maxRecDepth 100000 in
theorem tX1_pairFrom_p1_L60 {G : GT} {b : Nat} {c0 : Hp} {n : Nat} (hw : e_wf (kW60) n) {v42_beasts : Int32} {v42_seats : Int32} {v42_known : Int32} {v42_surveyed : Int32} {v42_steadyBench : Int32} {v42_steadyWays : Int32} {v42_steadySwing : Int64} {Fu : Nat} {v42_seated : Int32} {v42_quota : Int32} {a43 : Nat → Int32} {a44 : Nat → Int32} {a46 : Nat → Int32} {a47 : Nat → Int32} {a48 : Nat → Int64} {a49 : Nat → Int32} {v53_voters : Int32} {a54 : Nat → Int64} {v55_voters : Int32} {a56 : Nat → Int64} {v57_voters : Int32} {a58 : Nat → Int64} {v59_voters : Int32} {a60 : Nat → Int64} {v61_voters : Int32} {a62 : Nat → Int64} {v63_voters : Int32} {a64 : Nat → Int64} {v65_voters : Int32} {a66 : Nat → Int64} {x2 : Int32} {x3 : Int32} {x4 : Int32} {x5 : Int32} {s0 : Int64} {R : (Nat → Int64) × Int32 × (Nat → Int64) × Int32 × (Nat → Int64) × Int32 × (Nat → Int64) × Int32 × (Nat → Int64) × Int32 × (Nat → Int64) × Int32 × (Nat → Int64)} (hf : fX1_pairFrom_p1_L60 Fu v42_seated v42_quota a43 a44 a46 a47 a48 a49 v53_voters a54 v55_voters a56 v57_voters a58 v59_voters a60 v61_voters a62 v63_voters a64 v65_voters a66 x2 x3 x4 x5 s0 = some R) : E G b yX1_pairFrom cX1_pairFrom 14 none (e_rm 8 0 0) e_X0 (e_Z G b (pD none (e_ov (kW60) (wW60 G b v42_beasts v42_seats v42_seated v42_quota v42_known v42_surveyed v42_steadyBench v42_steadyWays v42_steadySwing a43 a44 a46 a47 R.1 a49 v53_voters a54 R.2.1 R.2.2.1 R.2.2.2.1 R.2.2.2.2.1 R.2.2.2.2.2.1 R.2.2.2.2.2.2.1 R.2.2.2.2.2.2.2.1 R.2.2.2.2.2.2.2.2.1 R.2.2.2.2.2.2.2.2.2.1 R.2.2.2.2.2.2.2.2.2.2.1 R.2.2.2.2.2.2.2.2.2.2.2.1 R.2.2.2.2.2.2.2.2.2.2.2.2) c0) n) 0 0) 60 [(0, .ref (b + 42)), (1, .int 1), (2, .int x2), (3, .int x3), (4, .int x4), (5, .int x5)] [.long s0] (e_ov (kW60) (wW60 G b v42_beasts v42_seats v42_seated v42_quota v42_known v42_surveyed v42_steadyBench v42_steadyWays v42_steadySwing a43 a44 a46 a47 a48 a49 v53_voters a54 v55_voters a56 v57_voters a58 v59_voters a60 v61_voters a62 v63_voters a64 v65_voters a66) c0) n 0 0 := by
  unfold fX1_pairFrom_p1_L60 at hf
  refine E.lstore (lv' := [(6, .long s0), (0, .ref (b + 42)), (1, .int 1), (2, .int x2), (3, .int x3), (4, .int x4), (5, .int x5)]) dX1_pairFrom_60 (by decide) rfl ?_
  refine E.iload 6 dX1_pairFrom_62 rfl ?_
  refine E.if_eq dX1_pairFrom_64 (fun h => ?_) (fun h => ?_)
  · have hf := e_ift hf h
    refine E.lconst (v := 0) dX1_pairFrom_85 (by decide) ?_
    refine E.locals [1, 2, 3, 4, 5, 6, 0] rfl ?_
    exact tX1_pairFrom_p1_L86 hw hf
  · have hf := e_iff hf h
    refine E.aload_n 1 dX1_pairFrom_67 rfl ?_
    refine E.get hw 0 42 dX1_pairFrom_68 flX1_36 rfl rfl rfl rfl ?_
    refine E.iload_n 2 dX1_pairFrom_71 rfl ?_
    refine E.aaldL hw 7 50 1 dX1_pairFrom_72 rfl rfl rfl (by unfold vp_in; decide) (by decide) rfl ?_
    refine E.aload_n 1 dX1_pairFrom_73 rfl ?_
    refine E.get hw 0 42 dX1_pairFrom_74 flX1_66 rfl rfl rfl rfl ?_
    refine E.iconst (v := 1) dX1_pairFrom_77 (by decide) ?_
    refine E.isub dX1_pairFrom_78 ?_
    obtain ⟨r3, hc3, hf⟩ := e_bind hf
    refine E.callVDs (es' := (wW60 G b v42_beasts v42_seats v42_seated v42_quota v42_known v42_surveyed v42_steadyBench v42_steadyWays v42_steadySwing a43 a44 a46 a47 a48 a49 v53_voters a54 v55_voters a56 v57_voters a58 v59_voters a60 v61_voters a62 v63_voters a64 v65_voters a66)) [] [8, 9] 8 53 dX1_pairFrom_79 mlX1_174 hw rfl rfl rfl rfl (mX8_just (hw.pick2 [8, 9] rfl (by decide)) hc3) rfl rfl rfl rfl ⟨Nat.le_of_ble_eq_true rfl, Nat.le_of_ble_eq_true rfl⟩ rfl rfl (Nat.le_of_ble_eq_true rfl) ⟨Nat.le_refl _, Nat.le_refl _⟩ rfl ?_
    refine E.goto dX1_pairFrom_82 ?_
    refine E.locals [1, 2, 3, 4, 5, 6, 0] rfl ?_
    exact tX1_pairFrom_p1_L86 hw hf
def fX1_pairFrom_p1_L32 (Fu : Nat) (v42_seated : Int32) (v42_quota : Int32) (a43 : Nat → Int32) (a44 : Nat → Int32) (a46 : Nat → Int32) (a47 : Nat → Int32) (a48 : Nat → Int64) (a49 : Nat → Int32) (v53_voters : Int32) (a54 : Nat → Int64) (v55_voters : Int32) (a56 : Nat → Int64) (v57_voters : Int32) (a58 : Nat → Int64) (v59_voters : Int32) (a60 : Nat → Int64) (v61_voters : Int32) (a62 : Nat → Int64) (v63_voters : Int32) (a64 : Nat → Int64) (v65_voters : Int32) (a66 : Nat → Int64) (x2 : Int32) (x3 : Int32) (x4 : Int32) (s0 : Int32) : Option ((Nat → Int64) × Int32 × (Nat → Int64) × Int32 × (Nat → Int64) × Int32 × (Nat → Int64) × Int32 × (Nat → Int64) × Int32 × (Nat → Int64) × Int32 × (Nat → Int64)) := if (s0 : Int32) = (0 : Int32) then (fX1_pairFrom_p1_L60 Fu v42_seated v42_quota a43 a44 a46 a47 a48 a49 v53_voters a54 v55_voters a56 v57_voters a58 v59_voters a60 v61_voters a62 v63_voters a64 v65_voters a66 x2 x3 x4 s0 0) else ((fX8_atLeast Fu v53_voters a54 v42_quota).bind fun r2 => (fX1_pairFrom_p1_L60 Fu v42_seated v42_quota a43 a44 a46 a47 a48 a49 v53_voters a54 v55_voters a56 v57_voters a58 v59_voters a60 v61_voters a62 v63_voters a64 v65_voters a66 x2 x3 x4 s0 (r2 * 100)))
set_option maxHeartbeats 4000000 in
set_option maxRecDepth 100000 in
theorem tX1_pairFrom_p1_L32 {G : GT} {b : Nat} {c0 : Hp} {n : Nat} (hw : e_wf (kW60) n) {v42_beasts : Int32} {v42_seats : Int32} {v42_known : Int32} {v42_surveyed : Int32} {v42_steadyBench : Int32} {v42_steadyWays : Int32} {v42_steadySwing : Int64} {Fu : Nat} {v42_seated : Int32} {v42_quota : Int32} {a43 : Nat → Int32} {a44 : Nat → Int32} {a46 : Nat → Int32} {a47 : Nat → Int32} {a48 : Nat → Int64} {a49 : Nat → Int32} {v53_voters : Int32} {a54 : Nat → Int64} {v55_voters : Int32} {a56 : Nat → Int64} {v57_voters : Int32} {a58 : Nat → Int64} {v59_voters : Int32} {a60 : Nat → Int64} {v61_voters : Int32} {a62 : Nat → Int64} {v63_voters : Int32} {a64 : Nat → Int64} {v65_voters : Int32} {a66 : Nat → Int64} {x2 : Int32} {x3 : Int32} {x4 : Int32} {s0 : Int32} {R : (Nat → Int64) × Int32 × (Nat → Int64) × Int32 × (Nat → Int64) × Int32 × (Nat → Int64) × Int32 × (Nat → Int64) × Int32 × (Nat → Int64) × Int32 × (Nat → Int64)} (hf : fX1_pairFrom_p1_L32 Fu v42_seated v42_quota a43 a44 a46 a47 a48 a49 v53_voters a54 v55_voters a56 v57_voters a58 v59_voters a60 v61_voters a62 v63_voters a64 v65_voters a66 x2 x3 x4 s0 = some R) : E G b yX1_pairFrom cX1_pairFrom 14 none (e_rm 8 0 0) e_X0 (e_Z G b (pD none (e_ov (kW60) (wW60 G b v42_beasts v42_seats v42_seated v42_quota v42_known v42_surveyed v42_steadyBench v42_steadyWays v42_steadySwing a43 a44 a46 a47 R.1 a49 v53_voters a54 R.2.1 R.2.2.1 R.2.2.2.1 R.2.2.2.2.1 R.2.2.2.2.2.1 R.2.2.2.2.2.2.1 R.2.2.2.2.2.2.2.1 R.2.2.2.2.2.2.2.2.1 R.2.2.2.2.2.2.2.2.2.1 R.2.2.2.2.2.2.2.2.2.2.1 R.2.2.2.2.2.2.2.2.2.2.2.1 R.2.2.2.2.2.2.2.2.2.2.2.2) c0) n) 0 0) 32 [(0, .ref (b + 42)), (1, .int 1), (2, .int x2), (3, .int x3), (4, .int x4)] [.int s0] (e_ov (kW60) (wW60 G b v42_beasts v42_seats v42_seated v42_quota v42_known v42_surveyed v42_steadyBench v42_steadyWays v42_steadySwing a43 a44 a46 a47 a48 a49 v53_voters a54 v55_voters a56 v57_voters a58 v59_voters a60 v61_voters a62 v63_voters a64 v65_voters a66) c0) n 0 0 := by
  unfold fX1_pairFrom_p1_L32 at hf
  refine E.istore (lv' := [(5, .int s0), (0, .ref (b + 42)), (1, .int 1), (2, .int x2), (3, .int x3), (4, .int x4)]) dX1_pairFrom_32 (by decide) rfl ?_
  refine E.iload 0 dX1_pairFrom_34 rfl ?_
  refine E.if_eq dX1_pairFrom_36 (fun h => ?_) (fun h => ?_)
  · have hf := e_ift hf h
    refine E.lconst (v := 0) dX1_pairFrom_59 (by decide) ?_
    refine E.locals [1, 2, 3, 4, 5, 0] rfl ?_
    exact tX1_pairFrom_p1_L60 hw hf
  · have hf := e_iff hf h
    refine E.aload_n 1 dX1_pairFrom_39 rfl ?_
    refine E.get hw 0 42 dX1_pairFrom_40 flX1_36 rfl rfl rfl rfl ?_
    refine E.iload_n 2 dX1_pairFrom_43 rfl ?_
    refine E.aaldL hw 7 50 1 dX1_pairFrom_44 rfl rfl rfl (by unfold vp_in; decide) (by decide) rfl ?_
    refine E.aload_n 1 dX1_pairFrom_45 rfl ?_
    refine E.get hw 0 42 dX1_pairFrom_46 flX1_66 rfl rfl rfl rfl ?_
    obtain ⟨r2, hc2, hf⟩ := e_bind hf
    refine E.callVDs (es' := (wW60 G b v42_beasts v42_seats v42_seated v42_quota v42_known v42_surveyed v42_steadyBench v42_steadyWays v42_steadySwing a43 a44 a46 a47 a48 a49 v53_voters a54 v55_voters a56 v57_voters a58 v59_voters a60 v61_voters a62 v63_voters a64 v65_voters a66)) [] [8, 9] 8 53 dX1_pairFrom_49 mlX1_120 hw rfl rfl rfl rfl (mX8_atLeast (hw.pick2 [8, 9] rfl (by decide)) hc2) rfl rfl rfl rfl ⟨Nat.le_of_ble_eq_true rfl, Nat.le_of_ble_eq_true rfl⟩ rfl rfl (Nat.le_of_ble_eq_true rfl) ⟨Nat.le_refl _, Nat.le_refl _⟩ rfl ?_
    refine E.ldc2 dX1_pairFrom_52 kX1_172 ?_
    refine E.lmul dX1_pairFrom_55 ?_
    refine E.goto dX1_pairFrom_56 ?_
    refine E.locals [1, 2, 3, 4, 5, 0] rfl ?_
    exact tX1_pairFrom_p1_L60 hw hf
def fX1_pairFrom_p1 (Fu : Nat) (v42_seated : Int32) (v42_quota : Int32) (a43 : Nat → Int32) (a44 : Nat → Int32) (a46 : Nat → Int32) (a47 : Nat → Int32) (a48 : Nat → Int64) (a49 : Nat → Int32) (v53_voters : Int32) (a54 : Nat → Int64) (v55_voters : Int32) (a56 : Nat → Int64) (v57_voters : Int32) (a58 : Nat → Int64) (v59_voters : Int32) (a60 : Nat → Int64) (v61_voters : Int32) (a62 : Nat → Int64) (v63_voters : Int32) (a64 : Nat → Int64) (v65_voters : Int32) (a66 : Nat → Int64) (x2 : Int32) (x3 : Int32) : Option ((Nat → Int64) × Int32 × (Nat → Int64) × Int32 × (Nat → Int64) × Int32 × (Nat → Int64) × Int32 × (Nat → Int64) × Int32 × (Nat → Int64) × Int32 × (Nat → Int64)) := if (1 : Int32) < (v42_seated : Int32) then (gd 1 8 (if (2 : Int32) < (v42_seated : Int32) then (fX1_pairFrom_p1_L32 Fu v42_seated v42_quota a43 a44 a46 a47 a48 a49 v53_voters a54 v55_voters a56 v57_voters a58 v59_voters a60 v61_voters a62 v63_voters a64 v65_voters a66 x2 x3 (a49 (1 : Int32).toNatClampNeg) 0) else (fX1_pairFrom_p1_L32 Fu v42_seated v42_quota a43 a44 a46 a47 a48 a49 v53_voters a54 v55_voters a56 v57_voters a58 v59_voters a60 v61_voters a62 v63_voters a64 v65_voters a66 x2 x3 (a49 (1 : Int32).toNatClampNeg) 1))) else (some (a48, v55_voters, a56, v57_voters, a58, v59_voters, a60, v61_voters, a62, v63_voters, a64, v65_voters, a66))
set_option maxHeartbeats 4000000 in
set_option maxRecDepth 100000 in
theorem tX1_pairFrom_p1 {G : GT} {b : Nat} {c0 : Hp} {n : Nat} (hw : e_wf (kW60) n) {v42_beasts : Int32} {v42_seats : Int32} {v42_known : Int32} {v42_surveyed : Int32} {v42_steadyBench : Int32} {v42_steadyWays : Int32} {v42_steadySwing : Int64} {Fu : Nat} {v42_seated : Int32} {v42_quota : Int32} {a43 : Nat → Int32} {a44 : Nat → Int32} {a46 : Nat → Int32} {a47 : Nat → Int32} {a48 : Nat → Int64} {a49 : Nat → Int32} {v53_voters : Int32} {a54 : Nat → Int64} {v55_voters : Int32} {a56 : Nat → Int64} {v57_voters : Int32} {a58 : Nat → Int64} {v59_voters : Int32} {a60 : Nat → Int64} {v61_voters : Int32} {a62 : Nat → Int64} {v63_voters : Int32} {a64 : Nat → Int64} {v65_voters : Int32} {a66 : Nat → Int64} {x2 : Int32} {x3 : Int32} {R : (Nat → Int64) × Int32 × (Nat → Int64) × Int32 × (Nat → Int64) × Int32 × (Nat → Int64) × Int32 × (Nat → Int64) × Int32 × (Nat → Int64) × Int32 × (Nat → Int64)} (hf : fX1_pairFrom_p1 Fu v42_seated v42_quota a43 a44 a46 a47 a48 a49 v53_voters a54 v55_voters a56 v57_voters a58 v59_voters a60 v61_voters a62 v63_voters a64 v65_voters a66 x2 x3 = some R) : E G b yX1_pairFrom cX1_pairFrom 14 none (e_rm 8 0 0) e_X0 (e_Z G b (pD none (e_ov (kW60) (wW60 G b v42_beasts v42_seats v42_seated v42_quota v42_known v42_surveyed v42_steadyBench v42_steadyWays v42_steadySwing a43 a44 a46 a47 R.1 a49 v53_voters a54 R.2.1 R.2.2.1 R.2.2.2.1 R.2.2.2.2.1 R.2.2.2.2.2.1 R.2.2.2.2.2.2.1 R.2.2.2.2.2.2.2.1 R.2.2.2.2.2.2.2.2.1 R.2.2.2.2.2.2.2.2.2.1 R.2.2.2.2.2.2.2.2.2.2.1 R.2.2.2.2.2.2.2.2.2.2.2.1 R.2.2.2.2.2.2.2.2.2.2.2.2) c0) n) 0 0) 0 [(0, .ref (b + 42)), (1, .int 1), (2, .int x2), (3, .int x3)] [] (e_ov (kW60) (wW60 G b v42_beasts v42_seats v42_seated v42_quota v42_known v42_surveyed v42_steadyBench v42_steadyWays v42_steadySwing a43 a44 a46 a47 a48 a49 v53_voters a54 v55_voters a56 v57_voters a58 v59_voters a60 v61_voters a62 v63_voters a64 v65_voters a66) c0) n 0 0 := by
  unfold fX1_pairFrom_p1 at hf
  refine E.iload_n 1 dX1_pairFrom_0 rfl ?_
  refine E.aload_n 0 dX1_pairFrom_1 rfl ?_
  refine E.get hw 0 42 dX1_pairFrom_2 flX1_69 rfl rfl rfl rfl ?_
  refine E.icmp_lt dX1_pairFrom_5 (fun h => ?_) (fun h => ?_)
  · have hf := e_ift hf h
    refine E.aload_n 0 dX1_pairFrom_9 rfl ?_
    refine E.get hw 0 42 dX1_pairFrom_10 flX1_31 rfl rfl rfl rfl ?_
    refine E.iload_n 1 dX1_pairFrom_13 rfl ?_
    obtain ⟨g1, hf⟩ := gd_some hf
    refine E.iald hw 6 49 dX1_pairFrom_14 rfl rfl g1 ?_
    refine E.istore (lv' := [(4, .int (a49 (1 : Int32).toNatClampNeg)), (0, .ref (b + 42)), (1, .int 1), (2, .int x2), (3, .int x3)]) dX1_pairFrom_15 (by decide) rfl ?_
    refine E.iload_n 2 dX1_pairFrom_17 rfl ?_
    refine E.iconst (v := 1) dX1_pairFrom_18 (by decide) ?_
    refine E.iadd dX1_pairFrom_19 ?_
    refine E.fold (v := 2) (by decide) ?_
    refine E.aload_n 1 dX1_pairFrom_20 rfl ?_
    refine E.get hw 0 42 dX1_pairFrom_21 flX1_69 rfl rfl rfl rfl ?_
    refine E.icmp_lt dX1_pairFrom_24 (fun h => ?_) (fun h => ?_)
    · have hf := e_ift hf h
      refine E.iconst (v := 0) dX1_pairFrom_31 (by decide) ?_
      refine E.locals [1, 2, 3, 4, 0] rfl ?_
      exact tX1_pairFrom_p1_L32 hw hf
    · have hf := e_iff hf h
      refine E.iconst (v := 1) dX1_pairFrom_27 (by decide) ?_
      refine E.goto dX1_pairFrom_28 ?_
      refine E.locals [1, 2, 3, 4, 0] rfl ?_
      exact tX1_pairFrom_p1_L32 hw hf
  · have hf := e_iff hf h
    cases hf
    exact E.vret dX1_pairFrom_8 (Nat.le_refl _) (Nat.le_refl _) (pD_rf _ _ _)
set_option maxRecDepth 100000 in
theorem mX1_pairFrom_p1 {G : GT} {b : Nat} {c0 : Hp} {n : Nat} (hw : e_wf (kW60) n) {v42_beasts : Int32} {v42_seats : Int32} {v42_known : Int32} {v42_surveyed : Int32} {v42_steadyBench : Int32} {v42_steadyWays : Int32} {v42_steadySwing : Int64} {Fu : Nat} {v42_seated : Int32} {v42_quota : Int32} {a43 : Nat → Int32} {a44 : Nat → Int32} {a46 : Nat → Int32} {a47 : Nat → Int32} {a48 : Nat → Int64} {a49 : Nat → Int32} {v53_voters : Int32} {a54 : Nat → Int64} {v55_voters : Int32} {a56 : Nat → Int64} {v57_voters : Int32} {a58 : Nat → Int64} {v59_voters : Int32} {a60 : Nat → Int64} {v61_voters : Int32} {a62 : Nat → Int64} {v63_voters : Int32} {a64 : Nat → Int64} {v65_voters : Int32} {a66 : Nat → Int64} {x2 : Int32} {x3 : Int32} {R : (Nat → Int64) × Int32 × (Nat → Int64) × Int32 × (Nat → Int64) × Int32 × (Nat → Int64) × Int32 × (Nat → Int64) × Int32 × (Nat → Int64) × Int32 × (Nat → Int64)} (hf : fX1_pairFrom_p1 Fu v42_seated v42_quota a43 a44 a46 a47 a48 a49 v53_voters a54 v55_voters a56 v57_voters a58 v59_voters a60 v61_voters a62 v63_voters a64 v65_voters a66 x2 x3 = some R) : e_C G b yX1_pairFrom cX1_pairFrom 14 none 8 0 0 [.ref (b + 42), .int 1, .int x2, .int x3] (e_ov (kW60) (wW60 G b v42_beasts v42_seats v42_seated v42_quota v42_known v42_surveyed v42_steadyBench v42_steadyWays v42_steadySwing a43 a44 a46 a47 a48 a49 v53_voters a54 v55_voters a56 v57_voters a58 v59_voters a60 v61_voters a62 v63_voters a64 v65_voters a66) c0) n (pD none (e_ov (kW60) (wW60 G b v42_beasts v42_seats v42_seated v42_quota v42_known v42_surveyed v42_steadyBench v42_steadyWays v42_steadySwing a43 a44 a46 a47 R.1 a49 v53_voters a54 R.2.1 R.2.2.1 R.2.2.2.1 R.2.2.2.2.1 R.2.2.2.2.2.1 R.2.2.2.2.2.2.1 R.2.2.2.2.2.2.2.1 R.2.2.2.2.2.2.2.2.1 R.2.2.2.2.2.2.2.2.2.1 R.2.2.2.2.2.2.2.2.2.2.1 R.2.2.2.2.2.2.2.2.2.2.2.1 R.2.2.2.2.2.2.2.2.2.2.2.2) c0) n) := e_C.of (by decide) (Nat.le_of_ble_eq_true rfl) (tX1_pairFrom_p1 hw hf)
abbrev kW61 : List Nat := [42, 43, 44, 46, 47, 48, 49, 50, 51, 52, 53, 54, 55, 56, 57, 58, 59, 60, 61, 62, 63, 64, 65, 66]
abbrev wW61 (G : GT) (b  : Nat) (v42_beasts : Int32) (v42_seats : Int32) (v42_seated : Int32) (v42_quota : Int32) (v42_known : Int32) (v42_surveyed : Int32) (v42_steadyBench : Int32) (v42_steadyWays : Int32) (v42_steadySwing : Int64) (a43 : Nat → Int32) (a44 : Nat → Int32) (a46 : Nat → Int32) (a47 : Nat → Int32) (a48 : Nat → Int64) (a49 : Nat → Int32) (v51_voters : Int32) (a52 : Nat → Int64) (v53_voters : Int32) (a54 : Nat → Int64) (v55_voters : Int32) (a56 : Nat → Int64) (v57_voters : Int32) (a58 : Nat → Int64) (v59_voters : Int32) (a60 : Nat → Int64) (v61_voters : Int32) (a62 : Nat → Int64) (v63_voters : Int32) (a64 : Nat → Int64) (v65_voters : Int32) (a66 : Nat → Int64) : List va_E := [.inr (1, [.ref (b + 43), .ref (b + 44), .ref (b + 45), .ref (b + 46), .ref (b + 47), .ref (b + 48), .ref (b + 49), .ref (b + 50), .ref (b + 67), .int v42_beasts, .int v42_seats, .int v42_seated, .int v42_quota, .int v42_known, .int v42_surveyed, .int v42_steadyBench, .int v42_steadyWays, .long v42_steadySwing]), aI G 32 a43, aI G 8 a44, aI G 512 a46, aI G 2 a47, aJ G 512 a48, aI G 8 a49, aQ G 5 8 (e_tlQ b), .inr (8, [.ref (b + 52), .int v51_voters]), aJ G 9 a52, .inr (8, [.ref (b + 54), .int v53_voters]), aJ G 9 a54, .inr (8, [.ref (b + 56), .int v55_voters]), aJ G 9 a56, .inr (8, [.ref (b + 58), .int v57_voters]), aJ G 9 a58, .inr (8, [.ref (b + 60), .int v59_voters]), aJ G 9 a60, .inr (8, [.ref (b + 62), .int v61_voters]), aJ G 9 a62, .inr (8, [.ref (b + 64), .int v63_voters]), aJ G 9 a64, .inr (8, [.ref (b + 66), .int v65_voters]), aJ G 9 a66]
def fX1_pairFrom_p0_L91 (Fu : Nat) : Nat → Int32 → Int32 → (Nat → Int32) → (Nat → Int32) → (Nat → Int32) → (Nat → Int32) → (Nat → Int64) → (Nat → Int32) → Int32 → (Nat → Int64) → Int32 → (Nat → Int64) → Int32 → (Nat → Int64) → Int32 → (Nat → Int64) → Int32 → (Nat → Int64) → Int32 → (Nat → Int64) → Int32 → (Nat → Int64) → Int32 → (Nat → Int64) → Int32 → Int32 → Int32 → Int32 → Int64 → Int64 → Int32 → Option ((Nat → Int64) × Int32 × (Nat → Int64) × Int32 × (Nat → Int64) × Int32 × (Nat → Int64) × Int32 × (Nat → Int64) × Int32 × (Nat → Int64) × Int32 × (Nat → Int64) × Int32 × (Nat → Int64))
  | 0, _, _, _, _, _, _, _, _, _, _, _, _, _, _, _, _, _, _, _, _, _, _, _, _, _, _, _, _, _, _, _ => none
  | k + 1, v42_seated, v42_quota, a43, a44, a46, a47, a48, a49, v51_voters, a52, v53_voters, a54, v55_voters, a56, v57_voters, a58, v59_voters, a60, v61_voters, a62, v63_voters, a64, v65_voters, a66, x2, x3, x4, x5, x6, x8, x10 => if (3 : Int32) < (x10 : Int32) then (some (a48, v53_voters, a54, v55_voters, a56, v57_voters, a58, v59_voters, a60, v61_voters, a62, v63_voters, a64, v65_voters, a66)) else ((fX1_affords a46 a47 0 (x2 ||| (((x10 &&& 1) : Int32) <<< ((x4 : Int32) &&& 31)))).bind fun r4 => (if (r4 : Int32) = (0 : Int32) then ((fX1_pairFrom_p0_L91 Fu k) v42_seated v42_quota a43 a44 a46 a47 a48 a49 v51_voters a52 v53_voters a54 v55_voters a56 v57_voters a58 v59_voters a60 v61_voters a62 v63_voters a64 v65_voters a66 x2 x3 x4 x5 x6 x8 (x10 + 1)) else ((fX1_affords a46 a47 1 (x3 ||| ((((x10 : Int32) >>> ((1 : Int32) &&& 31)) : Int32) <<< ((x4 : Int32) &&& 31)))).bind fun r5 => (if (r5 : Int32) = (0 : Int32) then ((fX1_pairFrom_p0_L91 Fu k) v42_seated v42_quota a43 a44 a46 a47 a48 a49 v51_voters a52 v53_voters a54 v55_voters a56 v57_voters a58 v59_voters a60 v61_voters a62 v63_voters a64 v65_voters a66 x2 x3 x4 x5 x6 x8 (x10 + 1)) else ((fX1_chanceWith a43 a44 x4 x10).bind fun r6 => (if (x5 : Int32) = (0 : Int32) then ((fX8_voteAfter Fu v53_voters a54 v51_voters a52 r6).bind fun r7 => ((fX1_pairFrom_p1 Fu v42_seated v42_quota a43 a44 a46 a47 a48 a49 r7.1 r7.2 v55_voters a56 v57_voters a58 v59_voters a60 v61_voters a62 v63_voters a64 v65_voters a66 (x2 ||| (((x10 &&& 1) : Int32) <<< ((x4 : Int32) &&& 31))) (x3 ||| ((((x10 : Int32) >>> ((1 : Int32) &&& 31)) : Int32) <<< ((x4 : Int32) &&& 31)))).bind fun r8 => ((fX1_pairFrom_p0_L91 Fu k) v42_seated v42_quota a43 a44 a46 a47 r8.1 a49 v51_voters a52 r7.1 r7.2 r8.2.1 r8.2.2.1 r8.2.2.2.1 r8.2.2.2.2.1 r8.2.2.2.2.2.1 r8.2.2.2.2.2.2.1 r8.2.2.2.2.2.2.2.1 r8.2.2.2.2.2.2.2.2.1 r8.2.2.2.2.2.2.2.2.2.1 r8.2.2.2.2.2.2.2.2.2.2.1 r8.2.2.2.2.2.2.2.2.2.2.2.1 r8.2.2.2.2.2.2.2.2.2.2.2.2 x2 x3 x4 x5 x6 x8 (x10 + 1)))) else ((fX1_note a48 (x2 ||| (((x10 &&& 1) : Int32) <<< ((x4 : Int32) &&& 31))) (x3 ||| ((((x10 : Int32) >>> ((1 : Int32) &&& 31)) : Int32) <<< ((x4 : Int32) &&& 31))) (x6 + (x8 * ((r6 : Int32).toInt64)))).bind fun r9 => ((fX1_pairFrom_p0_L91 Fu k) v42_seated v42_quota a43 a44 a46 a47 r9 a49 v51_voters a52 v53_voters a54 v55_voters a56 v57_voters a58 v59_voters a60 v61_voters a62 v63_voters a64 v65_voters a66 x2 x3 x4 x5 x6 x8 (x10 + 1)))))))))
set_option maxHeartbeats 4000000 in
set_option maxRecDepth 100000 in
theorem tX1_pairFrom_p0_L91 {G : GT} {b : Nat} {c0 : Hp} {n : Nat} (hw : e_wf (kW61) n) {v42_beasts : Int32} {v42_seats : Int32} {v42_known : Int32} {v42_surveyed : Int32} {v42_steadyBench : Int32} {v42_steadyWays : Int32} {v42_steadySwing : Int64} {Fu : Nat} : ∀ (k : Nat) {v42_seated : Int32} {v42_quota : Int32} {a43 : Nat → Int32} {a44 : Nat → Int32} {a46 : Nat → Int32} {a47 : Nat → Int32} {a48 : Nat → Int64} {a49 : Nat → Int32} {v51_voters : Int32} {a52 : Nat → Int64} {v53_voters : Int32} {a54 : Nat → Int64} {v55_voters : Int32} {a56 : Nat → Int64} {v57_voters : Int32} {a58 : Nat → Int64} {v59_voters : Int32} {a60 : Nat → Int64} {v61_voters : Int32} {a62 : Nat → Int64} {v63_voters : Int32} {a64 : Nat → Int64} {v65_voters : Int32} {a66 : Nat → Int64} {x2 : Int32} {x3 : Int32} {x4 : Int32} {x5 : Int32} {x6 : Int64} {x8 : Int64} {x10 : Int32} {R : (Nat → Int64) × Int32 × (Nat → Int64) × Int32 × (Nat → Int64) × Int32 × (Nat → Int64) × Int32 × (Nat → Int64) × Int32 × (Nat → Int64) × Int32 × (Nat → Int64) × Int32 × (Nat → Int64)}, fX1_pairFrom_p0_L91 Fu k v42_seated v42_quota a43 a44 a46 a47 a48 a49 v51_voters a52 v53_voters a54 v55_voters a56 v57_voters a58 v59_voters a60 v61_voters a62 v63_voters a64 v65_voters a66 x2 x3 x4 x5 x6 x8 x10 = some R → E G b yX1_pairFrom cX1_pairFrom 14 none (e_rm 9 0 0) e_X0 (e_Z G b (pD none (e_ov (kW61) (wW61 G b v42_beasts v42_seats v42_seated v42_quota v42_known v42_surveyed v42_steadyBench v42_steadyWays v42_steadySwing a43 a44 a46 a47 R.1 a49 v51_voters a52 R.2.1 R.2.2.1 R.2.2.2.1 R.2.2.2.2.1 R.2.2.2.2.2.1 R.2.2.2.2.2.2.1 R.2.2.2.2.2.2.2.1 R.2.2.2.2.2.2.2.2.1 R.2.2.2.2.2.2.2.2.2.1 R.2.2.2.2.2.2.2.2.2.2.1 R.2.2.2.2.2.2.2.2.2.2.2.1 R.2.2.2.2.2.2.2.2.2.2.2.2.1 R.2.2.2.2.2.2.2.2.2.2.2.2.2.1 R.2.2.2.2.2.2.2.2.2.2.2.2.2.2) c0) n) 0 0) 91 [(0, .ref (b + 42)), (1, .int 0), (2, .int x2), (3, .int x3), (4, .int x4), (5, .int x5), (6, .long x6), (8, .long x8), (10, .int x10)] [] (e_ov (kW61) (wW61 G b v42_beasts v42_seats v42_seated v42_quota v42_known v42_surveyed v42_steadyBench v42_steadyWays v42_steadySwing a43 a44 a46 a47 a48 a49 v51_voters a52 v53_voters a54 v55_voters a56 v57_voters a58 v59_voters a60 v61_voters a62 v63_voters a64 v65_voters a66) c0) n 0 0 := by
  intro k
  induction k with
  | zero =>
    intro _ _ _ _ _ _ _ _ _ _ _ _ _ _ _ _ _ _ _ _ _ _ _ _ _ _ _ _ _ _ _ _ hf
    have hf : (none : Option ((Nat → Int64) × Int32 × (Nat → Int64) × Int32 × (Nat → Int64) × Int32 × (Nat → Int64) × Int32 × (Nat → Int64) × Int32 × (Nat → Int64) × Int32 × (Nat → Int64) × Int32 × (Nat → Int64))) = some _ := hf
    cases hf
  | succ k ih =>
    intro v42_seated v42_quota a43 a44 a46 a47 a48 a49 v51_voters a52 v53_voters a54 v55_voters a56 v57_voters a58 v59_voters a60 v61_voters a62 v63_voters a64 v65_voters a66 x2 x3 x4 x5 x6 x8 x10 R hf
    rw [fX1_pairFrom_p0_L91] at hf
    refine E.iload 8 dX1_pairFrom_91 rfl ?_
    refine E.iconst (v := 3) dX1_pairFrom_93 (by decide) ?_
    refine E.icmp_gt dX1_pairFrom_94 (fun h => ?_) (fun h => ?_)
    · have hf := e_ift hf h
      cases hf
      exact E.vret dX1_pairFrom_210 (Nat.le_refl _) (Nat.le_refl _) (pD_rf _ _ _)
    · have hf := e_iff hf h
      refine E.iload_n 2 dX1_pairFrom_97 rfl ?_
      refine E.iload 8 dX1_pairFrom_98 rfl ?_
      refine E.iconst (v := 1) dX1_pairFrom_100 (by decide) ?_
      refine E.iand dX1_pairFrom_101 ?_
      refine E.iload 4 dX1_pairFrom_102 rfl ?_
      refine E.ishl dX1_pairFrom_104 ?_
      refine E.ior dX1_pairFrom_105 ?_
      refine E.istore (lv' := [(11, .int (x2 ||| (((x10 &&& 1) : Int32) <<< ((x4 : Int32) &&& 31)))), (0, .ref (b + 42)), (1, .int 0), (2, .int x2), (3, .int x3), (4, .int x4), (5, .int x5), (6, .long x6), (8, .long x8), (10, .int x10)]) dX1_pairFrom_106 (by decide) rfl ?_
      refine E.iload_n 4 dX1_pairFrom_108 rfl ?_
      refine E.iload 9 dX1_pairFrom_109 rfl ?_
      refine E.iconst (v := 1) dX1_pairFrom_111 (by decide) ?_
      refine E.ishr dX1_pairFrom_112 ?_
      refine E.iload 5 dX1_pairFrom_113 rfl ?_
      refine E.ishl dX1_pairFrom_115 ?_
      refine E.ior dX1_pairFrom_116 ?_
      refine E.istore (lv' := [(12, .int (x3 ||| ((((x10 : Int32) >>> ((1 : Int32) &&& 31)) : Int32) <<< ((x4 : Int32) &&& 31)))), (11, .int (x2 ||| (((x10 &&& 1) : Int32) <<< ((x4 : Int32) &&& 31)))), (0, .ref (b + 42)), (1, .int 0), (2, .int x2), (3, .int x3), (4, .int x4), (5, .int x5), (6, .long x6), (8, .long x8), (10, .int x10)]) dX1_pairFrom_117 (by decide) rfl ?_
      refine E.aload_n 2 dX1_pairFrom_119 rfl ?_
      refine E.iconst (v := 0) dX1_pairFrom_120 (by decide) ?_
      refine E.iload 1 dX1_pairFrom_121 rfl ?_
      obtain ⟨r4, hc4, hf⟩ := e_bind hf
      refine E.callVDs (es' := (wW61 G b v42_beasts v42_seats v42_seated v42_quota v42_known v42_surveyed v42_steadyBench v42_steadyWays v42_steadySwing a43 a44 a46 a47 a48 a49 v51_voters a52 v53_voters a54 v55_voters a56 v57_voters a58 v59_voters a60 v61_voters a62 v63_voters a64 v65_voters a66)) [] [0, 3, 4] 0 42 dX1_pairFrom_123 mlX1_103 hw rfl rfl rfl rfl (mX1_affords (hw.pick2 [0, 3, 4] rfl (by decide)) hc4) rfl rfl rfl rfl ⟨Nat.le_of_ble_eq_true rfl, Nat.le_of_ble_eq_true rfl⟩ rfl rfl (Nat.le_of_ble_eq_true rfl) ⟨Nat.le_refl _, Nat.le_refl _⟩ rfl ?_
      refine E.if_eq dX1_pairFrom_126 (fun h => ?_) (fun h => ?_)
      · have hf := e_ift hf h
        refine E.iinc (q := 10) (v := (x10 + 1)) (lv' := [(10, .int (x10 + 1)), (12, .int (x3 ||| ((((x10 : Int32) >>> ((1 : Int32) &&& 31)) : Int32) <<< ((x4 : Int32) &&& 31)))), (11, .int (x2 ||| (((x10 &&& 1) : Int32) <<< ((x4 : Int32) &&& 31)))), (0, .ref (b + 42)), (1, .int 0), (2, .int x2), (3, .int x3), (4, .int x4), (5, .int x5), (6, .long x6), (8, .long x8)]) dX1_pairFrom_204 rfl rfl (by decide) rfl ?_
        refine E.goto dX1_pairFrom_207 ?_
        refine E.locals [3, 4, 5, 6, 7, 8, 9, 10, 0] rfl ?_
        exact ih hf
      · have hf := e_iff hf h
        refine E.aload_n 2 dX1_pairFrom_129 rfl ?_
        refine E.iconst (v := 1) dX1_pairFrom_130 (by decide) ?_
        refine E.iload 0 dX1_pairFrom_131 rfl ?_
        obtain ⟨r5, hc5, hf⟩ := e_bind hf
        refine E.callVDs (es' := (wW61 G b v42_beasts v42_seats v42_seated v42_quota v42_known v42_surveyed v42_steadyBench v42_steadyWays v42_steadySwing a43 a44 a46 a47 a48 a49 v51_voters a52 v53_voters a54 v55_voters a56 v57_voters a58 v59_voters a60 v61_voters a62 v63_voters a64 v65_voters a66)) [] [0, 3, 4] 0 42 dX1_pairFrom_133 mlX1_103 hw rfl rfl rfl rfl (mX1_affords (hw.pick2 [0, 3, 4] rfl (by decide)) hc5) rfl rfl rfl rfl ⟨Nat.le_of_ble_eq_true rfl, Nat.le_of_ble_eq_true rfl⟩ rfl rfl (Nat.le_of_ble_eq_true rfl) ⟨Nat.le_refl _, Nat.le_refl _⟩ rfl ?_
        refine E.if_eq dX1_pairFrom_136 (fun h => ?_) (fun h => ?_)
        · have hf := e_ift hf h
          refine E.iinc (q := 10) (v := (x10 + 1)) (lv' := [(10, .int (x10 + 1)), (12, .int (x3 ||| ((((x10 : Int32) >>> ((1 : Int32) &&& 31)) : Int32) <<< ((x4 : Int32) &&& 31)))), (11, .int (x2 ||| (((x10 &&& 1) : Int32) <<< ((x4 : Int32) &&& 31)))), (0, .ref (b + 42)), (1, .int 0), (2, .int x2), (3, .int x3), (4, .int x4), (5, .int x5), (6, .long x6), (8, .long x8)]) dX1_pairFrom_204 rfl rfl (by decide) rfl ?_
          refine E.goto dX1_pairFrom_207 ?_
          refine E.locals [3, 4, 5, 6, 7, 8, 9, 10, 0] rfl ?_
          exact ih hf
        · have hf := e_iff hf h
          refine E.aload_n 2 dX1_pairFrom_139 rfl ?_
          refine E.iload 6 dX1_pairFrom_140 rfl ?_
          refine E.iload 10 dX1_pairFrom_142 rfl ?_
          obtain ⟨r6, hc6, hf⟩ := e_bind hf
          refine E.callVDs (es' := (wW61 G b v42_beasts v42_seats v42_seated v42_quota v42_known v42_surveyed v42_steadyBench v42_steadyWays v42_steadySwing a43 a44 a46 a47 a48 a49 v51_voters a52 v53_voters a54 v55_voters a56 v57_voters a58 v59_voters a60 v61_voters a62 v63_voters a64 v65_voters a66)) [] [0, 1, 2] 0 42 dX1_pairFrom_144 mlX1_114 hw rfl rfl rfl rfl (mX1_chanceWith (hw.pick2 [0, 1, 2] rfl (by decide)) hc6) rfl rfl rfl rfl ⟨Nat.le_of_ble_eq_true rfl, Nat.le_of_ble_eq_true rfl⟩ rfl rfl (Nat.le_of_ble_eq_true rfl) ⟨Nat.le_refl _, Nat.le_refl _⟩ rfl ?_
          refine E.istore (lv' := [(13, .int r6), (12, .int (x3 ||| ((((x10 : Int32) >>> ((1 : Int32) &&& 31)) : Int32) <<< ((x4 : Int32) &&& 31)))), (11, .int (x2 ||| (((x10 &&& 1) : Int32) <<< ((x4 : Int32) &&& 31)))), (0, .ref (b + 42)), (1, .int 0), (2, .int x2), (3, .int x3), (4, .int x4), (5, .int x5), (6, .long x6), (8, .long x8), (10, .int x10)]) dX1_pairFrom_147 (by decide) rfl ?_
          refine E.iload 8 dX1_pairFrom_149 rfl ?_
          refine E.if_eq dX1_pairFrom_151 (fun h => ?_) (fun h => ?_)
          · have hf := e_ift hf h
            refine E.aload_n 3 dX1_pairFrom_174 rfl ?_
            refine E.get hw 0 42 dX1_pairFrom_175 flX1_36 rfl rfl rfl rfl ?_
            refine E.iload_n 4 dX1_pairFrom_178 rfl ?_
            refine E.iconst (v := 1) dX1_pairFrom_179 (by decide) ?_
            refine E.iadd dX1_pairFrom_180 ?_
            refine E.fold (v := 1) (by decide) ?_
            refine E.aaldL hw 7 50 1 dX1_pairFrom_181 rfl rfl rfl (by unfold vp_in; decide) (by decide) rfl ?_
            refine E.aload_n 3 dX1_pairFrom_182 rfl ?_
            refine E.get hw 0 42 dX1_pairFrom_183 flX1_36 rfl rfl rfl rfl ?_
            refine E.iload_n 4 dX1_pairFrom_186 rfl ?_
            refine E.aaldL hw 7 50 0 dX1_pairFrom_187 rfl rfl rfl (by unfold vp_in; decide) (by decide) rfl ?_
            refine E.iload 0 dX1_pairFrom_188 rfl ?_
            obtain ⟨r7, hc7, hf⟩ := e_bind hf
            refine E.callVDs (es' := (wW61 G b v42_beasts v42_seats v42_seated v42_quota v42_known v42_surveyed v42_steadyBench v42_steadyWays v42_steadySwing a43 a44 a46 a47 a48 a49 v51_voters a52 r7.1 r7.2 v55_voters a56 v57_voters a58 v59_voters a60 v61_voters a62 v63_voters a64 v65_voters a66)) [] [10, 11, 8, 9] 10 53 dX1_pairFrom_190 mlX1_177 hw rfl rfl rfl rfl (mX8_voteAfter (hw.pick2 [10, 11, 8, 9] rfl (by decide)) hc7) rfl rfl rfl rfl ⟨Nat.le_of_ble_eq_true rfl, Nat.le_of_ble_eq_true rfl⟩ rfl rfl (Nat.le_of_ble_eq_true rfl) ⟨Nat.le_refl _, Nat.le_refl _⟩ rfl ?_
            refine E.aload_n 3 dX1_pairFrom_193 rfl ?_
            refine E.iload_n 4 dX1_pairFrom_194 rfl ?_
            refine E.iconst (v := 1) dX1_pairFrom_195 (by decide) ?_
            refine E.iadd dX1_pairFrom_196 ?_
            refine E.fold (v := 1) (by decide) ?_
            refine E.iload 2 dX1_pairFrom_197 rfl ?_
            refine E.iload 1 dX1_pairFrom_199 rfl ?_
            obtain ⟨r8, hc8, hf⟩ := e_bind hf
            refine E.callVDs (es' := (wW61 G b v42_beasts v42_seats v42_seated v42_quota v42_known v42_surveyed v42_steadyBench v42_steadyWays v42_steadySwing a43 a44 a46 a47 r8.1 a49 v51_voters a52 r7.1 r7.2 r8.2.1 r8.2.2.1 r8.2.2.2.1 r8.2.2.2.2.1 r8.2.2.2.2.2.1 r8.2.2.2.2.2.2.1 r8.2.2.2.2.2.2.2.1 r8.2.2.2.2.2.2.2.2.1 r8.2.2.2.2.2.2.2.2.2.1 r8.2.2.2.2.2.2.2.2.2.2.1 r8.2.2.2.2.2.2.2.2.2.2.2.1 r8.2.2.2.2.2.2.2.2.2.2.2.2)) [] [0, 1, 2, 3, 4, 5, 6, 7, 10, 11, 12, 13, 14, 15, 16, 17, 18, 19, 20, 21, 22, 23] 0 42 dX1_pairFrom_201 mlX1_168 hw rfl rfl rfl rfl (mX1_pairFrom_p1 (hw.pick2 [0, 1, 2, 3, 4, 5, 6, 7, 10, 11, 12, 13, 14, 15, 16, 17, 18, 19, 20, 21, 22, 23] rfl (by decide)) hc8) rfl rfl rfl rfl ⟨Nat.le_of_ble_eq_true rfl, Nat.le_of_ble_eq_true rfl⟩ rfl rfl (Nat.le_of_ble_eq_true rfl) ⟨Nat.le_refl _, Nat.le_refl _⟩ rfl ?_
            refine E.iinc (q := 11) (v := (x10 + 1)) (lv' := [(10, .int (x10 + 1)), (13, .int r6), (12, .int (x3 ||| ((((x10 : Int32) >>> ((1 : Int32) &&& 31)) : Int32) <<< ((x4 : Int32) &&& 31)))), (11, .int (x2 ||| (((x10 &&& 1) : Int32) <<< ((x4 : Int32) &&& 31)))), (0, .ref (b + 42)), (1, .int 0), (2, .int x2), (3, .int x3), (4, .int x4), (5, .int x5), (6, .long x6), (8, .long x8)]) dX1_pairFrom_204 rfl rfl (by decide) rfl ?_
            refine E.goto dX1_pairFrom_207 ?_
            refine E.locals [4, 5, 6, 7, 8, 9, 10, 11, 0] rfl ?_
            exact ih hf
          · have hf := e_iff hf h
            refine E.aload_n 3 dX1_pairFrom_154 rfl ?_
            refine E.iload 2 dX1_pairFrom_155 rfl ?_
            refine E.iload 1 dX1_pairFrom_157 rfl ?_
            refine E.lload 9 dX1_pairFrom_159 rfl ?_
            refine E.lload 10 dX1_pairFrom_161 rfl ?_
            refine E.iload 0 dX1_pairFrom_163 rfl ?_
            refine E.i2l dX1_pairFrom_165 ?_
            refine E.lmul dX1_pairFrom_166 ?_
            refine E.ladd dX1_pairFrom_167 ?_
            obtain ⟨r9, hc9, hf⟩ := e_bind hf
            refine E.callVDs (es' := (wW61 G b v42_beasts v42_seats v42_seated v42_quota v42_known v42_surveyed v42_steadyBench v42_steadyWays v42_steadySwing a43 a44 a46 a47 r9 a49 v51_voters a52 v53_voters a54 v55_voters a56 v57_voters a58 v59_voters a60 v61_voters a62 v63_voters a64 v65_voters a66)) [] [0, 5] 0 42 dX1_pairFrom_168 mlX1_164 hw rfl rfl rfl rfl (mX1_note (hw.pick2 [0, 5] rfl (by decide)) hc9) rfl rfl rfl rfl ⟨Nat.le_of_ble_eq_true rfl, Nat.le_of_ble_eq_true rfl⟩ rfl rfl (Nat.le_of_ble_eq_true rfl) ⟨Nat.le_refl _, Nat.le_refl _⟩ rfl ?_
            refine E.goto dX1_pairFrom_171 ?_
            refine E.iinc (q := 11) (v := (x10 + 1)) (lv' := [(10, .int (x10 + 1)), (13, .int r6), (12, .int (x3 ||| ((((x10 : Int32) >>> ((1 : Int32) &&& 31)) : Int32) <<< ((x4 : Int32) &&& 31)))), (11, .int (x2 ||| (((x10 &&& 1) : Int32) <<< ((x4 : Int32) &&& 31)))), (0, .ref (b + 42)), (1, .int 0), (2, .int x2), (3, .int x3), (4, .int x4), (5, .int x5), (6, .long x6), (8, .long x8)]) dX1_pairFrom_204 rfl rfl (by decide) rfl ?_
            refine E.goto dX1_pairFrom_207 ?_
            refine E.locals [4, 5, 6, 7, 8, 9, 10, 11, 0] rfl ?_
            exact ih hf
def fX1_pairFrom_p0_L86 (Fu : Nat) (v42_seated : Int32) (v42_quota : Int32) (a43 : Nat → Int32) (a44 : Nat → Int32) (a46 : Nat → Int32) (a47 : Nat → Int32) (a48 : Nat → Int64) (a49 : Nat → Int32) (v51_voters : Int32) (a52 : Nat → Int64) (v53_voters : Int32) (a54 : Nat → Int64) (v55_voters : Int32) (a56 : Nat → Int64) (v57_voters : Int32) (a58 : Nat → Int64) (v59_voters : Int32) (a60 : Nat → Int64) (v61_voters : Int32) (a62 : Nat → Int64) (v63_voters : Int32) (a64 : Nat → Int64) (v65_voters : Int32) (a66 : Nat → Int64) (x2 : Int32) (x3 : Int32) (x4 : Int32) (x5 : Int32) (x6 : Int64) (s0 : Int64) : Option ((Nat → Int64) × Int32 × (Nat → Int64) × Int32 × (Nat → Int64) × Int32 × (Nat → Int64) × Int32 × (Nat → Int64) × Int32 × (Nat → Int64) × Int32 × (Nat → Int64) × Int32 × (Nat → Int64)) := fX1_pairFrom_p0_L91 Fu Fu v42_seated v42_quota a43 a44 a46 a47 a48 a49 v51_voters a52 v53_voters a54 v55_voters a56 v57_voters a58 v59_voters a60 v61_voters a62 v63_voters a64 v65_voters a66 x2 x3 x4 x5 x6 s0 0
set_option maxHeartbeats 4000000 in
set_option maxRecDepth 100000 in
theorem tX1_pairFrom_p0_L86 {G : GT} {b : Nat} {c0 : Hp} {n : Nat} (hw : e_wf (kW61) n) {v42_beasts : Int32} {v42_seats : Int32} {v42_known : Int32} {v42_surveyed : Int32} {v42_steadyBench : Int32} {v42_steadyWays : Int32} {v42_steadySwing : Int64} {Fu : Nat} {v42_seated : Int32} {v42_quota : Int32} {a43 : Nat → Int32} {a44 : Nat → Int32} {a46 : Nat → Int32} {a47 : Nat → Int32} {a48 : Nat → Int64} {a49 : Nat → Int32} {v51_voters : Int32} {a52 : Nat → Int64} {v53_voters : Int32} {a54 : Nat → Int64} {v55_voters : Int32} {a56 : Nat → Int64} {v57_voters : Int32} {a58 : Nat → Int64} {v59_voters : Int32} {a60 : Nat → Int64} {v61_voters : Int32} {a62 : Nat → Int64} {v63_voters : Int32} {a64 : Nat → Int64} {v65_voters : Int32} {a66 : Nat → Int64} {x2 : Int32} {x3 : Int32} {x4 : Int32} {x5 : Int32} {x6 : Int64} {s0 : Int64} {R : (Nat → Int64) × Int32 × (Nat → Int64) × Int32 × (Nat → Int64) × Int32 × (Nat → Int64) × Int32 × (Nat → Int64) × Int32 × (Nat → Int64) × Int32 × (Nat → Int64) × Int32 × (Nat → Int64)} (hf : fX1_pairFrom_p0_L86 Fu v42_seated v42_quota a43 a44 a46 a47 a48 a49 v51_voters a52 v53_voters a54 v55_voters a56 v57_voters a58 v59_voters a60 v61_voters a62 v63_voters a64 v65_voters a66 x2 x3 x4 x5 x6 s0 = some R) : E G b yX1_pairFrom cX1_pairFrom 14 none (e_rm 9 0 0) e_X0 (e_Z G b (pD none (e_ov (kW61) (wW61 G b v42_beasts v42_seats v42_seated v42_quota v42_known v42_surveyed v42_steadyBench v42_steadyWays v42_steadySwing a43 a44 a46 a47 R.1 a49 v51_voters a52 R.2.1 R.2.2.1 R.2.2.2.1 R.2.2.2.2.1 R.2.2.2.2.2.1 R.2.2.2.2.2.2.1 R.2.2.2.2.2.2.2.1 R.2.2.2.2.2.2.2.2.1 R.2.2.2.2.2.2.2.2.2.1 R.2.2.2.2.2.2.2.2.2.2.1 R.2.2.2.2.2.2.2.2.2.2.2.1 R.2.2.2.2.2.2.2.2.2.2.2.2.1 R.2.2.2.2.2.2.2.2.2.2.2.2.2.1 R.2.2.2.2.2.2.2.2.2.2.2.2.2.2) c0) n) 0 0) 86 [(0, .ref (b + 42)), (1, .int 0), (2, .int x2), (3, .int x3), (4, .int x4), (5, .int x5), (6, .long x6)] [.long s0] (e_ov (kW61) (wW61 G b v42_beasts v42_seats v42_seated v42_quota v42_known v42_surveyed v42_steadyBench v42_steadyWays v42_steadySwing a43 a44 a46 a47 a48 a49 v51_voters a52 v53_voters a54 v55_voters a56 v57_voters a58 v59_voters a60 v61_voters a62 v63_voters a64 v65_voters a66) c0) n 0 0 := by
  unfold fX1_pairFrom_p0_L86 at hf
  refine E.lstore (lv' := [(8, .long s0), (0, .ref (b + 42)), (1, .int 0), (2, .int x2), (3, .int x3), (4, .int x4), (5, .int x5), (6, .long x6)]) dX1_pairFrom_86 (by decide) rfl ?_
  refine E.iconst (v := 0) dX1_pairFrom_88 (by decide) ?_
  refine E.istore (lv' := [(10, .int 0), (8, .long s0), (0, .ref (b + 42)), (1, .int 0), (2, .int x2), (3, .int x3), (4, .int x4), (5, .int x5), (6, .long x6)]) dX1_pairFrom_89 (by decide) rfl ?_
  refine E.locals [2, 3, 4, 5, 6, 7, 8, 1, 0] rfl ?_
  exact tX1_pairFrom_p0_L91 hw _ hf
def fX1_pairFrom_p0_L60 (Fu : Nat) (v42_seated : Int32) (v42_quota : Int32) (a43 : Nat → Int32) (a44 : Nat → Int32) (a46 : Nat → Int32) (a47 : Nat → Int32) (a48 : Nat → Int64) (a49 : Nat → Int32) (v51_voters : Int32) (a52 : Nat → Int64) (v53_voters : Int32) (a54 : Nat → Int64) (v55_voters : Int32) (a56 : Nat → Int64) (v57_voters : Int32) (a58 : Nat → Int64) (v59_voters : Int32) (a60 : Nat → Int64) (v61_voters : Int32) (a62 : Nat → Int64) (v63_voters : Int32) (a64 : Nat → Int64) (v65_voters : Int32) (a66 : Nat → Int64) (x2 : Int32) (x3 : Int32) (x4 : Int32) (x5 : Int32) (s0 : Int64) : Option ((Nat → Int64) × Int32 × (Nat → Int64) × Int32 × (Nat → Int64) × Int32 × (Nat → Int64) × Int32 × (Nat → Int64) × Int32 × (Nat → Int64) × Int32 × (Nat → Int64) × Int32 × (Nat → Int64)) := if (x5 : Int32) = (0 : Int32) then (fX1_pairFrom_p0_L86 Fu v42_seated v42_quota a43 a44 a46 a47 a48 a49 v51_voters a52 v53_voters a54 v55_voters a56 v57_voters a58 v59_voters a60 v61_voters a62 v63_voters a64 v65_voters a66 x2 x3 x4 x5 s0 0) else ((fX8_just v51_voters a52 (v42_quota - 1)).bind fun r3 => (fX1_pairFrom_p0_L86 Fu v42_seated v42_quota a43 a44 a46 a47 a48 a49 v51_voters a52 v53_voters a54 v55_voters a56 v57_voters a58 v59_voters a60 v61_voters a62 v63_voters a64 v65_voters a66 x2 x3 x4 x5 s0 r3))
set_option maxHeartbeats 4000000 in
set_option maxRecDepth 100000 in
theorem tX1_pairFrom_p0_L60 {G : GT} {b : Nat} {c0 : Hp} {n : Nat} (hw : e_wf (kW61) n) {v42_beasts : Int32} {v42_seats : Int32} {v42_known : Int32} {v42_surveyed : Int32} {v42_steadyBench : Int32} {v42_steadyWays : Int32} {v42_steadySwing : Int64} {Fu : Nat} {v42_seated : Int32} {v42_quota : Int32} {a43 : Nat → Int32} {a44 : Nat → Int32} {a46 : Nat → Int32} {a47 : Nat → Int32} {a48 : Nat → Int64} {a49 : Nat → Int32} {v51_voters : Int32} {a52 : Nat → Int64} {v53_voters : Int32} {a54 : Nat → Int64} {v55_voters : Int32} {a56 : Nat → Int64} {v57_voters : Int32} {a58 : Nat → Int64} {v59_voters : Int32} {a60 : Nat → Int64} {v61_voters : Int32} {a62 : Nat → Int64} {v63_voters : Int32} {a64 : Nat → Int64} {v65_voters : Int32} {a66 : Nat → Int64} {x2 : Int32} {x3 : Int32} {x4 : Int32} {x5 : Int32} {s0 : Int64} {R : (Nat → Int64) × Int32 × (Nat → Int64) × Int32 × (Nat → Int64) × Int32 × (Nat → Int64) × Int32 × (Nat → Int64) × Int32 × (Nat → Int64) × Int32 × (Nat → Int64) × Int32 × (Nat → Int64)} (hf : fX1_pairFrom_p0_L60 Fu v42_seated v42_quota a43 a44 a46 a47 a48 a49 v51_voters a52 v53_voters a54 v55_voters a56 v57_voters a58 v59_voters a60 v61_voters a62 v63_voters a64 v65_voters a66 x2 x3 x4 x5 s0 = some R) : E G b yX1_pairFrom cX1_pairFrom 14 none (e_rm 9 0 0) e_X0 (e_Z G b (pD none (e_ov (kW61) (wW61 G b v42_beasts v42_seats v42_seated v42_quota v42_known v42_surveyed v42_steadyBench v42_steadyWays v42_steadySwing a43 a44 a46 a47 R.1 a49 v51_voters a52 R.2.1 R.2.2.1 R.2.2.2.1 R.2.2.2.2.1 R.2.2.2.2.2.1 R.2.2.2.2.2.2.1 R.2.2.2.2.2.2.2.1 R.2.2.2.2.2.2.2.2.1 R.2.2.2.2.2.2.2.2.2.1 R.2.2.2.2.2.2.2.2.2.2.1 R.2.2.2.2.2.2.2.2.2.2.2.1 R.2.2.2.2.2.2.2.2.2.2.2.2.1 R.2.2.2.2.2.2.2.2.2.2.2.2.2.1 R.2.2.2.2.2.2.2.2.2.2.2.2.2.2) c0) n) 0 0) 60 [(0, .ref (b + 42)), (1, .int 0), (2, .int x2), (3, .int x3), (4, .int x4), (5, .int x5)] [.long s0] (e_ov (kW61) (wW61 G b v42_beasts v42_seats v42_seated v42_quota v42_known v42_surveyed v42_steadyBench v42_steadyWays v42_steadySwing a43 a44 a46 a47 a48 a49 v51_voters a52 v53_voters a54 v55_voters a56 v57_voters a58 v59_voters a60 v61_voters a62 v63_voters a64 v65_voters a66) c0) n 0 0 := by
  unfold fX1_pairFrom_p0_L60 at hf
  refine E.lstore (lv' := [(6, .long s0), (0, .ref (b + 42)), (1, .int 0), (2, .int x2), (3, .int x3), (4, .int x4), (5, .int x5)]) dX1_pairFrom_60 (by decide) rfl ?_
  refine E.iload 6 dX1_pairFrom_62 rfl ?_
  refine E.if_eq dX1_pairFrom_64 (fun h => ?_) (fun h => ?_)
  · have hf := e_ift hf h
    refine E.lconst (v := 0) dX1_pairFrom_85 (by decide) ?_
    refine E.locals [1, 2, 3, 4, 5, 6, 0] rfl ?_
    exact tX1_pairFrom_p0_L86 hw hf
  · have hf := e_iff hf h
    refine E.aload_n 1 dX1_pairFrom_67 rfl ?_
    refine E.get hw 0 42 dX1_pairFrom_68 flX1_36 rfl rfl rfl rfl ?_
    refine E.iload_n 2 dX1_pairFrom_71 rfl ?_
    refine E.aaldL hw 7 50 0 dX1_pairFrom_72 rfl rfl rfl (by unfold vp_in; decide) (by decide) rfl ?_
    refine E.aload_n 1 dX1_pairFrom_73 rfl ?_
    refine E.get hw 0 42 dX1_pairFrom_74 flX1_66 rfl rfl rfl rfl ?_
    refine E.iconst (v := 1) dX1_pairFrom_77 (by decide) ?_
    refine E.isub dX1_pairFrom_78 ?_
    obtain ⟨r3, hc3, hf⟩ := e_bind hf
    refine E.callVDs (es' := (wW61 G b v42_beasts v42_seats v42_seated v42_quota v42_known v42_surveyed v42_steadyBench v42_steadyWays v42_steadySwing a43 a44 a46 a47 a48 a49 v51_voters a52 v53_voters a54 v55_voters a56 v57_voters a58 v59_voters a60 v61_voters a62 v63_voters a64 v65_voters a66)) [] [8, 9] 8 51 dX1_pairFrom_79 mlX1_174 hw rfl rfl rfl rfl (mX8_just (hw.pick2 [8, 9] rfl (by decide)) hc3) rfl rfl rfl rfl ⟨Nat.le_of_ble_eq_true rfl, Nat.le_of_ble_eq_true rfl⟩ rfl rfl (Nat.le_of_ble_eq_true rfl) ⟨Nat.le_refl _, Nat.le_refl _⟩ rfl ?_
    refine E.goto dX1_pairFrom_82 ?_
    refine E.locals [1, 2, 3, 4, 5, 6, 0] rfl ?_
    exact tX1_pairFrom_p0_L86 hw hf
def fX1_pairFrom_p0_L32 (Fu : Nat) (v42_seated : Int32) (v42_quota : Int32) (a43 : Nat → Int32) (a44 : Nat → Int32) (a46 : Nat → Int32) (a47 : Nat → Int32) (a48 : Nat → Int64) (a49 : Nat → Int32) (v51_voters : Int32) (a52 : Nat → Int64) (v53_voters : Int32) (a54 : Nat → Int64) (v55_voters : Int32) (a56 : Nat → Int64) (v57_voters : Int32) (a58 : Nat → Int64) (v59_voters : Int32) (a60 : Nat → Int64) (v61_voters : Int32) (a62 : Nat → Int64) (v63_voters : Int32) (a64 : Nat → Int64) (v65_voters : Int32) (a66 : Nat → Int64) (x2 : Int32) (x3 : Int32) (x4 : Int32) (s0 : Int32) : Option ((Nat → Int64) × Int32 × (Nat → Int64) × Int32 × (Nat → Int64) × Int32 × (Nat → Int64) × Int32 × (Nat → Int64) × Int32 × (Nat → Int64) × Int32 × (Nat → Int64) × Int32 × (Nat → Int64)) := if (s0 : Int32) = (0 : Int32) then (fX1_pairFrom_p0_L60 Fu v42_seated v42_quota a43 a44 a46 a47 a48 a49 v51_voters a52 v53_voters a54 v55_voters a56 v57_voters a58 v59_voters a60 v61_voters a62 v63_voters a64 v65_voters a66 x2 x3 x4 s0 0) else ((fX8_atLeast Fu v51_voters a52 v42_quota).bind fun r2 => (fX1_pairFrom_p0_L60 Fu v42_seated v42_quota a43 a44 a46 a47 a48 a49 v51_voters a52 v53_voters a54 v55_voters a56 v57_voters a58 v59_voters a60 v61_voters a62 v63_voters a64 v65_voters a66 x2 x3 x4 s0 (r2 * 100)))
set_option maxHeartbeats 4000000 in
set_option maxRecDepth 100000 in
theorem tX1_pairFrom_p0_L32 {G : GT} {b : Nat} {c0 : Hp} {n : Nat} (hw : e_wf (kW61) n) {v42_beasts : Int32} {v42_seats : Int32} {v42_known : Int32} {v42_surveyed : Int32} {v42_steadyBench : Int32} {v42_steadyWays : Int32} {v42_steadySwing : Int64} {Fu : Nat} {v42_seated : Int32} {v42_quota : Int32} {a43 : Nat → Int32} {a44 : Nat → Int32} {a46 : Nat → Int32} {a47 : Nat → Int32} {a48 : Nat → Int64} {a49 : Nat → Int32} {v51_voters : Int32} {a52 : Nat → Int64} {v53_voters : Int32} {a54 : Nat → Int64} {v55_voters : Int32} {a56 : Nat → Int64} {v57_voters : Int32} {a58 : Nat → Int64} {v59_voters : Int32} {a60 : Nat → Int64} {v61_voters : Int32} {a62 : Nat → Int64} {v63_voters : Int32} {a64 : Nat → Int64} {v65_voters : Int32} {a66 : Nat → Int64} {x2 : Int32} {x3 : Int32} {x4 : Int32} {s0 : Int32} {R : (Nat → Int64) × Int32 × (Nat → Int64) × Int32 × (Nat → Int64) × Int32 × (Nat → Int64) × Int32 × (Nat → Int64) × Int32 × (Nat → Int64) × Int32 × (Nat → Int64) × Int32 × (Nat → Int64)} (hf : fX1_pairFrom_p0_L32 Fu v42_seated v42_quota a43 a44 a46 a47 a48 a49 v51_voters a52 v53_voters a54 v55_voters a56 v57_voters a58 v59_voters a60 v61_voters a62 v63_voters a64 v65_voters a66 x2 x3 x4 s0 = some R) : E G b yX1_pairFrom cX1_pairFrom 14 none (e_rm 9 0 0) e_X0 (e_Z G b (pD none (e_ov (kW61) (wW61 G b v42_beasts v42_seats v42_seated v42_quota v42_known v42_surveyed v42_steadyBench v42_steadyWays v42_steadySwing a43 a44 a46 a47 R.1 a49 v51_voters a52 R.2.1 R.2.2.1 R.2.2.2.1 R.2.2.2.2.1 R.2.2.2.2.2.1 R.2.2.2.2.2.2.1 R.2.2.2.2.2.2.2.1 R.2.2.2.2.2.2.2.2.1 R.2.2.2.2.2.2.2.2.2.1 R.2.2.2.2.2.2.2.2.2.2.1 R.2.2.2.2.2.2.2.2.2.2.2.1 R.2.2.2.2.2.2.2.2.2.2.2.2.1 R.2.2.2.2.2.2.2.2.2.2.2.2.2.1 R.2.2.2.2.2.2.2.2.2.2.2.2.2.2) c0) n) 0 0) 32 [(0, .ref (b + 42)), (1, .int 0), (2, .int x2), (3, .int x3), (4, .int x4)] [.int s0] (e_ov (kW61) (wW61 G b v42_beasts v42_seats v42_seated v42_quota v42_known v42_surveyed v42_steadyBench v42_steadyWays v42_steadySwing a43 a44 a46 a47 a48 a49 v51_voters a52 v53_voters a54 v55_voters a56 v57_voters a58 v59_voters a60 v61_voters a62 v63_voters a64 v65_voters a66) c0) n 0 0 := by
  unfold fX1_pairFrom_p0_L32 at hf
  refine E.istore (lv' := [(5, .int s0), (0, .ref (b + 42)), (1, .int 0), (2, .int x2), (3, .int x3), (4, .int x4)]) dX1_pairFrom_32 (by decide) rfl ?_
  refine E.iload 0 dX1_pairFrom_34 rfl ?_
  refine E.if_eq dX1_pairFrom_36 (fun h => ?_) (fun h => ?_)
  · have hf := e_ift hf h
    refine E.lconst (v := 0) dX1_pairFrom_59 (by decide) ?_
    refine E.locals [1, 2, 3, 4, 5, 0] rfl ?_
    exact tX1_pairFrom_p0_L60 hw hf
  · have hf := e_iff hf h
    refine E.aload_n 1 dX1_pairFrom_39 rfl ?_
    refine E.get hw 0 42 dX1_pairFrom_40 flX1_36 rfl rfl rfl rfl ?_
    refine E.iload_n 2 dX1_pairFrom_43 rfl ?_
    refine E.aaldL hw 7 50 0 dX1_pairFrom_44 rfl rfl rfl (by unfold vp_in; decide) (by decide) rfl ?_
    refine E.aload_n 1 dX1_pairFrom_45 rfl ?_
    refine E.get hw 0 42 dX1_pairFrom_46 flX1_66 rfl rfl rfl rfl ?_
    obtain ⟨r2, hc2, hf⟩ := e_bind hf
    refine E.callVDs (es' := (wW61 G b v42_beasts v42_seats v42_seated v42_quota v42_known v42_surveyed v42_steadyBench v42_steadyWays v42_steadySwing a43 a44 a46 a47 a48 a49 v51_voters a52 v53_voters a54 v55_voters a56 v57_voters a58 v59_voters a60 v61_voters a62 v63_voters a64 v65_voters a66)) [] [8, 9] 8 51 dX1_pairFrom_49 mlX1_120 hw rfl rfl rfl rfl (mX8_atLeast (hw.pick2 [8, 9] rfl (by decide)) hc2) rfl rfl rfl rfl ⟨Nat.le_of_ble_eq_true rfl, Nat.le_of_ble_eq_true rfl⟩ rfl rfl (Nat.le_of_ble_eq_true rfl) ⟨Nat.le_refl _, Nat.le_refl _⟩ rfl ?_
    refine E.ldc2 dX1_pairFrom_52 kX1_172 ?_
    refine E.lmul dX1_pairFrom_55 ?_
    refine E.goto dX1_pairFrom_56 ?_
    refine E.locals [1, 2, 3, 4, 5, 0] rfl ?_
    exact tX1_pairFrom_p0_L60 hw hf
def fX1_pairFrom_p0 (Fu : Nat) (v42_seated : Int32) (v42_quota : Int32) (a43 : Nat → Int32) (a44 : Nat → Int32) (a46 : Nat → Int32) (a47 : Nat → Int32) (a48 : Nat → Int64) (a49 : Nat → Int32) (v51_voters : Int32) (a52 : Nat → Int64) (v53_voters : Int32) (a54 : Nat → Int64) (v55_voters : Int32) (a56 : Nat → Int64) (v57_voters : Int32) (a58 : Nat → Int64) (v59_voters : Int32) (a60 : Nat → Int64) (v61_voters : Int32) (a62 : Nat → Int64) (v63_voters : Int32) (a64 : Nat → Int64) (v65_voters : Int32) (a66 : Nat → Int64) (x2 : Int32) (x3 : Int32) : Option ((Nat → Int64) × Int32 × (Nat → Int64) × Int32 × (Nat → Int64) × Int32 × (Nat → Int64) × Int32 × (Nat → Int64) × Int32 × (Nat → Int64) × Int32 × (Nat → Int64) × Int32 × (Nat → Int64)) := if (0 : Int32) < (v42_seated : Int32) then (gd 0 8 (if (1 : Int32) < (v42_seated : Int32) then (fX1_pairFrom_p0_L32 Fu v42_seated v42_quota a43 a44 a46 a47 a48 a49 v51_voters a52 v53_voters a54 v55_voters a56 v57_voters a58 v59_voters a60 v61_voters a62 v63_voters a64 v65_voters a66 x2 x3 (a49 (0 : Int32).toNatClampNeg) 0) else (fX1_pairFrom_p0_L32 Fu v42_seated v42_quota a43 a44 a46 a47 a48 a49 v51_voters a52 v53_voters a54 v55_voters a56 v57_voters a58 v59_voters a60 v61_voters a62 v63_voters a64 v65_voters a66 x2 x3 (a49 (0 : Int32).toNatClampNeg) 1))) else (some (a48, v53_voters, a54, v55_voters, a56, v57_voters, a58, v59_voters, a60, v61_voters, a62, v63_voters, a64, v65_voters, a66))
set_option maxHeartbeats 4000000 in
set_option maxRecDepth 100000 in
theorem tX1_pairFrom_p0 {G : GT} {b : Nat} {c0 : Hp} {n : Nat} (hw : e_wf (kW61) n) {v42_beasts : Int32} {v42_seats : Int32} {v42_known : Int32} {v42_surveyed : Int32} {v42_steadyBench : Int32} {v42_steadyWays : Int32} {v42_steadySwing : Int64} {Fu : Nat} {v42_seated : Int32} {v42_quota : Int32} {a43 : Nat → Int32} {a44 : Nat → Int32} {a46 : Nat → Int32} {a47 : Nat → Int32} {a48 : Nat → Int64} {a49 : Nat → Int32} {v51_voters : Int32} {a52 : Nat → Int64} {v53_voters : Int32} {a54 : Nat → Int64} {v55_voters : Int32} {a56 : Nat → Int64} {v57_voters : Int32} {a58 : Nat → Int64} {v59_voters : Int32} {a60 : Nat → Int64} {v61_voters : Int32} {a62 : Nat → Int64} {v63_voters : Int32} {a64 : Nat → Int64} {v65_voters : Int32} {a66 : Nat → Int64} {x2 : Int32} {x3 : Int32} {R : (Nat → Int64) × Int32 × (Nat → Int64) × Int32 × (Nat → Int64) × Int32 × (Nat → Int64) × Int32 × (Nat → Int64) × Int32 × (Nat → Int64) × Int32 × (Nat → Int64) × Int32 × (Nat → Int64)} (hf : fX1_pairFrom_p0 Fu v42_seated v42_quota a43 a44 a46 a47 a48 a49 v51_voters a52 v53_voters a54 v55_voters a56 v57_voters a58 v59_voters a60 v61_voters a62 v63_voters a64 v65_voters a66 x2 x3 = some R) : E G b yX1_pairFrom cX1_pairFrom 14 none (e_rm 9 0 0) e_X0 (e_Z G b (pD none (e_ov (kW61) (wW61 G b v42_beasts v42_seats v42_seated v42_quota v42_known v42_surveyed v42_steadyBench v42_steadyWays v42_steadySwing a43 a44 a46 a47 R.1 a49 v51_voters a52 R.2.1 R.2.2.1 R.2.2.2.1 R.2.2.2.2.1 R.2.2.2.2.2.1 R.2.2.2.2.2.2.1 R.2.2.2.2.2.2.2.1 R.2.2.2.2.2.2.2.2.1 R.2.2.2.2.2.2.2.2.2.1 R.2.2.2.2.2.2.2.2.2.2.1 R.2.2.2.2.2.2.2.2.2.2.2.1 R.2.2.2.2.2.2.2.2.2.2.2.2.1 R.2.2.2.2.2.2.2.2.2.2.2.2.2.1 R.2.2.2.2.2.2.2.2.2.2.2.2.2.2) c0) n) 0 0) 0 [(0, .ref (b + 42)), (1, .int 0), (2, .int x2), (3, .int x3)] [] (e_ov (kW61) (wW61 G b v42_beasts v42_seats v42_seated v42_quota v42_known v42_surveyed v42_steadyBench v42_steadyWays v42_steadySwing a43 a44 a46 a47 a48 a49 v51_voters a52 v53_voters a54 v55_voters a56 v57_voters a58 v59_voters a60 v61_voters a62 v63_voters a64 v65_voters a66) c0) n 0 0 := by
  unfold fX1_pairFrom_p0 at hf
  refine E.iload_n 1 dX1_pairFrom_0 rfl ?_
  refine E.aload_n 0 dX1_pairFrom_1 rfl ?_
  refine E.get hw 0 42 dX1_pairFrom_2 flX1_69 rfl rfl rfl rfl ?_
  refine E.icmp_lt dX1_pairFrom_5 (fun h => ?_) (fun h => ?_)
  · have hf := e_ift hf h
    refine E.aload_n 0 dX1_pairFrom_9 rfl ?_
    refine E.get hw 0 42 dX1_pairFrom_10 flX1_31 rfl rfl rfl rfl ?_
    refine E.iload_n 1 dX1_pairFrom_13 rfl ?_
    obtain ⟨g1, hf⟩ := gd_some hf
    refine E.iald hw 6 49 dX1_pairFrom_14 rfl rfl g1 ?_
    refine E.istore (lv' := [(4, .int (a49 (0 : Int32).toNatClampNeg)), (0, .ref (b + 42)), (1, .int 0), (2, .int x2), (3, .int x3)]) dX1_pairFrom_15 (by decide) rfl ?_
    refine E.iload_n 2 dX1_pairFrom_17 rfl ?_
    refine E.iconst (v := 1) dX1_pairFrom_18 (by decide) ?_
    refine E.iadd dX1_pairFrom_19 ?_
    refine E.fold (v := 1) (by decide) ?_
    refine E.aload_n 1 dX1_pairFrom_20 rfl ?_
    refine E.get hw 0 42 dX1_pairFrom_21 flX1_69 rfl rfl rfl rfl ?_
    refine E.icmp_lt dX1_pairFrom_24 (fun h => ?_) (fun h => ?_)
    · have hf := e_ift hf h
      refine E.iconst (v := 0) dX1_pairFrom_31 (by decide) ?_
      refine E.locals [1, 2, 3, 4, 0] rfl ?_
      exact tX1_pairFrom_p0_L32 hw hf
    · have hf := e_iff hf h
      refine E.iconst (v := 1) dX1_pairFrom_27 (by decide) ?_
      refine E.goto dX1_pairFrom_28 ?_
      refine E.locals [1, 2, 3, 4, 0] rfl ?_
      exact tX1_pairFrom_p0_L32 hw hf
  · have hf := e_iff hf h
    cases hf
    exact E.vret dX1_pairFrom_8 (Nat.le_refl _) (Nat.le_refl _) (pD_rf _ _ _)
set_option maxRecDepth 100000 in
theorem mX1_pairFrom_p0 {G : GT} {b : Nat} {c0 : Hp} {n : Nat} (hw : e_wf (kW61) n) {v42_beasts : Int32} {v42_seats : Int32} {v42_known : Int32} {v42_surveyed : Int32} {v42_steadyBench : Int32} {v42_steadyWays : Int32} {v42_steadySwing : Int64} {Fu : Nat} {v42_seated : Int32} {v42_quota : Int32} {a43 : Nat → Int32} {a44 : Nat → Int32} {a46 : Nat → Int32} {a47 : Nat → Int32} {a48 : Nat → Int64} {a49 : Nat → Int32} {v51_voters : Int32} {a52 : Nat → Int64} {v53_voters : Int32} {a54 : Nat → Int64} {v55_voters : Int32} {a56 : Nat → Int64} {v57_voters : Int32} {a58 : Nat → Int64} {v59_voters : Int32} {a60 : Nat → Int64} {v61_voters : Int32} {a62 : Nat → Int64} {v63_voters : Int32} {a64 : Nat → Int64} {v65_voters : Int32} {a66 : Nat → Int64} {x2 : Int32} {x3 : Int32} {R : (Nat → Int64) × Int32 × (Nat → Int64) × Int32 × (Nat → Int64) × Int32 × (Nat → Int64) × Int32 × (Nat → Int64) × Int32 × (Nat → Int64) × Int32 × (Nat → Int64) × Int32 × (Nat → Int64)} (hf : fX1_pairFrom_p0 Fu v42_seated v42_quota a43 a44 a46 a47 a48 a49 v51_voters a52 v53_voters a54 v55_voters a56 v57_voters a58 v59_voters a60 v61_voters a62 v63_voters a64 v65_voters a66 x2 x3 = some R) : e_C G b yX1_pairFrom cX1_pairFrom 14 none 9 0 0 [.ref (b + 42), .int 0, .int x2, .int x3] (e_ov (kW61) (wW61 G b v42_beasts v42_seats v42_seated v42_quota v42_known v42_surveyed v42_steadyBench v42_steadyWays v42_steadySwing a43 a44 a46 a47 a48 a49 v51_voters a52 v53_voters a54 v55_voters a56 v57_voters a58 v59_voters a60 v61_voters a62 v63_voters a64 v65_voters a66) c0) n (pD none (e_ov (kW61) (wW61 G b v42_beasts v42_seats v42_seated v42_quota v42_known v42_surveyed v42_steadyBench v42_steadyWays v42_steadySwing a43 a44 a46 a47 R.1 a49 v51_voters a52 R.2.1 R.2.2.1 R.2.2.2.1 R.2.2.2.2.1 R.2.2.2.2.2.1 R.2.2.2.2.2.2.1 R.2.2.2.2.2.2.2.1 R.2.2.2.2.2.2.2.2.1 R.2.2.2.2.2.2.2.2.2.1 R.2.2.2.2.2.2.2.2.2.2.1 R.2.2.2.2.2.2.2.2.2.2.2.1 R.2.2.2.2.2.2.2.2.2.2.2.2.1 R.2.2.2.2.2.2.2.2.2.2.2.2.2.1 R.2.2.2.2.2.2.2.2.2.2.2.2.2.2) c0) n) := e_C.of (by decide) (Nat.le_of_ble_eq_true rfl) (tX1_pairFrom_p0 hw hf)
