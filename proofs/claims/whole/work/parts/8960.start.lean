/-! ===== what is known at the start ===== -/
theorem len_small {args : Array Value} {s : State} {tm : Term} {n : Int32} {a : Nat} {cell : Cell} (h : (Term.length tm).eval args s none [] s = some (.int n)) (h1 : tm.eval args s none [] s = some (.ref a)) (h2 : s.heap[a]? = some cell) : cell.slots.size < 2147483648 := by
  obtain ⟨t, c2, ht, hat, hv⟩ := Term.length_spec h
  obtain ⟨hcell, -, -, -⟩ := State.arrayAt?_spec hat
  have e : t = a := Value.ref.inj (Option.some.inj (ht.symm.trans h1))
  subst e
  have e2 : c2 = cell := Option.some.inj (hcell.symm.trans h2)
  subst e2
  refine Classical.byContradiction fun hs => ?_
  simp [Term.eval, ht, hat, hs] at h
theorem st_arr {args : Array Value} {s : State} {ty : FieldType} (h : (Cond.arrayClass ty).before args s = true) : ∃ cA : ClassId, ArrOfT s cA ty ∧ s.vm.findClass ("[" ++ ty.toString) = some cA := by
  obtain ⟨cA, kA, comp, h1, h2, h3⟩ := Cond.arrayClass_spec h
  exact ⟨cA, fun n z => ⟨fun k h => (by cases h), kA, h2, comp, h3⟩, h1⟩
theorem st_arrQ {args : Array Value} {s : State} {C : String} (h : (Cond.arrayOver (.object C)).before args s = true) : ∃ cA : ClassId, ArrOfT s cA (.object C) ∧ va_RA s cA (.object C) := by
  obtain ⟨comp, c, k, h1, h2, h3, h4, h5⟩ := Cond.arrayOver_spec h
  exact ⟨c, fun n z => ⟨fun k h => (by cases h), k, h3, comp, h4⟩, k, comp, h3, h4, h1, h5⟩
theorem st_A {s : State} : ∀ a : Nat, a < s.heap.size → ¬ e_A s.heap.size a := fun a h1 h2 => absurd h2 (Nat.not_le.mpr h1)
theorem sX_small : ∀ i, i < 5 → (e_sX i).length < 2 ^ 31 := by decide +kernel
abbrev sTm (i : Nat) : Term := .static RX11 (e_sN i) "[I"
abbrev kTm (i : Nat) : Term := .string RX6 (e_kI.getD i 0)
theorem st_static {F TT : List Cond} {args : Array Value} {s : State} (hs : ∀ w ∈ F, w.before args s = true) (ht : ∀ w ∈ TT, w.before args s = true)
    (h1 : ∀ i, i < 5 → F[[5, 32, 14, 23, 46].getD i 0]? = some (.arrayOf (sTm i) .int)) (h2 : ∀ i, i < 5 → F[[6, 33, 15, 24, 47].getD i 0]? = some (.eq (.length (sTm i)) (.int (Int32.ofNat (e_sX i).length)))) (h3 : ∀ i, i < 5 → ∀ j, j < (e_sX i).length → F[[7, 34, 16, 25, 48].getD i 0 + j]? = some (.eq (.elem (sTm i) (.int (Int32.ofNat j))) (.int ((e_sX i).getD j 0)))) (h4 : ∀ i, i < 5 → F[[372, 375, 373, 374, 376].getD i 0]? = some (.exactly (sTm i) "[I"))
    (h5 : ∀ i, i < 5 → TT[[136, 567, 493, 565, 1215].getD i 0]? = some (.laysStatic RX11 (e_sN i) "[I")) (h6 : TT[100]? = some (.initialized RX11)) {cI : ClassId} (hcI : s.vm.findClass "[I" = some cI) :
    ∃ ad : Nat → Nat, ∀ i, i < 5 → va_Z RX11 (e_sN i) "[I" (.ref (ad i)) (e_A s.heap.size) s s.heap ∧ va_T .int (ad i) (e_sX i).length (fun j => .int ((e_sX i).getD j 0)) (e_A s.heap.size) s s.heap ∧ ∃ cell : Cell, s.heap[ad i]? = some cell ∧ cell.cls = cI ∧ cell.slots.size = (e_sX i).length ∧ ¬ e_A s.heap.size (ad i) := by
  have h0 : ∀ i : Nat, ∃ t : Nat, i < 5 → va_Z RX11 (e_sN i) "[I" (.ref t) (e_A s.heap.size) s s.heap ∧ va_T .int t (e_sX i).length (fun j => .int ((e_sX i).getD j 0)) (e_A s.heap.size) s s.heap ∧ ∃ cell : Cell, s.heap[t]? = some cell ∧ cell.cls = cI ∧ cell.slots.size = (e_sX i).length ∧ ¬ e_A s.heap.size t := by
    intro i
    by_cases hi : i < 5
    · have hle := va_eqt (hs _ (List.mem_of_getElem? (h2 i hi)))
      obtain ⟨t, ht1, hT⟩ := va_Tof (f := fun j => .int ((e_sX i).getD j 0)) (A := e_A s.heap.size) (sX_small i hi) (hs _ (List.mem_of_getElem? (h1 i hi))) hle (fun j hj => va_eqt (hs _ (List.mem_of_getElem? (h3 i hi j hj)))) st_A
      obtain ⟨a, c, cell, k, q1, q2, q3, q4, q5, q6, -⟩ := Cond.exactly_spec (args := args) (first := s) (o := none) (s := s) (idx := []) (t := sTm i) (cls := "[I") (hs _ (List.mem_of_getElem? (h4 i hi)))
      refine ⟨t, fun _ => ⟨va_Zof (ht _ (List.mem_of_getElem? (h5 i hi))) (ht _ (List.mem_of_getElem? h6)) ht1 st_A, hT, ?_⟩⟩
      have e : a = t := Value.ref.inj (Option.some.inj (q1.symm.trans ht1))
      rw [e] at q3
      obtain ⟨cell2, g1, g2, g3, g4, g5, g6, g7⟩ := hT
      have e2 : cell = cell2 := Option.some.inj (q3.symm.trans g1)
      rw [e2] at q6
      have hz := len_small hle ht1 g1
      refine ⟨cell2, g1, q6.trans (Option.some.inj (q2.symm.trans hcI)), ?_, g7⟩
      have g := congrArg Int32.toNatClampNeg g5
      rw [show cell2.slots.size.toInt32 = Int32.ofNat cell2.slots.size from rfl, Int32.toNatClampNeg_ofNat_of_lt hz, Int32.toNatClampNeg_ofNat_of_lt (sX_small i hi)] at g
      exact g
    · exact ⟨0, fun h => absurd h hi⟩
  obtain ⟨ad, had⟩ := Classical.axiomOfChoice h0
  exact ⟨ad, had⟩
theorem st_str {F TT : List Cond} {args : Array Value} {s : State} (hs : ∀ w ∈ F, w.before args s = true) (ht : ∀ w ∈ TT, w.before args s = true)
    (h1 : ∀ i, i < 17 → F[[92, 101, 110, 121, 133, 145, 160, 174, 189, 207, 224, 242, 261, 283, 302, 323, 345].getD i 0]? = some (.exactly (kTm i) "java/lang/String")) (h2 : ∀ i, i < 17 → F[[93, 102, 111, 122, 134, 146, 161, 175, 190, 208, 225, 243, 262, 284, 303, 324, 346].getD i 0]? = some (.eq (.field (kTm i) "java/lang/String" "coder" "B") (.int 0))) (h3 : ∀ i, i < 17 → F[[94, 103, 112, 123, 135, 147, 162, 176, 191, 209, 226, 244, 263, 285, 304, 325, 347].getD i 0]? = some (.arrayOf (.field (kTm i) "java/lang/String" "value" "[B") .byte))
    (h4 : ∀ i, i < 17 → F[[95, 104, 113, 124, 136, 148, 163, 177, 192, 210, 227, 245, 264, 286, 305, 326, 348].getD i 0]? = some (.eq (.length (.field (kTm i) "java/lang/String" "value" "[B")) (.int (Int32.ofNat (e_kL.getD i 0))))) (h5 : ∀ i, i < 17 → ∀ j, j < e_kL.getD i 0 → F[[96, 105, 114, 125, 137, 149, 164, 178, 193, 211, 228, 246, 265, 287, 306, 327, 349].getD i 0 + j]? = some (.eq (.elem (.field (kTm i) "java/lang/String" "value" "[B") (.int (Int32.ofNat j))) (.int ((e_kB.getD i []).getD j 0))))
    (h6 : ∀ i, i < 17 → ∀ j, j < 17 → i ≠ j → F[[0, 109, 119, 130, 141, 155, 168, 182, 199, 215, 232, 250, 271, 289, 309, 330, 351, 109, 0, 120, 131, 142, 156, 169, 183, 200, 216, 233, 251, 272, 290, 310, 331, 352, 119, 120, 0, 132, 143, 157, 170, 184, 201, 217, 234, 252, 273, 291, 311, 332, 353, 130, 131, 132, 0, 144, 158, 171, 185, 202, 218, 235, 253, 274, 292, 312, 333, 354, 141, 142, 143, 144, 0, 159, 172, 186, 203, 219, 236, 254, 275, 293, 313, 334, 355, 155, 156, 157, 158, 159, 0, 173, 187, 204, 220, 237, 255, 276, 294, 314, 335, 356, 168, 169, 170, 171, 172, 173, 0, 188, 205, 221, 238, 256, 277, 295, 315, 336, 357, 182, 183, 184, 185, 186, 187, 188, 0, 206, 222, 239, 257, 278, 296, 316, 337, 358, 199, 200, 201, 202, 203, 204, 205, 206, 0, 223, 240, 258, 279, 297, 317, 338, 359, 215, 216, 217, 218, 219, 220, 221, 222, 223, 0, 241, 259, 280, 298, 318, 339, 360, 232, 233, 234, 235, 236, 237, 238, 239, 240, 241, 0, 260, 281, 299, 319, 340, 361, 250, 251, 252, 253, 254, 255, 256, 257, 258, 259, 260, 0, 282, 300, 320, 341, 362, 271, 272, 273, 274, 275, 276, 277, 278, 279, 280, 281, 282, 0, 301, 321, 342, 363, 289, 290, 291, 292, 293, 294, 295, 296, 297, 298, 299, 300, 301, 0, 322, 343, 364, 309, 310, 311, 312, 313, 314, 315, 316, 317, 318, 319, 320, 321, 322, 0, 344, 365, 330, 331, 332, 333, 334, 335, 336, 337, 338, 339, 340, 341, 342, 343, 344, 0, 366, 351, 352, 353, 354, 355, 356, 357, 358, 359, 360, 361, 362, 363, 364, 365, 366, 0].getD (17 * i + j) 0]? = some (.not (.eq (kTm i) (kTm j))) ∨ F[[0, 109, 119, 130, 141, 155, 168, 182, 199, 215, 232, 250, 271, 289, 309, 330, 351, 109, 0, 120, 131, 142, 156, 169, 183, 200, 216, 233, 251, 272, 290, 310, 331, 352, 119, 120, 0, 132, 143, 157, 170, 184, 201, 217, 234, 252, 273, 291, 311, 332, 353, 130, 131, 132, 0, 144, 158, 171, 185, 202, 218, 235, 253, 274, 292, 312, 333, 354, 141, 142, 143, 144, 0, 159, 172, 186, 203, 219, 236, 254, 275, 293, 313, 334, 355, 155, 156, 157, 158, 159, 0, 173, 187, 204, 220, 237, 255, 276, 294, 314, 335, 356, 168, 169, 170, 171, 172, 173, 0, 188, 205, 221, 238, 256, 277, 295, 315, 336, 357, 182, 183, 184, 185, 186, 187, 188, 0, 206, 222, 239, 257, 278, 296, 316, 337, 358, 199, 200, 201, 202, 203, 204, 205, 206, 0, 223, 240, 258, 279, 297, 317, 338, 359, 215, 216, 217, 218, 219, 220, 221, 222, 223, 0, 241, 259, 280, 298, 318, 339, 360, 232, 233, 234, 235, 236, 237, 238, 239, 240, 241, 0, 260, 281, 299, 319, 340, 361, 250, 251, 252, 253, 254, 255, 256, 257, 258, 259, 260, 0, 282, 300, 320, 341, 362, 271, 272, 273, 274, 275, 276, 277, 278, 279, 280, 281, 282, 0, 301, 321, 342, 363, 289, 290, 291, 292, 293, 294, 295, 296, 297, 298, 299, 300, 301, 0, 322, 343, 364, 309, 310, 311, 312, 313, 314, 315, 316, 317, 318, 319, 320, 321, 322, 0, 344, 365, 330, 331, 332, 333, 334, 335, 336, 337, 338, 339, 340, 341, 342, 343, 344, 0, 366, 351, 352, 353, 354, 355, 356, 357, 358, 359, 360, 361, 362, 363, 364, 365, 366, 0].getD (17 * i + j) 0]? = some (.not (.eq (kTm j) (kTm i)))) (h7 : ∀ i, i < 17 → TT[[630, 683, 684, 709, 710, 711, 712, 713, 714, 715, 716, 717, 718, 723, 736, 745, 750].getD i 0]? = some (.stringRef RX6 (e_kI.getD i 0) (e_kT.getD i ""))) :
    ∃ adK adV : Nat → Nat, vk_S 17 e_kL e_kB adK adV (e_A s.heap.size) s s.heap ∧ ∀ i, i < 17 → vk_R RX6 (e_kI.getD i 0) (e_kT.getD i "") (adK i) s := by
  obtain ⟨adK, adV, hS, hev⟩ := vk_Sof (args := args) (s := s) (N := 17) (tm := kTm) (len := e_kL) (byt := e_kB) (A := e_A s.heap.size) (by decide +kernel) (fun i hi => hs _ (List.mem_of_getElem? (h1 i hi))) (fun i hi => hs _ (List.mem_of_getElem? (h2 i hi))) (fun i hi => hs _ (List.mem_of_getElem? (h3 i hi))) (fun i hi => hs _ (List.mem_of_getElem? (h4 i hi))) (fun i hi j hj => hs _ (List.mem_of_getElem? (h5 i hi j hj))) (fun i j hi hj hij => (h6 i hi j hj hij).imp (fun h => hs _ (List.mem_of_getElem? h)) (fun h => hs _ (List.mem_of_getElem? h))) st_A
  exact ⟨adK, adV, hS, fun i hi => vk_R.of (ht _ (List.mem_of_getElem? (h7 i hi))) (hev i hi)⟩
set_option maxRecDepth 100000 in
set_option maxHeartbeats 4000000 in
theorem start_G {s : State} {args : Array Value} (hts : ∀ w ∈ lw_tbl, w.before args s = true) (hgv : (Jvm.Cond.and given_1 narrow_1).before args s = true) : ∃ G : GT, e_K G s.heap.size s s.heap := by
  have hs := flat_of_before _ hgv
  have hg : ∀ w ∈ gT, w.before args s = true := fun w hw => hts w (List.mem_filter.mp hw).1
  obtain ⟨cC0, iS0, k0⟩ := u_known (C := RX0) (T := TX0) (N := 4) (n := 4) hg iX0 (hg _ (gT_in 283 (by decide +kernel) rfl))
  obtain ⟨cC1, iS1, k1⟩ := u_known (C := RX1) (T := TX1) (N := 18) (n := 18) hg iX1 (hg _ (gT_in 316 (by decide +kernel) rfl))
  obtain ⟨cC2, iS2, k2⟩ := u_known (C := RX2) (T := TX2) (N := 4) (n := 4) hg iX2 (hg _ (gT_in 147 (by decide +kernel) rfl))
  obtain ⟨cC3, iS3, k3⟩ := u_known (C := RX3) (T := TX3) (N := 2) (n := 2) hg iX3 (hg _ (gT_in 412 (by decide +kernel) rfl))
  obtain ⟨cC4, iS4, k4⟩ := u_known (C := RX4) (T := TX4) (N := 1) (n := 1) hg iX4 (hg _ (gT_in 427 (by decide +kernel) rfl))
  obtain ⟨cC5, iS5, k5⟩ := u_known (C := RX5) (T := TX5) (N := 4) (n := 4) hg iX5 (hg _ (gT_in 752 (by decide +kernel) rfl))
  obtain ⟨cC6, iS6, k6⟩ := u_known (C := RX6) (T := TX6) (N := 13) (n := 13) hg iX6 (hg _ (gT_in 237 (by decide +kernel) rfl))
  obtain ⟨cC7, iS7, k7⟩ := u_known (C := RX7) (T := TX7) (N := 6) (n := 6) hg iX7 (hg _ (gT_in 383 (by decide +kernel) rfl))
  obtain ⟨cC8, iS8, k8⟩ := u_known (C := RX8) (T := TX8) (N := 2) (n := 2) hg iX8 (hg _ (gT_in 303 (by decide +kernel) rfl))
  obtain ⟨cC9, iS9, k9⟩ := u_known (C := RX9) (T := TX9) (N := 2) (n := 2) hg iX9 (hg _ (gT_in 220 (by decide +kernel) rfl))
  obtain ⟨cC10, iS10, k10⟩ := u_known (C := RX10) (T := TX10) (N := 10) (n := 10) hg iX10 (hg _ (gT_in 130 (by decide +kernel) rfl))
  obtain ⟨cC11, iS11, k11⟩ := u_known (C := RX11) (T := TX11) (N := 16) (n := 16) hg iX11 (hg _ (gT_in 122 (by decide +kernel) rfl))
  obtain ⟨cC12, iS12, k12⟩ := u_known (C := RX12) (T := TX12) (N := 50) (n := 50) hg iX12 (hg _ (gT_in 1221 (by decide +kernel) rfl))
  obtain ⟨a0, r0, f0⟩ := st_arr (ty := .int) (hts _ (List.mem_of_getElem? (i := 168) (by decide +kernel)))
  obtain ⟨a1, r1, f1⟩ := st_arr (ty := .long) (hts _ (List.mem_of_getElem? (i := 301) (by decide +kernel)))
  obtain ⟨a2, r2, f2⟩ := st_arr (ty := .boolean) (hts _ (List.mem_of_getElem? (i := 235) (by decide +kernel)))
  have o3 := hts (Cond.arrayOver (.object RX10)) (List.mem_of_getElem? (i := 218) (by decide +kernel))
  have o4 := hts (Cond.arrayOver (.object RX5)) (List.mem_of_getElem? (i := 145) (by decide +kernel))
  have o5 := hts (Cond.arrayOver (.object RX8)) (List.mem_of_getElem? (i := 322) (by decide +kernel))
  obtain ⟨a3, r3, f3⟩ := st_arrQ o3
  obtain ⟨a4, r4, f4⟩ := st_arrQ o4
  obtain ⟨a5, r5, f5⟩ := st_arrQ o5
  have hcI : s.vm.findClass "[I" = some a0 := f0
  obtain ⟨ad, hst⟩ := st_static (args := args) hs hts (by decide +kernel) (by decide +kernel) (by decide +kernel) (by decide +kernel) (by decide +kernel) (by decide +kernel) hcI
  obtain ⟨adK, adV, hS, hR⟩ := st_str (args := args) hs hts (by decide +kernel) (by decide +kernel) (by decide +kernel) (by decide +kernel) (by decide +kernel) (by decide +kernel) (by decide +kernel)
  have hcs : va_Z "java/lang/String" "COMPACT_STRINGS" "Z" (.int 1) (e_A s.heap.size) s s.heap := va_Zof (hts _ (List.mem_of_getElem? (i := 644) (by decide +kernel))) (hts _ (List.mem_of_getElem? (i := 115) (by decide +kernel))) (va_eqt (hs _ (List.mem_of_getElem? (i := 40) (by decide +kernel)))) st_A
  have hsf : va_Zq "jdk/internal/util/Preconditions" "SIOOBE_FORMATTER" "Ljava/util/function/BiFunction;" (e_A s.heap.size) s s.heap := va_Zqof (hts _ (List.mem_of_getElem? (i := 660) (by decide +kernel))) (hts _ (List.mem_of_getElem? (i := 117) (by decide +kernel))) (hs _ (List.mem_of_getElem? (i := 41) (by decide +kernel))) st_A
  refine ⟨((fun c => [cC0, cC1, cC2, cC3, cC4, cC5, cC6, cC7, cC8, cC9, cC10, cC11, cC12].getD c cC0, fun c => [iS0, iS1, iS2, iS3, iS4, iS5, iS6, iS7, iS8, iS9, iS10, iS11, iS12].getD c iS0), (fun t => [a0, a1, a2, a3, a4, a5].getD t a0), ad, adK, adV), ⟨?_, ?_⟩, ?_, ⟨hst, ⟨hcs, hsf⟩, hS, hR⟩, ⟨va_AO.of o4, va_AO.of o5, va_AO.of o3⟩, va_Nw.of rfl (hts _ (List.mem_of_getElem? (i := 142) (by decide +kernel)))⟩
  · intro c q hq
    match c, hq with
    | 0, h => have e := Option.some.inj h; subst e; exact k0
    | 1, h => have e := Option.some.inj h; subst e; exact k1
    | 2, h => have e := Option.some.inj h; subst e; exact k2
    | 3, h => have e := Option.some.inj h; subst e; exact k3
    | 4, h => have e := Option.some.inj h; subst e; exact k4
    | 5, h => have e := Option.some.inj h; subst e; exact k5
    | 6, h => have e := Option.some.inj h; subst e; exact k6
    | 7, h => have e := Option.some.inj h; subst e; exact k7
    | 8, h => have e := Option.some.inj h; subst e; exact k8
    | 9, h => have e := Option.some.inj h; subst e; exact k9
    | 10, h => have e := Option.some.inj h; subst e; exact k10
    | 11, h => have e := Option.some.inj h; subst e; exact k11
    | 12, h => have e := Option.some.inj h; subst e; exact k12
    | n + 13, h => exact absurd h (by intro h; cases h)
  · intro c q hq
    match c, hq with
    | 0, h => have e := Option.some.inj h; subst e; exact ⟨r0, f0⟩
    | 1, h => have e := Option.some.inj h; subst e; exact ⟨r1, f1⟩
    | 2, h => have e := Option.some.inj h; subst e; exact ⟨r2, f2⟩
    | 3, h => have e := Option.some.inj h; subst e; exact ⟨r3, f3⟩
    | 4, h => have e := Option.some.inj h; subst e; exact ⟨r4, f4⟩
    | 5, h => have e := Option.some.inj h; subst e; exact ⟨r5, f5⟩
    | n + 6, h => exact absurd h (by intro h; cases h)
  · intro w hw
    obtain ⟨h1, h2⟩ := List.mem_filter.mp hw
    exact va_Nw.of (by cases w <;> first | rfl | (simp [e_isNest] at h2)) (hts w h1)
