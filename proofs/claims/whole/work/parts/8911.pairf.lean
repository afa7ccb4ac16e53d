section PAIRF
variable {y : Nat → Int} {Fu : Nat} {LO : Option LwS}
/-! going through the pairs from a place of the bench on -/
theorem ex_skip {P : Nat → Prop} {j : Nat} (hn : ¬ P j) : (∃ i, j ≤ i ∧ i < 4 ∧ P i) ↔ ∃ i, j + 1 ≤ i ∧ i < 4 ∧ P i := by
  constructor
  · rintro ⟨i, h1, h2, h3⟩
    by_cases c : i = j
    · subst c; exact absurd h3 hn
    · exact ⟨i, by omega, h2, h3⟩
  · rintro ⟨i, h1, h2, h3⟩; exact ⟨i, by omega, h2, h3⟩
theorem ex_take {P : Nat → Prop} {Q : Prop} {j : Nat} (hj : j < 4) (hq : P j ↔ Q) : (∃ i, j ≤ i ∧ i < 4 ∧ P i) ↔ Q ∨ ∃ i, j + 1 ≤ i ∧ i < 4 ∧ P i := by
  constructor
  · rintro ⟨i, h1, h2, h3⟩
    by_cases c : i = j
    · subst c; exact Or.inl (hq.mp h3)
    · exact Or.inr ⟨i, by omega, h2, h3⟩
  · rintro (h | ⟨i, h1, h2, h3⟩)
    · exact ⟨j, Nat.le_refl _, hj, hq.mpr h⟩
    · exact ⟨i, by omega, h2, h3⟩
theorem seat_rng (hW : WF y) {b : Nat} (ht : (y 4).toNat.testBit b = true) : (b : Int) < y 0 ∧ b < 8 := by
  obtain ⟨s, n, e4, e0, hn, hs1, hs, hb⟩ := hW.seats
  rw [e4, Int.toNat_natCast] at ht
  have : b < n := Nat.lt_of_not_le (fun q => by rw [hb b q] at ht; cases ht)
  omega
theorem wn_last (hW : WF y) {b z1 o1 : Nat} (hlast : ∀ k, b + 1 ≤ k → (y 4).toNat.testBit k = false) (hb : b < 8) : wn y LO z1 o1 = al (cl (y 4).toNat.testBit (chs y LO z1 o1) (b + 1)) (y 5).toNat := by
  have e := cl_gap (t := (y 4).toNat.testBit) (p := chs y LO z1 o1) (8 - (b + 1)) (b + 1) (fun k k1 _ => hlast k k1)
  rw [show b + 1 + (8 - (b + 1)) = 8 by omega] at e
  rw [← e]; rfl
theorem x_pl7 (hFu : 6000 ≤ Fu) {vb vs vsd vq : Int32} {a43 a44 a46 a47 a49 : Nat → Int32} (hW : WF y) (hB : BK y LO vb vs vsd vq a43 a44 a46 a47 a49) {b z0 o0 : Nat} (ht : (y 4).toNat.testBit b = true) (hlast : ∀ k, b + 1 ≤ k → (y 4).toNat.testBit k = false) (hz : z0 < 2 ^ b) (ho : o0 < 2 ^ b) (sz : z0 &&& (y 4).toNat = z0) (so : o0 &&& (y 4).toNat = o0) {x6 x8 : Int64} (e6 : x6 = i64 (al (cl (y 4).toNat.testBit (chs y LO z0 o0) b) (y 5).toNat * 100)) (e8 : x8 = i64 (vt (cl (y 4).toNat.testBit (chs y LO z0 o0) b) ((y 5).toNat - 1))) {t7 : Int32} {w7 : Nat → Int64} :
    ∀ (d f j : Nat) (a48 : Nat → Int64) (B : Nat → Int), j + d = 4 → d < f → NB a48 B → Rt (fX1_pairFrom_p7_L91 Fu f vsd vq a43 a44 a46 a47 a48 a49 t7 w7 (i32 (z0 : Int)) (i32 (o0 : Int)) (i32 (b : Int)) 1 x6 x8 (i32 (j : Int))) (fun r => ∃ B', NB r B' ∧ Nt (wn y LO) B B' (fun z o => ∃ i, j ≤ i ∧ i < 4 ∧ EE y LO (b + 1) (z0 + i % 2 * 2 ^ b) (o0 + i / 2 * 2 ^ b) z o)) := by
  obtain ⟨hb, hb8⟩ := seat_rng hW ht
  have h0 := hW.1
  intro d
  induction d with
  | zero =>
    intro f j a48 B hjd hf hN
    obtain ⟨f, rfl⟩ : ∃ g, f = g + 1 := ⟨f - 1, by omega⟩
    rw [fX1_pairFrom_p7_L91]
    exact Rt.ift (by rw [i32_litN 3, i32_lt (by omega) (by omega) (by omega) (by omega)]; omega) (Rt.ret ⟨B, hN, Nt.none (fun z o ⟨i, h1, h2, _⟩ => by omega)⟩)
  | succ d ih =>
    intro f j a48 B hjd hf hN
    obtain ⟨f, rfl⟩ : ∃ g, f = g + 1 := ⟨f - 1, by omega⟩
    have hj : j < 4 := by omega
    rw [fX1_pairFrom_p7_L91]
    refine Rt.iff (by rw [i32_litN 3, i32_lt (by omega) (by omega) (by omega) (by omega)]; omega) ?_
    rw [st_zero hb8 hz hj, st_one hb8 ho hj]
    have l1 := st_lt (b := b) (e := j % 2) hz (by omega)
    have l2 := st_lt (b := b) (e := j / 2) ho (by omega)
    have p8 : 2 ^ (b + 1) ≤ 2 ^ (y 0).toNat := Nat.pow_le_pow_right (by omega) (by omega)
    have p9 := p2_256 hW
    have af0 : fX1_affords a46 a47 0 (i32 ((z0 + j % 2 * 2 ^ b : Nat) : Int)) = some (bI (cst y LO 0 (z0 + j % 2 * 2 ^ b) ≤ y (8 + 0))) := x_affords hW hB (sd := 0) (by omega) (Nat.lt_of_lt_of_le l1 p8)
    have af1 : fX1_affords a46 a47 1 (i32 ((o0 + j / 2 * 2 ^ b : Nat) : Int)) = some (bI (cst y LO 1 (o0 + j / 2 * 2 ^ b) ≤ y (8 + 1))) := x_affords hW hB (sd := 1) (by omega) (Nat.lt_of_lt_of_le l2 p8)
    have skip : ¬ (cst y LO 0 (z0 + j % 2 * 2 ^ b) ≤ y (8 + 0) ∧ cst y LO 1 (o0 + j / 2 * 2 ^ b) ≤ y (8 + 1)) → Rt (fX1_pairFrom_p7_L91 Fu f vsd vq a43 a44 a46 a47 a48 a49 t7 w7 (i32 (z0 : Int)) (i32 (o0 : Int)) (i32 (b : Int)) 1 x6 x8 (i32 (j : Int) + 1)) (fun r => ∃ B', NB r B' ∧ Nt (wn y LO) B B' (fun z o => ∃ i, j ≤ i ∧ i < 4 ∧ EE y LO (b + 1) (z0 + i % 2 * 2 ^ b) (o0 + i / 2 * 2 ^ b) z o)) := by
      intro q
      rw [i32_p1]
      exact (ih f (j + 1) a48 B (by omega) (by omega) hN).mono (fun r ⟨B', g1, g2⟩ => ⟨B', g1, g2.ext (fun z o => ex_skip (fun h => q (EE_aff hW h)))⟩)
    rw [af0]
    refine Rt.eqb rfl ?_
    by_cases c0 : cst y LO 0 (z0 + j % 2 * 2 ^ b) ≤ y (8 + 0)
    · refine Rt.iff (by rw [bI_0]; exact fun q => q c0) ?_
      rw [af1]
      refine Rt.eqb rfl ?_
      by_cases c1 : cst y LO 1 (o0 + j / 2 * 2 ^ b) ≤ y (8 + 1)
      · refine Rt.iff (by rw [bI_0]; exact fun q => q c1) ?_
        rw [x_chanceWith hW hB hb (st_both hz ho hj)]
        refine Rt.eqb rfl (Rt.iff (by decide) ?_)
        have cr := chn_rng (y := y) (LO := LO) (b := b) (h := (((y 6).toNat : Nat) : Int)) (f := ((fv y (z0 + j % 2 * 2 ^ b) (o0 + j / 2 * 2 ^ b) b : Nat) : Int)) (m := 0)
        have hq := hW.quota
        have wr := wnO_rng (y := y) (LO := LO) (bn := (y 4).toNat) (q := (y 5).toNat) (z := z0 + j % 2 * 2 ^ b) (o := o0 + j / 2 * 2 ^ b)
        have ev : x6 + x8 * (i32 (chn y LO b (((y 6).toNat : Nat) : Int) ((fv y (z0 + j % 2 * 2 ^ b) (o0 + j / 2 * 2 ^ b) b : Nat) : Int) 0)).toInt64 = i64 (wn y LO (z0 + j % 2 * 2 ^ b) (o0 + j / 2 * 2 ^ b)) := by
          rw [wn_last hW hlast hb8, st_cl hz ho (by omega) (by omega) ht, i32_64 (by omega) (by omega), e6, e8, i64_mul, i64_add]
          have la := al_cons (L := (cl (y 4).toNat.testBit (chs y LO z0 o0) b)) (p := chs y LO (z0 + j % 2 * 2 ^ b) (o0 + j / 2 * 2 ^ b) b) (q := (y 5).toNat - 1) (by have := cl_len (y 4).toNat.testBit (chs y LO z0 o0) b; omega)
          rw [show (y 5).toNat - 1 + 1 = (y 5).toNat by omega] at la
          rw [la]
        refine Rt.bind (x_note hN (W := wn y LO) (by omega) (by omega) ev wr.1 wr.2) (fun r2 ⟨B1, n1, n2⟩ => ?_)
        rw [i32_p1]
        exact (ih f (j + 1) r2 B1 (by omega) (by omega) n1).mono (fun r ⟨B', g1, g2⟩ => ⟨B', g1, (n2.comp g2).ext (fun z o => ex_take hj (EE_last hW hlast (st_sub hz (by omega) sz ht) (st_sub ho (by omega) so ht) c0 c1 z o))⟩)
      · exact Rt.ift (by rw [bI_0]; exact c1) (skip (fun q => c1 q.2))
    · exact Rt.ift (by rw [bI_0]; exact c0) (skip (fun q => c0 q.1))
theorem x_pf7 (hFu : 6000 ≤ Fu) {vb vs vsd vq : Int32} {a43 a44 a46 a47 a49 : Nat → Int32} (hW : WF y) (hB : BK y LO vb vs vsd vq a43 a44 a46 a47 a49) {b z0 o0 : Nat} (ht : (y 4).toNat.testBit b = true) (hK : bcn (y 4).toNat b = 7) (hz : z0 < 2 ^ b) (ho : o0 < 2 ^ b) (sz : z0 &&& (y 4).toNat = z0) (so : o0 &&& (y 4).toNat = o0) {t7 : Int32} {w7 : Nat → Int64} (hT : RT (cl (y 4).toNat.testBit (chs y LO z0 o0) b) t7 w7) (a48 : Nat → Int64) (B : Nat → Int)  (hN : NB a48 B) : Rt (fX1_pairFrom_p7 Fu vsd vq a43 a44 a46 a47 a48 a49 t7 w7 (i32 (z0 : Int)) (i32 (o0 : Int))) (fun r => ∃ B', NB r B' ∧ Nt (wn y LO) B B' (EE y LO b z0 o0)) := by
  obtain ⟨hb, hb8⟩ := seat_rng hW ht
  obtain ⟨s, n, e4, e0, hn, hs1, hs, hbn⟩ := hW.seats
  have e1 : bcn (y 4).toNat (b + 1) = 8 := by show bcn (y 4).toNat b + (if (y 4).toNat.testBit b then 1 else 0) = _; rw [ht, hK]; rfl
  have mo := bcn_mono (s := (y 4).toNat) (a := b + 1) (8 - (b + 1))
  rw [show b + 1 + (8 - (b + 1)) = 8 by omega] at mo
  have b8 := bcn_le (y 4).toNat 8
  have hq := hW.quota
  have ev := hB.2.2.2.1
  have eqn : vq = i32 (((y 5).toNat : Nat) : Int) := by rw [hB.2.2.1]; congr 1; omega
  have ha : fX8_atLeast Fu t7 w7 vq = some (i64 (al (cl (y 4).toNat.testBit (chs y LO z0 o0) b) (y 5).toNat)) := by rw [eqn]; exact x_atLeast hFu hT (by omega)
  have hj : fX8_just t7 w7 (vq - 1) = some (i64 (vt (cl (y 4).toNat.testBit (chs y LO z0 o0) b) ((y 5).toNat - 1))) := by
    rw [eqn, show i32 (((y 5).toNat : Nat) : Int) - 1 = i32 ((((y 5).toNat - 1 : Nat) : Nat) : Int) by rw [i32_litN 1, i32_sub]; congr 1; omega, x_just hT (by omega) (by omega), if_neg (by omega), Int.toNat_natCast]
  have ea : a49 (OfNat.ofNat 7 : Int32).toNatClampNeg = i32 (b : Int) := by rw [i32_nn9 (by decide), ← hK]; exact hB.2.2.2.2.2.2.2.2 b hb ht
  have fin : ∀ {a : Nat → Int64}, (∃ B', NB a B' ∧ Nt (wn y LO) B B' (fun z o => ∃ i, 0 ≤ i ∧ i < 4 ∧ EE y LO (b + 1) (z0 + i % 2 * 2 ^ b) (o0 + i / 2 * 2 ^ b) z o)) → ∃ B', NB a B' ∧ Nt (wn y LO) B B' (EE y LO b z0 o0) := by
    rintro a ⟨B', g1, g2⟩
    refine ⟨B', g1, g2.ext (fun z o => ?_)⟩
    rw [EE_four hz ho]
    exact ⟨fun ⟨i, h1, h2⟩ => ⟨i, by omega, h1, h2⟩, fun ⟨i, _, h1, h2⟩ => ⟨i, h1, h2⟩⟩
  unfold fX1_pairFrom_p7
  rw [ea]
  refine Rt.ift (by rw [ev, i32_litN 7, i32_lt (by omega) (by omega) (by omega) (by omega)]; omega) ?_
  rw [gd9 (by decide) (by decide)]
  by_cases cl : bcn (y 4).toNat 8 = 8
  · refine Rt.iff (by rw [ev, i32_litN 8, i32_lt (by omega) (by omega) (by omega) (by omega)]; omega) ?_
    unfold fX1_pairFrom_p7_L32
    refine Rt.iff (by decide) ?_
    rw [ha]
    refine Rt.eqb rfl ?_
    unfold fX1_pairFrom_p7_L60
    refine Rt.iff (by decide) ?_
    rw [hj]
    refine Rt.eqb rfl ?_
    unfold fX1_pairFrom_p7_L86
    exact (x_pl7 hFu hW hB ht (seat_last hb8 ht hK cl (by omega)) hz ho sz so (i64_mul _ 100) rfl 4 Fu 0 a48 B (by omega) (by omega) hN).mono (fun r hr => fin hr)
  · omega
theorem x_pl6 (hFu : 6000 ≤ Fu) {vb vs vsd vq : Int32} {a43 a44 a46 a47 a49 : Nat → Int32} (hW : WF y) (hB : BK y LO vb vs vsd vq a43 a44 a46 a47 a49) {b z0 o0 : Nat} (ht : (y 4).toNat.testBit b = true) (hlast : ∀ k, b + 1 ≤ k → (y 4).toNat.testBit k = false) (hz : z0 < 2 ^ b) (ho : o0 < 2 ^ b) (sz : z0 &&& (y 4).toNat = z0) (so : o0 &&& (y 4).toNat = o0) {x6 x8 : Int64} (e6 : x6 = i64 (al (cl (y 4).toNat.testBit (chs y LO z0 o0) b) (y 5).toNat * 100)) (e8 : x8 = i64 (vt (cl (y 4).toNat.testBit (chs y LO z0 o0) b) ((y 5).toNat - 1))) {t6 : Int32} {w6 : Nat → Int64} {t7 : Int32} {w7 : Nat → Int64} :
    ∀ (d f j : Nat) (a48 : Nat → Int64) (B : Nat → Int), j + d = 4 → d < f → NB a48 B → Rt (fX1_pairFrom_p6_L91 Fu f vsd vq a43 a44 a46 a47 a48 a49 t6 w6 t7 w7 (i32 (z0 : Int)) (i32 (o0 : Int)) (i32 (b : Int)) 1 x6 x8 (i32 (j : Int))) (fun r => ∃ B', NB r.1 B' ∧ Nt (wn y LO) B B' (fun z o => ∃ i, j ≤ i ∧ i < 4 ∧ EE y LO (b + 1) (z0 + i % 2 * 2 ^ b) (o0 + i / 2 * 2 ^ b) z o)) := by
  obtain ⟨hb, hb8⟩ := seat_rng hW ht
  have h0 := hW.1
  intro d
  induction d with
  | zero =>
    intro f j a48 B hjd hf hN
    obtain ⟨f, rfl⟩ : ∃ g, f = g + 1 := ⟨f - 1, by omega⟩
    rw [fX1_pairFrom_p6_L91]
    exact Rt.ift (by rw [i32_litN 3, i32_lt (by omega) (by omega) (by omega) (by omega)]; omega) (Rt.ret ⟨B, hN, Nt.none (fun z o ⟨i, h1, h2, _⟩ => by omega)⟩)
  | succ d ih =>
    intro f j a48 B hjd hf hN
    obtain ⟨f, rfl⟩ : ∃ g, f = g + 1 := ⟨f - 1, by omega⟩
    have hj : j < 4 := by omega
    rw [fX1_pairFrom_p6_L91]
    refine Rt.iff (by rw [i32_litN 3, i32_lt (by omega) (by omega) (by omega) (by omega)]; omega) ?_
    rw [st_zero hb8 hz hj, st_one hb8 ho hj]
    have l1 := st_lt (b := b) (e := j % 2) hz (by omega)
    have l2 := st_lt (b := b) (e := j / 2) ho (by omega)
    have p8 : 2 ^ (b + 1) ≤ 2 ^ (y 0).toNat := Nat.pow_le_pow_right (by omega) (by omega)
    have p9 := p2_256 hW
    have af0 : fX1_affords a46 a47 0 (i32 ((z0 + j % 2 * 2 ^ b : Nat) : Int)) = some (bI (cst y LO 0 (z0 + j % 2 * 2 ^ b) ≤ y (8 + 0))) := x_affords hW hB (sd := 0) (by omega) (Nat.lt_of_lt_of_le l1 p8)
    have af1 : fX1_affords a46 a47 1 (i32 ((o0 + j / 2 * 2 ^ b : Nat) : Int)) = some (bI (cst y LO 1 (o0 + j / 2 * 2 ^ b) ≤ y (8 + 1))) := x_affords hW hB (sd := 1) (by omega) (Nat.lt_of_lt_of_le l2 p8)
    have skip : ¬ (cst y LO 0 (z0 + j % 2 * 2 ^ b) ≤ y (8 + 0) ∧ cst y LO 1 (o0 + j / 2 * 2 ^ b) ≤ y (8 + 1)) → Rt (fX1_pairFrom_p6_L91 Fu f vsd vq a43 a44 a46 a47 a48 a49 t6 w6 t7 w7 (i32 (z0 : Int)) (i32 (o0 : Int)) (i32 (b : Int)) 1 x6 x8 (i32 (j : Int) + 1)) (fun r => ∃ B', NB r.1 B' ∧ Nt (wn y LO) B B' (fun z o => ∃ i, j ≤ i ∧ i < 4 ∧ EE y LO (b + 1) (z0 + i % 2 * 2 ^ b) (o0 + i / 2 * 2 ^ b) z o)) := by
      intro q
      rw [i32_p1]
      exact (ih f (j + 1) a48 B (by omega) (by omega) hN).mono (fun r ⟨B', g1, g2⟩ => ⟨B', g1, g2.ext (fun z o => ex_skip (fun h => q (EE_aff hW h)))⟩)
    rw [af0]
    refine Rt.eqb rfl ?_
    by_cases c0 : cst y LO 0 (z0 + j % 2 * 2 ^ b) ≤ y (8 + 0)
    · refine Rt.iff (by rw [bI_0]; exact fun q => q c0) ?_
      rw [af1]
      refine Rt.eqb rfl ?_
      by_cases c1 : cst y LO 1 (o0 + j / 2 * 2 ^ b) ≤ y (8 + 1)
      · refine Rt.iff (by rw [bI_0]; exact fun q => q c1) ?_
        rw [x_chanceWith hW hB hb (st_both hz ho hj)]
        refine Rt.eqb rfl (Rt.iff (by decide) ?_)
        have cr := chn_rng (y := y) (LO := LO) (b := b) (h := (((y 6).toNat : Nat) : Int)) (f := ((fv y (z0 + j % 2 * 2 ^ b) (o0 + j / 2 * 2 ^ b) b : Nat) : Int)) (m := 0)
        have hq := hW.quota
        have wr := wnO_rng (y := y) (LO := LO) (bn := (y 4).toNat) (q := (y 5).toNat) (z := z0 + j % 2 * 2 ^ b) (o := o0 + j / 2 * 2 ^ b)
        have ev : x6 + x8 * (i32 (chn y LO b (((y 6).toNat : Nat) : Int) ((fv y (z0 + j % 2 * 2 ^ b) (o0 + j / 2 * 2 ^ b) b : Nat) : Int) 0)).toInt64 = i64 (wn y LO (z0 + j % 2 * 2 ^ b) (o0 + j / 2 * 2 ^ b)) := by
          rw [wn_last hW hlast hb8, st_cl hz ho (by omega) (by omega) ht, i32_64 (by omega) (by omega), e6, e8, i64_mul, i64_add]
          have la := al_cons (L := (cl (y 4).toNat.testBit (chs y LO z0 o0) b)) (p := chs y LO (z0 + j % 2 * 2 ^ b) (o0 + j / 2 * 2 ^ b) b) (q := (y 5).toNat - 1) (by have := cl_len (y 4).toNat.testBit (chs y LO z0 o0) b; omega)
          rw [show (y 5).toNat - 1 + 1 = (y 5).toNat by omega] at la
          rw [la]
        refine Rt.bind (x_note hN (W := wn y LO) (by omega) (by omega) ev wr.1 wr.2) (fun r2 ⟨B1, n1, n2⟩ => ?_)
        rw [i32_p1]
        exact (ih f (j + 1) r2 B1 (by omega) (by omega) n1).mono (fun r ⟨B', g1, g2⟩ => ⟨B', g1, (n2.comp g2).ext (fun z o => ex_take hj (EE_last hW hlast (st_sub hz (by omega) sz ht) (st_sub ho (by omega) so ht) c0 c1 z o))⟩)
      · exact Rt.ift (by rw [bI_0]; exact c1) (skip (fun q => c1 q.2))
    · exact Rt.ift (by rw [bI_0]; exact c0) (skip (fun q => c0 q.1))
theorem x_pn6 (hFu : 6000 ≤ Fu) {vb vs vsd vq : Int32} {a43 a44 a46 a47 a49 : Nat → Int32} (hW : WF y) (hB : BK y LO vb vs vsd vq a43 a44 a46 a47 a49) {b z0 o0 : Nat} (ht : (y 4).toNat.testBit b = true) (hK : bcn (y 4).toNat b = 6) {c : Nat} (hc : b + 1 ≤ c) (htc : (y 4).toNat.testBit c = true) (hKc : bcn (y 4).toNat c = 7) (hgap : ∀ k, b + 1 ≤ k → k < c → (y 4).toNat.testBit k = false) (hz : z0 < 2 ^ b) (ho : o0 < 2 ^ b) (sz : z0 &&& (y 4).toNat = z0) (so : o0 &&& (y 4).toNat = o0) {x6 x8 : Int64} {t6 : Int32} {w6 : Nat → Int64} (hT : RT (cl (y 4).toNat.testBit (chs y LO z0 o0) b) t6 w6) :
    ∀ (d f j : Nat) (a48 : Nat → Int64) (B : Nat → Int) (t7 : Int32) (w7 : Nat → Int64), j + d = 4 → d < f → NB a48 B → Rt (fX1_pairFrom_p6_L91 Fu f vsd vq a43 a44 a46 a47 a48 a49 t6 w6 t7 w7 (i32 (z0 : Int)) (i32 (o0 : Int)) (i32 (b : Int)) 0 x6 x8 (i32 (j : Int))) (fun r => ∃ B', NB r.1 B' ∧ Nt (wn y LO) B B' (fun z o => ∃ i, j ≤ i ∧ i < 4 ∧ EE y LO (b + 1) (z0 + i % 2 * 2 ^ b) (o0 + i / 2 * 2 ^ b) z o)) := by
  obtain ⟨hb, hb8⟩ := seat_rng hW ht
  have h0 := hW.1
  intro d
  induction d with
  | zero =>
    intro f j a48 B t7 w7 hjd hf hN
    obtain ⟨f, rfl⟩ : ∃ g, f = g + 1 := ⟨f - 1, by omega⟩
    rw [fX1_pairFrom_p6_L91]
    exact Rt.ift (by rw [i32_litN 3, i32_lt (by omega) (by omega) (by omega) (by omega)]; omega) (Rt.ret ⟨B, hN, Nt.none (fun z o ⟨i, h1, h2, _⟩ => by omega)⟩)
  | succ d ih =>
    intro f j a48 B t7 w7 hjd hf hN
    obtain ⟨f, rfl⟩ : ∃ g, f = g + 1 := ⟨f - 1, by omega⟩
    have hj : j < 4 := by omega
    rw [fX1_pairFrom_p6_L91]
    refine Rt.iff (by rw [i32_litN 3, i32_lt (by omega) (by omega) (by omega) (by omega)]; omega) ?_
    rw [st_zero hb8 hz hj, st_one hb8 ho hj]
    have l1 := st_lt (b := b) (e := j % 2) hz (by omega)
    have l2 := st_lt (b := b) (e := j / 2) ho (by omega)
    have p8 : 2 ^ (b + 1) ≤ 2 ^ (y 0).toNat := Nat.pow_le_pow_right (by omega) (by omega)
    have p9 := p2_256 hW
    have af0 : fX1_affords a46 a47 0 (i32 ((z0 + j % 2 * 2 ^ b : Nat) : Int)) = some (bI (cst y LO 0 (z0 + j % 2 * 2 ^ b) ≤ y (8 + 0))) := x_affords hW hB (sd := 0) (by omega) (Nat.lt_of_lt_of_le l1 p8)
    have af1 : fX1_affords a46 a47 1 (i32 ((o0 + j / 2 * 2 ^ b : Nat) : Int)) = some (bI (cst y LO 1 (o0 + j / 2 * 2 ^ b) ≤ y (8 + 1))) := x_affords hW hB (sd := 1) (by omega) (Nat.lt_of_lt_of_le l2 p8)
    have skip : ¬ (cst y LO 0 (z0 + j % 2 * 2 ^ b) ≤ y (8 + 0) ∧ cst y LO 1 (o0 + j / 2 * 2 ^ b) ≤ y (8 + 1)) → Rt (fX1_pairFrom_p6_L91 Fu f vsd vq a43 a44 a46 a47 a48 a49 t6 w6 t7 w7 (i32 (z0 : Int)) (i32 (o0 : Int)) (i32 (b : Int)) 0 x6 x8 (i32 (j : Int) + 1)) (fun r => ∃ B', NB r.1 B' ∧ Nt (wn y LO) B B' (fun z o => ∃ i, j ≤ i ∧ i < 4 ∧ EE y LO (b + 1) (z0 + i % 2 * 2 ^ b) (o0 + i / 2 * 2 ^ b) z o)) := by
      intro q
      rw [i32_p1]
      exact (ih f (j + 1) a48 B t7 w7 (by omega) (by omega) hN).mono (fun r ⟨B', g1, g2⟩ => ⟨B', g1, g2.ext (fun z o => ex_skip (fun h => q (EE_aff hW h)))⟩)
    rw [af0]
    refine Rt.eqb rfl ?_
    by_cases c0 : cst y LO 0 (z0 + j % 2 * 2 ^ b) ≤ y (8 + 0)
    · refine Rt.iff (by rw [bI_0]; exact fun q => q c0) ?_
      rw [af1]
      refine Rt.eqb rfl ?_
      by_cases c1 : cst y LO 1 (o0 + j / 2 * 2 ^ b) ≤ y (8 + 1)
      · refine Rt.iff (by rw [bI_0]; exact fun q => q c1) ?_
        rw [x_chanceWith hW hB hb (st_both hz ho hj)]
        refine Rt.eqb rfl (Rt.ift rfl ?_)
        have cr := chn_rng (y := y) (LO := LO) (b := b) (h := (((y 6).toNat : Nat) : Int)) (f := ((fv y (z0 + j % 2 * 2 ^ b) (o0 + j / 2 * 2 ^ b) b : Nat) : Int)) (m := 0)
        refine Rt.bind (x_voteAfter hFu cr.1 cr.2 hT (by rw [cl_cnt, hK]; omega)) (fun r1 hr1 => ?_)
        have hT2 : RT (cl (y 4).toNat.testBit (chs y LO (z0 + j % 2 * 2 ^ b) (o0 + j / 2 * 2 ^ b)) c) r1.1 r1.2 := by
          have e := cl_gap (t := (y 4).toNat.testBit) (p := chs y LO (z0 + j % 2 * 2 ^ b) (o0 + j / 2 * 2 ^ b)) (c - (b + 1)) (b + 1) (fun k k1 k2 => hgap k k1 (by omega))
          rw [show b + 1 + (c - (b + 1)) = c by omega] at e
          rw [e, st_cl hz ho (by omega) (by omega) ht]; exact hr1
        have pc : 2 ^ (b + 1) ≤ 2 ^ c := Nat.pow_le_pow_right (by omega) hc
        refine Rt.bind (x_pf7 hFu hW hB (b := c) htc hKc (Nat.lt_of_lt_of_le l1 pc) (Nat.lt_of_lt_of_le l2 pc) (st_sub hz (by omega) sz ht) (st_sub ho (by omega) so ht) hT2 a48 B  hN) (fun r2 ⟨B1, n1, n2⟩ => ?_)
        rw [i32_p1]
        exact (ih f (j + 1) r2 B1 r1.1 r1.2  (by omega) (by omega) n1).mono (fun r ⟨B', g1, g2⟩ => ⟨B', g1, (n2.comp g2).ext (fun z o => ex_take hj (EE_skip hc hgap))⟩)
      · exact Rt.ift (by rw [bI_0]; exact c1) (skip (fun q => c1 q.2))
    · exact Rt.ift (by rw [bI_0]; exact c0) (skip (fun q => c0 q.1))
theorem x_pf6 (hFu : 6000 ≤ Fu) {vb vs vsd vq : Int32} {a43 a44 a46 a47 a49 : Nat → Int32} (hW : WF y) (hB : BK y LO vb vs vsd vq a43 a44 a46 a47 a49) {b z0 o0 : Nat} (ht : (y 4).toNat.testBit b = true) (hK : bcn (y 4).toNat b = 6) (hz : z0 < 2 ^ b) (ho : o0 < 2 ^ b) (sz : z0 &&& (y 4).toNat = z0) (so : o0 &&& (y 4).toNat = o0) {t6 : Int32} {w6 : Nat → Int64} (hT : RT (cl (y 4).toNat.testBit (chs y LO z0 o0) b) t6 w6) (a48 : Nat → Int64) (B : Nat → Int) (t7 : Int32) (w7 : Nat → Int64) (hN : NB a48 B) : Rt (fX1_pairFrom_p6 Fu vsd vq a43 a44 a46 a47 a48 a49 t6 w6 t7 w7 (i32 (z0 : Int)) (i32 (o0 : Int))) (fun r => ∃ B', NB r.1 B' ∧ Nt (wn y LO) B B' (EE y LO b z0 o0)) := by
  obtain ⟨hb, hb8⟩ := seat_rng hW ht
  obtain ⟨s, n, e4, e0, hn, hs1, hs, hbn⟩ := hW.seats
  have e1 : bcn (y 4).toNat (b + 1) = 7 := by show bcn (y 4).toNat b + (if (y 4).toNat.testBit b then 1 else 0) = _; rw [ht, hK]; rfl
  have mo := bcn_mono (s := (y 4).toNat) (a := b + 1) (8 - (b + 1))
  rw [show b + 1 + (8 - (b + 1)) = 8 by omega] at mo
  have b8 := bcn_le (y 4).toNat 8
  have hq := hW.quota
  have ev := hB.2.2.2.1
  have eqn : vq = i32 (((y 5).toNat : Nat) : Int) := by rw [hB.2.2.1]; congr 1; omega
  have ha : fX8_atLeast Fu t6 w6 vq = some (i64 (al (cl (y 4).toNat.testBit (chs y LO z0 o0) b) (y 5).toNat)) := by rw [eqn]; exact x_atLeast hFu hT (by omega)
  have hj : fX8_just t6 w6 (vq - 1) = some (i64 (vt (cl (y 4).toNat.testBit (chs y LO z0 o0) b) ((y 5).toNat - 1))) := by
    rw [eqn, show i32 (((y 5).toNat : Nat) : Int) - 1 = i32 ((((y 5).toNat - 1 : Nat) : Nat) : Int) by rw [i32_litN 1, i32_sub]; congr 1; omega, x_just hT (by omega) (by omega), if_neg (by omega), Int.toNat_natCast]
  have ea : a49 (OfNat.ofNat 6 : Int32).toNatClampNeg = i32 (b : Int) := by rw [i32_nn9 (by decide), ← hK]; exact hB.2.2.2.2.2.2.2.2 b hb ht
  have fin : ∀ {a : Nat → Int64}, (∃ B', NB a B' ∧ Nt (wn y LO) B B' (fun z o => ∃ i, 0 ≤ i ∧ i < 4 ∧ EE y LO (b + 1) (z0 + i % 2 * 2 ^ b) (o0 + i / 2 * 2 ^ b) z o)) → ∃ B', NB a B' ∧ Nt (wn y LO) B B' (EE y LO b z0 o0) := by
    rintro a ⟨B', g1, g2⟩
    refine ⟨B', g1, g2.ext (fun z o => ?_)⟩
    rw [EE_four hz ho]
    exact ⟨fun ⟨i, h1, h2⟩ => ⟨i, by omega, h1, h2⟩, fun ⟨i, _, h1, h2⟩ => ⟨i, h1, h2⟩⟩
  unfold fX1_pairFrom_p6
  rw [ea]
  refine Rt.ift (by rw [ev, i32_litN 6, i32_lt (by omega) (by omega) (by omega) (by omega)]; omega) ?_
  rw [gd9 (by decide) (by decide)]
  by_cases cl : bcn (y 4).toNat 8 = 7
  · refine Rt.iff (by rw [ev, i32_litN 7, i32_lt (by omega) (by omega) (by omega) (by omega)]; omega) ?_
    unfold fX1_pairFrom_p6_L32
    refine Rt.iff (by decide) ?_
    rw [ha]
    refine Rt.eqb rfl ?_
    unfold fX1_pairFrom_p6_L60
    refine Rt.iff (by decide) ?_
    rw [hj]
    refine Rt.eqb rfl ?_
    unfold fX1_pairFrom_p6_L86
    exact (x_pl6 hFu hW hB ht (seat_last hb8 ht hK cl (by omega)) hz ho sz so (i64_mul _ 100) rfl 4 Fu 0 a48 B (by omega) (by omega) hN).mono (fun r hr => fin hr)
  · obtain ⟨c, c1, c2, c3, c4, c5⟩ := seat_next hb8 ht hK (by omega)
    refine Rt.ift (by rw [ev, i32_litN 7, i32_lt (by omega) (by omega) (by omega) (by omega)]; omega) ?_
    unfold fX1_pairFrom_p6_L32
    refine Rt.ift rfl ?_
    unfold fX1_pairFrom_p6_L60
    refine Rt.ift rfl ?_
    unfold fX1_pairFrom_p6_L86
    exact (x_pn6 hFu hW hB ht hK c1 c3 c4 c5 hz ho sz so hT 4 Fu 0 a48 B t7 w7 (by omega) (by omega) hN).mono (fun r hr => fin hr)
theorem x_pl5 (hFu : 6000 ≤ Fu) {vb vs vsd vq : Int32} {a43 a44 a46 a47 a49 : Nat → Int32} (hW : WF y) (hB : BK y LO vb vs vsd vq a43 a44 a46 a47 a49) {b z0 o0 : Nat} (ht : (y 4).toNat.testBit b = true) (hlast : ∀ k, b + 1 ≤ k → (y 4).toNat.testBit k = false) (hz : z0 < 2 ^ b) (ho : o0 < 2 ^ b) (sz : z0 &&& (y 4).toNat = z0) (so : o0 &&& (y 4).toNat = o0) {x6 x8 : Int64} (e6 : x6 = i64 (al (cl (y 4).toNat.testBit (chs y LO z0 o0) b) (y 5).toNat * 100)) (e8 : x8 = i64 (vt (cl (y 4).toNat.testBit (chs y LO z0 o0) b) ((y 5).toNat - 1))) {t5 : Int32} {w5 : Nat → Int64} {t6 : Int32} {w6 : Nat → Int64} {t7 : Int32} {w7 : Nat → Int64} :
    ∀ (d f j : Nat) (a48 : Nat → Int64) (B : Nat → Int), j + d = 4 → d < f → NB a48 B → Rt (fX1_pairFrom_p5_L91 Fu f vsd vq a43 a44 a46 a47 a48 a49 t5 w5 t6 w6 t7 w7 (i32 (z0 : Int)) (i32 (o0 : Int)) (i32 (b : Int)) 1 x6 x8 (i32 (j : Int))) (fun r => ∃ B', NB r.1 B' ∧ Nt (wn y LO) B B' (fun z o => ∃ i, j ≤ i ∧ i < 4 ∧ EE y LO (b + 1) (z0 + i % 2 * 2 ^ b) (o0 + i / 2 * 2 ^ b) z o)) := by
  obtain ⟨hb, hb8⟩ := seat_rng hW ht
  have h0 := hW.1
  intro d
  induction d with
  | zero =>
    intro f j a48 B hjd hf hN
    obtain ⟨f, rfl⟩ : ∃ g, f = g + 1 := ⟨f - 1, by omega⟩
    rw [fX1_pairFrom_p5_L91]
    exact Rt.ift (by rw [i32_litN 3, i32_lt (by omega) (by omega) (by omega) (by omega)]; omega) (Rt.ret ⟨B, hN, Nt.none (fun z o ⟨i, h1, h2, _⟩ => by omega)⟩)
  | succ d ih =>
    intro f j a48 B hjd hf hN
    obtain ⟨f, rfl⟩ : ∃ g, f = g + 1 := ⟨f - 1, by omega⟩
    have hj : j < 4 := by omega
    rw [fX1_pairFrom_p5_L91]
    refine Rt.iff (by rw [i32_litN 3, i32_lt (by omega) (by omega) (by omega) (by omega)]; omega) ?_
    rw [st_zero hb8 hz hj, st_one hb8 ho hj]
    have l1 := st_lt (b := b) (e := j % 2) hz (by omega)
    have l2 := st_lt (b := b) (e := j / 2) ho (by omega)
    have p8 : 2 ^ (b + 1) ≤ 2 ^ (y 0).toNat := Nat.pow_le_pow_right (by omega) (by omega)
    have p9 := p2_256 hW
    have af0 : fX1_affords a46 a47 0 (i32 ((z0 + j % 2 * 2 ^ b : Nat) : Int)) = some (bI (cst y LO 0 (z0 + j % 2 * 2 ^ b) ≤ y (8 + 0))) := x_affords hW hB (sd := 0) (by omega) (Nat.lt_of_lt_of_le l1 p8)
    have af1 : fX1_affords a46 a47 1 (i32 ((o0 + j / 2 * 2 ^ b : Nat) : Int)) = some (bI (cst y LO 1 (o0 + j / 2 * 2 ^ b) ≤ y (8 + 1))) := x_affords hW hB (sd := 1) (by omega) (Nat.lt_of_lt_of_le l2 p8)
    have skip : ¬ (cst y LO 0 (z0 + j % 2 * 2 ^ b) ≤ y (8 + 0) ∧ cst y LO 1 (o0 + j / 2 * 2 ^ b) ≤ y (8 + 1)) → Rt (fX1_pairFrom_p5_L91 Fu f vsd vq a43 a44 a46 a47 a48 a49 t5 w5 t6 w6 t7 w7 (i32 (z0 : Int)) (i32 (o0 : Int)) (i32 (b : Int)) 1 x6 x8 (i32 (j : Int) + 1)) (fun r => ∃ B', NB r.1 B' ∧ Nt (wn y LO) B B' (fun z o => ∃ i, j ≤ i ∧ i < 4 ∧ EE y LO (b + 1) (z0 + i % 2 * 2 ^ b) (o0 + i / 2 * 2 ^ b) z o)) := by
      intro q
      rw [i32_p1]
      exact (ih f (j + 1) a48 B (by omega) (by omega) hN).mono (fun r ⟨B', g1, g2⟩ => ⟨B', g1, g2.ext (fun z o => ex_skip (fun h => q (EE_aff hW h)))⟩)
    rw [af0]
    refine Rt.eqb rfl ?_
    by_cases c0 : cst y LO 0 (z0 + j % 2 * 2 ^ b) ≤ y (8 + 0)
    · refine Rt.iff (by rw [bI_0]; exact fun q => q c0) ?_
      rw [af1]
      refine Rt.eqb rfl ?_
      by_cases c1 : cst y LO 1 (o0 + j / 2 * 2 ^ b) ≤ y (8 + 1)
      · refine Rt.iff (by rw [bI_0]; exact fun q => q c1) ?_
        rw [x_chanceWith hW hB hb (st_both hz ho hj)]
        refine Rt.eqb rfl (Rt.iff (by decide) ?_)
        have cr := chn_rng (y := y) (LO := LO) (b := b) (h := (((y 6).toNat : Nat) : Int)) (f := ((fv y (z0 + j % 2 * 2 ^ b) (o0 + j / 2 * 2 ^ b) b : Nat) : Int)) (m := 0)
        have hq := hW.quota
        have wr := wnO_rng (y := y) (LO := LO) (bn := (y 4).toNat) (q := (y 5).toNat) (z := z0 + j % 2 * 2 ^ b) (o := o0 + j / 2 * 2 ^ b)
        have ev : x6 + x8 * (i32 (chn y LO b (((y 6).toNat : Nat) : Int) ((fv y (z0 + j % 2 * 2 ^ b) (o0 + j / 2 * 2 ^ b) b : Nat) : Int) 0)).toInt64 = i64 (wn y LO (z0 + j % 2 * 2 ^ b) (o0 + j / 2 * 2 ^ b)) := by
          rw [wn_last hW hlast hb8, st_cl hz ho (by omega) (by omega) ht, i32_64 (by omega) (by omega), e6, e8, i64_mul, i64_add]
          have la := al_cons (L := (cl (y 4).toNat.testBit (chs y LO z0 o0) b)) (p := chs y LO (z0 + j % 2 * 2 ^ b) (o0 + j / 2 * 2 ^ b) b) (q := (y 5).toNat - 1) (by have := cl_len (y 4).toNat.testBit (chs y LO z0 o0) b; omega)
          rw [show (y 5).toNat - 1 + 1 = (y 5).toNat by omega] at la
          rw [la]
        refine Rt.bind (x_note hN (W := wn y LO) (by omega) (by omega) ev wr.1 wr.2) (fun r2 ⟨B1, n1, n2⟩ => ?_)
        rw [i32_p1]
        exact (ih f (j + 1) r2 B1 (by omega) (by omega) n1).mono (fun r ⟨B', g1, g2⟩ => ⟨B', g1, (n2.comp g2).ext (fun z o => ex_take hj (EE_last hW hlast (st_sub hz (by omega) sz ht) (st_sub ho (by omega) so ht) c0 c1 z o))⟩)
      · exact Rt.ift (by rw [bI_0]; exact c1) (skip (fun q => c1 q.2))
    · exact Rt.ift (by rw [bI_0]; exact c0) (skip (fun q => c0 q.1))
theorem x_pn5 (hFu : 6000 ≤ Fu) {vb vs vsd vq : Int32} {a43 a44 a46 a47 a49 : Nat → Int32} (hW : WF y) (hB : BK y LO vb vs vsd vq a43 a44 a46 a47 a49) {b z0 o0 : Nat} (ht : (y 4).toNat.testBit b = true) (hK : bcn (y 4).toNat b = 5) {c : Nat} (hc : b + 1 ≤ c) (htc : (y 4).toNat.testBit c = true) (hKc : bcn (y 4).toNat c = 6) (hgap : ∀ k, b + 1 ≤ k → k < c → (y 4).toNat.testBit k = false) (hz : z0 < 2 ^ b) (ho : o0 < 2 ^ b) (sz : z0 &&& (y 4).toNat = z0) (so : o0 &&& (y 4).toNat = o0) {x6 x8 : Int64} {t5 : Int32} {w5 : Nat → Int64} (hT : RT (cl (y 4).toNat.testBit (chs y LO z0 o0) b) t5 w5) :
    ∀ (d f j : Nat) (a48 : Nat → Int64) (B : Nat → Int) (t6 : Int32) (w6 : Nat → Int64) (t7 : Int32) (w7 : Nat → Int64), j + d = 4 → d < f → NB a48 B → Rt (fX1_pairFrom_p5_L91 Fu f vsd vq a43 a44 a46 a47 a48 a49 t5 w5 t6 w6 t7 w7 (i32 (z0 : Int)) (i32 (o0 : Int)) (i32 (b : Int)) 0 x6 x8 (i32 (j : Int))) (fun r => ∃ B', NB r.1 B' ∧ Nt (wn y LO) B B' (fun z o => ∃ i, j ≤ i ∧ i < 4 ∧ EE y LO (b + 1) (z0 + i % 2 * 2 ^ b) (o0 + i / 2 * 2 ^ b) z o)) := by
  obtain ⟨hb, hb8⟩ := seat_rng hW ht
  have h0 := hW.1
  intro d
  induction d with
  | zero =>
    intro f j a48 B t6 w6 t7 w7 hjd hf hN
    obtain ⟨f, rfl⟩ : ∃ g, f = g + 1 := ⟨f - 1, by omega⟩
    rw [fX1_pairFrom_p5_L91]
    exact Rt.ift (by rw [i32_litN 3, i32_lt (by omega) (by omega) (by omega) (by omega)]; omega) (Rt.ret ⟨B, hN, Nt.none (fun z o ⟨i, h1, h2, _⟩ => by omega)⟩)
  | succ d ih =>
    intro f j a48 B t6 w6 t7 w7 hjd hf hN
    obtain ⟨f, rfl⟩ : ∃ g, f = g + 1 := ⟨f - 1, by omega⟩
    have hj : j < 4 := by omega
    rw [fX1_pairFrom_p5_L91]
    refine Rt.iff (by rw [i32_litN 3, i32_lt (by omega) (by omega) (by omega) (by omega)]; omega) ?_
    rw [st_zero hb8 hz hj, st_one hb8 ho hj]
    have l1 := st_lt (b := b) (e := j % 2) hz (by omega)
    have l2 := st_lt (b := b) (e := j / 2) ho (by omega)
    have p8 : 2 ^ (b + 1) ≤ 2 ^ (y 0).toNat := Nat.pow_le_pow_right (by omega) (by omega)
    have p9 := p2_256 hW
    have af0 : fX1_affords a46 a47 0 (i32 ((z0 + j % 2 * 2 ^ b : Nat) : Int)) = some (bI (cst y LO 0 (z0 + j % 2 * 2 ^ b) ≤ y (8 + 0))) := x_affords hW hB (sd := 0) (by omega) (Nat.lt_of_lt_of_le l1 p8)
    have af1 : fX1_affords a46 a47 1 (i32 ((o0 + j / 2 * 2 ^ b : Nat) : Int)) = some (bI (cst y LO 1 (o0 + j / 2 * 2 ^ b) ≤ y (8 + 1))) := x_affords hW hB (sd := 1) (by omega) (Nat.lt_of_lt_of_le l2 p8)
    have skip : ¬ (cst y LO 0 (z0 + j % 2 * 2 ^ b) ≤ y (8 + 0) ∧ cst y LO 1 (o0 + j / 2 * 2 ^ b) ≤ y (8 + 1)) → Rt (fX1_pairFrom_p5_L91 Fu f vsd vq a43 a44 a46 a47 a48 a49 t5 w5 t6 w6 t7 w7 (i32 (z0 : Int)) (i32 (o0 : Int)) (i32 (b : Int)) 0 x6 x8 (i32 (j : Int) + 1)) (fun r => ∃ B', NB r.1 B' ∧ Nt (wn y LO) B B' (fun z o => ∃ i, j ≤ i ∧ i < 4 ∧ EE y LO (b + 1) (z0 + i % 2 * 2 ^ b) (o0 + i / 2 * 2 ^ b) z o)) := by
      intro q
      rw [i32_p1]
      exact (ih f (j + 1) a48 B t6 w6 t7 w7 (by omega) (by omega) hN).mono (fun r ⟨B', g1, g2⟩ => ⟨B', g1, g2.ext (fun z o => ex_skip (fun h => q (EE_aff hW h)))⟩)
    rw [af0]
    refine Rt.eqb rfl ?_
    by_cases c0 : cst y LO 0 (z0 + j % 2 * 2 ^ b) ≤ y (8 + 0)
    · refine Rt.iff (by rw [bI_0]; exact fun q => q c0) ?_
      rw [af1]
      refine Rt.eqb rfl ?_
      by_cases c1 : cst y LO 1 (o0 + j / 2 * 2 ^ b) ≤ y (8 + 1)
      · refine Rt.iff (by rw [bI_0]; exact fun q => q c1) ?_
        rw [x_chanceWith hW hB hb (st_both hz ho hj)]
        refine Rt.eqb rfl (Rt.ift rfl ?_)
        have cr := chn_rng (y := y) (LO := LO) (b := b) (h := (((y 6).toNat : Nat) : Int)) (f := ((fv y (z0 + j % 2 * 2 ^ b) (o0 + j / 2 * 2 ^ b) b : Nat) : Int)) (m := 0)
        refine Rt.bind (x_voteAfter hFu cr.1 cr.2 hT (by rw [cl_cnt, hK]; omega)) (fun r1 hr1 => ?_)
        have hT2 : RT (cl (y 4).toNat.testBit (chs y LO (z0 + j % 2 * 2 ^ b) (o0 + j / 2 * 2 ^ b)) c) r1.1 r1.2 := by
          have e := cl_gap (t := (y 4).toNat.testBit) (p := chs y LO (z0 + j % 2 * 2 ^ b) (o0 + j / 2 * 2 ^ b)) (c - (b + 1)) (b + 1) (fun k k1 k2 => hgap k k1 (by omega))
          rw [show b + 1 + (c - (b + 1)) = c by omega] at e
          rw [e, st_cl hz ho (by omega) (by omega) ht]; exact hr1
        have pc : 2 ^ (b + 1) ≤ 2 ^ c := Nat.pow_le_pow_right (by omega) hc
        refine Rt.bind (x_pf6 hFu hW hB (b := c) htc hKc (Nat.lt_of_lt_of_le l1 pc) (Nat.lt_of_lt_of_le l2 pc) (st_sub hz (by omega) sz ht) (st_sub ho (by omega) so ht) hT2 a48 B _ _ hN) (fun r2 ⟨B1, n1, n2⟩ => ?_)
        rw [i32_p1]
        exact (ih f (j + 1) r2.1 B1 r1.1 r1.2 r2.2.1 r2.2.2 (by omega) (by omega) n1).mono (fun r ⟨B', g1, g2⟩ => ⟨B', g1, (n2.comp g2).ext (fun z o => ex_take hj (EE_skip hc hgap))⟩)
      · exact Rt.ift (by rw [bI_0]; exact c1) (skip (fun q => c1 q.2))
    · exact Rt.ift (by rw [bI_0]; exact c0) (skip (fun q => c0 q.1))
theorem x_pf5 (hFu : 6000 ≤ Fu) {vb vs vsd vq : Int32} {a43 a44 a46 a47 a49 : Nat → Int32} (hW : WF y) (hB : BK y LO vb vs vsd vq a43 a44 a46 a47 a49) {b z0 o0 : Nat} (ht : (y 4).toNat.testBit b = true) (hK : bcn (y 4).toNat b = 5) (hz : z0 < 2 ^ b) (ho : o0 < 2 ^ b) (sz : z0 &&& (y 4).toNat = z0) (so : o0 &&& (y 4).toNat = o0) {t5 : Int32} {w5 : Nat → Int64} (hT : RT (cl (y 4).toNat.testBit (chs y LO z0 o0) b) t5 w5) (a48 : Nat → Int64) (B : Nat → Int) (t6 : Int32) (w6 : Nat → Int64) (t7 : Int32) (w7 : Nat → Int64) (hN : NB a48 B) : Rt (fX1_pairFrom_p5 Fu vsd vq a43 a44 a46 a47 a48 a49 t5 w5 t6 w6 t7 w7 (i32 (z0 : Int)) (i32 (o0 : Int))) (fun r => ∃ B', NB r.1 B' ∧ Nt (wn y LO) B B' (EE y LO b z0 o0)) := by
  obtain ⟨hb, hb8⟩ := seat_rng hW ht
  obtain ⟨s, n, e4, e0, hn, hs1, hs, hbn⟩ := hW.seats
  have e1 : bcn (y 4).toNat (b + 1) = 6 := by show bcn (y 4).toNat b + (if (y 4).toNat.testBit b then 1 else 0) = _; rw [ht, hK]; rfl
  have mo := bcn_mono (s := (y 4).toNat) (a := b + 1) (8 - (b + 1))
  rw [show b + 1 + (8 - (b + 1)) = 8 by omega] at mo
  have b8 := bcn_le (y 4).toNat 8
  have hq := hW.quota
  have ev := hB.2.2.2.1
  have eqn : vq = i32 (((y 5).toNat : Nat) : Int) := by rw [hB.2.2.1]; congr 1; omega
  have ha : fX8_atLeast Fu t5 w5 vq = some (i64 (al (cl (y 4).toNat.testBit (chs y LO z0 o0) b) (y 5).toNat)) := by rw [eqn]; exact x_atLeast hFu hT (by omega)
  have hj : fX8_just t5 w5 (vq - 1) = some (i64 (vt (cl (y 4).toNat.testBit (chs y LO z0 o0) b) ((y 5).toNat - 1))) := by
    rw [eqn, show i32 (((y 5).toNat : Nat) : Int) - 1 = i32 ((((y 5).toNat - 1 : Nat) : Nat) : Int) by rw [i32_litN 1, i32_sub]; congr 1; omega, x_just hT (by omega) (by omega), if_neg (by omega), Int.toNat_natCast]
  have ea : a49 (OfNat.ofNat 5 : Int32).toNatClampNeg = i32 (b : Int) := by rw [i32_nn9 (by decide), ← hK]; exact hB.2.2.2.2.2.2.2.2 b hb ht
  have fin : ∀ {a : Nat → Int64}, (∃ B', NB a B' ∧ Nt (wn y LO) B B' (fun z o => ∃ i, 0 ≤ i ∧ i < 4 ∧ EE y LO (b + 1) (z0 + i % 2 * 2 ^ b) (o0 + i / 2 * 2 ^ b) z o)) → ∃ B', NB a B' ∧ Nt (wn y LO) B B' (EE y LO b z0 o0) := by
    rintro a ⟨B', g1, g2⟩
    refine ⟨B', g1, g2.ext (fun z o => ?_)⟩
    rw [EE_four hz ho]
    exact ⟨fun ⟨i, h1, h2⟩ => ⟨i, by omega, h1, h2⟩, fun ⟨i, _, h1, h2⟩ => ⟨i, h1, h2⟩⟩
  unfold fX1_pairFrom_p5
  rw [ea]
  refine Rt.ift (by rw [ev, i32_litN 5, i32_lt (by omega) (by omega) (by omega) (by omega)]; omega) ?_
  rw [gd9 (by decide) (by decide)]
  by_cases cl : bcn (y 4).toNat 8 = 6
  · refine Rt.iff (by rw [ev, i32_litN 6, i32_lt (by omega) (by omega) (by omega) (by omega)]; omega) ?_
    unfold fX1_pairFrom_p5_L32
    refine Rt.iff (by decide) ?_
    rw [ha]
    refine Rt.eqb rfl ?_
    unfold fX1_pairFrom_p5_L60
    refine Rt.iff (by decide) ?_
    rw [hj]
    refine Rt.eqb rfl ?_
    unfold fX1_pairFrom_p5_L86
    exact (x_pl5 hFu hW hB ht (seat_last hb8 ht hK cl (by omega)) hz ho sz so (i64_mul _ 100) rfl 4 Fu 0 a48 B (by omega) (by omega) hN).mono (fun r hr => fin hr)
  · obtain ⟨c, c1, c2, c3, c4, c5⟩ := seat_next hb8 ht hK (by omega)
    refine Rt.ift (by rw [ev, i32_litN 6, i32_lt (by omega) (by omega) (by omega) (by omega)]; omega) ?_
    unfold fX1_pairFrom_p5_L32
    refine Rt.ift rfl ?_
    unfold fX1_pairFrom_p5_L60
    refine Rt.ift rfl ?_
    unfold fX1_pairFrom_p5_L86
    exact (x_pn5 hFu hW hB ht hK c1 c3 c4 c5 hz ho sz so hT 4 Fu 0 a48 B t6 w6 t7 w7 (by omega) (by omega) hN).mono (fun r hr => fin hr)
theorem x_pl4 (hFu : 6000 ≤ Fu) {vb vs vsd vq : Int32} {a43 a44 a46 a47 a49 : Nat → Int32} (hW : WF y) (hB : BK y LO vb vs vsd vq a43 a44 a46 a47 a49) {b z0 o0 : Nat} (ht : (y 4).toNat.testBit b = true) (hlast : ∀ k, b + 1 ≤ k → (y 4).toNat.testBit k = false) (hz : z0 < 2 ^ b) (ho : o0 < 2 ^ b) (sz : z0 &&& (y 4).toNat = z0) (so : o0 &&& (y 4).toNat = o0) {x6 x8 : Int64} (e6 : x6 = i64 (al (cl (y 4).toNat.testBit (chs y LO z0 o0) b) (y 5).toNat * 100)) (e8 : x8 = i64 (vt (cl (y 4).toNat.testBit (chs y LO z0 o0) b) ((y 5).toNat - 1))) {t4 : Int32} {w4 : Nat → Int64} {t5 : Int32} {w5 : Nat → Int64} {t6 : Int32} {w6 : Nat → Int64} {t7 : Int32} {w7 : Nat → Int64} :
    ∀ (d f j : Nat) (a48 : Nat → Int64) (B : Nat → Int), j + d = 4 → d < f → NB a48 B → Rt (fX1_pairFrom_p4_L91 Fu f vsd vq a43 a44 a46 a47 a48 a49 t4 w4 t5 w5 t6 w6 t7 w7 (i32 (z0 : Int)) (i32 (o0 : Int)) (i32 (b : Int)) 1 x6 x8 (i32 (j : Int))) (fun r => ∃ B', NB r.1 B' ∧ Nt (wn y LO) B B' (fun z o => ∃ i, j ≤ i ∧ i < 4 ∧ EE y LO (b + 1) (z0 + i % 2 * 2 ^ b) (o0 + i / 2 * 2 ^ b) z o)) := by
  obtain ⟨hb, hb8⟩ := seat_rng hW ht
  have h0 := hW.1
  intro d
  induction d with
  | zero =>
    intro f j a48 B hjd hf hN
    obtain ⟨f, rfl⟩ : ∃ g, f = g + 1 := ⟨f - 1, by omega⟩
    rw [fX1_pairFrom_p4_L91]
    exact Rt.ift (by rw [i32_litN 3, i32_lt (by omega) (by omega) (by omega) (by omega)]; omega) (Rt.ret ⟨B, hN, Nt.none (fun z o ⟨i, h1, h2, _⟩ => by omega)⟩)
  | succ d ih =>
    intro f j a48 B hjd hf hN
    obtain ⟨f, rfl⟩ : ∃ g, f = g + 1 := ⟨f - 1, by omega⟩
    have hj : j < 4 := by omega
    rw [fX1_pairFrom_p4_L91]
    refine Rt.iff (by rw [i32_litN 3, i32_lt (by omega) (by omega) (by omega) (by omega)]; omega) ?_
    rw [st_zero hb8 hz hj, st_one hb8 ho hj]
    have l1 := st_lt (b := b) (e := j % 2) hz (by omega)
    have l2 := st_lt (b := b) (e := j / 2) ho (by omega)
    have p8 : 2 ^ (b + 1) ≤ 2 ^ (y 0).toNat := Nat.pow_le_pow_right (by omega) (by omega)
    have p9 := p2_256 hW
    have af0 : fX1_affords a46 a47 0 (i32 ((z0 + j % 2 * 2 ^ b : Nat) : Int)) = some (bI (cst y LO 0 (z0 + j % 2 * 2 ^ b) ≤ y (8 + 0))) := x_affords hW hB (sd := 0) (by omega) (Nat.lt_of_lt_of_le l1 p8)
    have af1 : fX1_affords a46 a47 1 (i32 ((o0 + j / 2 * 2 ^ b : Nat) : Int)) = some (bI (cst y LO 1 (o0 + j / 2 * 2 ^ b) ≤ y (8 + 1))) := x_affords hW hB (sd := 1) (by omega) (Nat.lt_of_lt_of_le l2 p8)
    have skip : ¬ (cst y LO 0 (z0 + j % 2 * 2 ^ b) ≤ y (8 + 0) ∧ cst y LO 1 (o0 + j / 2 * 2 ^ b) ≤ y (8 + 1)) → Rt (fX1_pairFrom_p4_L91 Fu f vsd vq a43 a44 a46 a47 a48 a49 t4 w4 t5 w5 t6 w6 t7 w7 (i32 (z0 : Int)) (i32 (o0 : Int)) (i32 (b : Int)) 1 x6 x8 (i32 (j : Int) + 1)) (fun r => ∃ B', NB r.1 B' ∧ Nt (wn y LO) B B' (fun z o => ∃ i, j ≤ i ∧ i < 4 ∧ EE y LO (b + 1) (z0 + i % 2 * 2 ^ b) (o0 + i / 2 * 2 ^ b) z o)) := by
      intro q
      rw [i32_p1]
      exact (ih f (j + 1) a48 B (by omega) (by omega) hN).mono (fun r ⟨B', g1, g2⟩ => ⟨B', g1, g2.ext (fun z o => ex_skip (fun h => q (EE_aff hW h)))⟩)
    rw [af0]
    refine Rt.eqb rfl ?_
    by_cases c0 : cst y LO 0 (z0 + j % 2 * 2 ^ b) ≤ y (8 + 0)
    · refine Rt.iff (by rw [bI_0]; exact fun q => q c0) ?_
      rw [af1]
      refine Rt.eqb rfl ?_
      by_cases c1 : cst y LO 1 (o0 + j / 2 * 2 ^ b) ≤ y (8 + 1)
      · refine Rt.iff (by rw [bI_0]; exact fun q => q c1) ?_
        rw [x_chanceWith hW hB hb (st_both hz ho hj)]
        refine Rt.eqb rfl (Rt.iff (by decide) ?_)
        have cr := chn_rng (y := y) (LO := LO) (b := b) (h := (((y 6).toNat : Nat) : Int)) (f := ((fv y (z0 + j % 2 * 2 ^ b) (o0 + j / 2 * 2 ^ b) b : Nat) : Int)) (m := 0)
        have hq := hW.quota
        have wr := wnO_rng (y := y) (LO := LO) (bn := (y 4).toNat) (q := (y 5).toNat) (z := z0 + j % 2 * 2 ^ b) (o := o0 + j / 2 * 2 ^ b)
        have ev : x6 + x8 * (i32 (chn y LO b (((y 6).toNat : Nat) : Int) ((fv y (z0 + j % 2 * 2 ^ b) (o0 + j / 2 * 2 ^ b) b : Nat) : Int) 0)).toInt64 = i64 (wn y LO (z0 + j % 2 * 2 ^ b) (o0 + j / 2 * 2 ^ b)) := by
          rw [wn_last hW hlast hb8, st_cl hz ho (by omega) (by omega) ht, i32_64 (by omega) (by omega), e6, e8, i64_mul, i64_add]
          have la := al_cons (L := (cl (y 4).toNat.testBit (chs y LO z0 o0) b)) (p := chs y LO (z0 + j % 2 * 2 ^ b) (o0 + j / 2 * 2 ^ b) b) (q := (y 5).toNat - 1) (by have := cl_len (y 4).toNat.testBit (chs y LO z0 o0) b; omega)
          rw [show (y 5).toNat - 1 + 1 = (y 5).toNat by omega] at la
          rw [la]
        refine Rt.bind (x_note hN (W := wn y LO) (by omega) (by omega) ev wr.1 wr.2) (fun r2 ⟨B1, n1, n2⟩ => ?_)
        rw [i32_p1]
        exact (ih f (j + 1) r2 B1 (by omega) (by omega) n1).mono (fun r ⟨B', g1, g2⟩ => ⟨B', g1, (n2.comp g2).ext (fun z o => ex_take hj (EE_last hW hlast (st_sub hz (by omega) sz ht) (st_sub ho (by omega) so ht) c0 c1 z o))⟩)
      · exact Rt.ift (by rw [bI_0]; exact c1) (skip (fun q => c1 q.2))
    · exact Rt.ift (by rw [bI_0]; exact c0) (skip (fun q => c0 q.1))
theorem x_pn4 (hFu : 6000 ≤ Fu) {vb vs vsd vq : Int32} {a43 a44 a46 a47 a49 : Nat → Int32} (hW : WF y) (hB : BK y LO vb vs vsd vq a43 a44 a46 a47 a49) {b z0 o0 : Nat} (ht : (y 4).toNat.testBit b = true) (hK : bcn (y 4).toNat b = 4) {c : Nat} (hc : b + 1 ≤ c) (htc : (y 4).toNat.testBit c = true) (hKc : bcn (y 4).toNat c = 5) (hgap : ∀ k, b + 1 ≤ k → k < c → (y 4).toNat.testBit k = false) (hz : z0 < 2 ^ b) (ho : o0 < 2 ^ b) (sz : z0 &&& (y 4).toNat = z0) (so : o0 &&& (y 4).toNat = o0) {x6 x8 : Int64} {t4 : Int32} {w4 : Nat → Int64} (hT : RT (cl (y 4).toNat.testBit (chs y LO z0 o0) b) t4 w4) :
    ∀ (d f j : Nat) (a48 : Nat → Int64) (B : Nat → Int) (t5 : Int32) (w5 : Nat → Int64) (t6 : Int32) (w6 : Nat → Int64) (t7 : Int32) (w7 : Nat → Int64), j + d = 4 → d < f → NB a48 B → Rt (fX1_pairFrom_p4_L91 Fu f vsd vq a43 a44 a46 a47 a48 a49 t4 w4 t5 w5 t6 w6 t7 w7 (i32 (z0 : Int)) (i32 (o0 : Int)) (i32 (b : Int)) 0 x6 x8 (i32 (j : Int))) (fun r => ∃ B', NB r.1 B' ∧ Nt (wn y LO) B B' (fun z o => ∃ i, j ≤ i ∧ i < 4 ∧ EE y LO (b + 1) (z0 + i % 2 * 2 ^ b) (o0 + i / 2 * 2 ^ b) z o)) := by
  obtain ⟨hb, hb8⟩ := seat_rng hW ht
  have h0 := hW.1
  intro d
  induction d with
  | zero =>
    intro f j a48 B t5 w5 t6 w6 t7 w7 hjd hf hN
    obtain ⟨f, rfl⟩ : ∃ g, f = g + 1 := ⟨f - 1, by omega⟩
    rw [fX1_pairFrom_p4_L91]
    exact Rt.ift (by rw [i32_litN 3, i32_lt (by omega) (by omega) (by omega) (by omega)]; omega) (Rt.ret ⟨B, hN, Nt.none (fun z o ⟨i, h1, h2, _⟩ => by omega)⟩)
  | succ d ih =>
    intro f j a48 B t5 w5 t6 w6 t7 w7 hjd hf hN
    obtain ⟨f, rfl⟩ : ∃ g, f = g + 1 := ⟨f - 1, by omega⟩
    have hj : j < 4 := by omega
    rw [fX1_pairFrom_p4_L91]
    refine Rt.iff (by rw [i32_litN 3, i32_lt (by omega) (by omega) (by omega) (by omega)]; omega) ?_
    rw [st_zero hb8 hz hj, st_one hb8 ho hj]
    have l1 := st_lt (b := b) (e := j % 2) hz (by omega)
    have l2 := st_lt (b := b) (e := j / 2) ho (by omega)
    have p8 : 2 ^ (b + 1) ≤ 2 ^ (y 0).toNat := Nat.pow_le_pow_right (by omega) (by omega)
    have p9 := p2_256 hW
    have af0 : fX1_affords a46 a47 0 (i32 ((z0 + j % 2 * 2 ^ b : Nat) : Int)) = some (bI (cst y LO 0 (z0 + j % 2 * 2 ^ b) ≤ y (8 + 0))) := x_affords hW hB (sd := 0) (by omega) (Nat.lt_of_lt_of_le l1 p8)
    have af1 : fX1_affords a46 a47 1 (i32 ((o0 + j / 2 * 2 ^ b : Nat) : Int)) = some (bI (cst y LO 1 (o0 + j / 2 * 2 ^ b) ≤ y (8 + 1))) := x_affords hW hB (sd := 1) (by omega) (Nat.lt_of_lt_of_le l2 p8)
    have skip : ¬ (cst y LO 0 (z0 + j % 2 * 2 ^ b) ≤ y (8 + 0) ∧ cst y LO 1 (o0 + j / 2 * 2 ^ b) ≤ y (8 + 1)) → Rt (fX1_pairFrom_p4_L91 Fu f vsd vq a43 a44 a46 a47 a48 a49 t4 w4 t5 w5 t6 w6 t7 w7 (i32 (z0 : Int)) (i32 (o0 : Int)) (i32 (b : Int)) 0 x6 x8 (i32 (j : Int) + 1)) (fun r => ∃ B', NB r.1 B' ∧ Nt (wn y LO) B B' (fun z o => ∃ i, j ≤ i ∧ i < 4 ∧ EE y LO (b + 1) (z0 + i % 2 * 2 ^ b) (o0 + i / 2 * 2 ^ b) z o)) := by
      intro q
      rw [i32_p1]
      exact (ih f (j + 1) a48 B t5 w5 t6 w6 t7 w7 (by omega) (by omega) hN).mono (fun r ⟨B', g1, g2⟩ => ⟨B', g1, g2.ext (fun z o => ex_skip (fun h => q (EE_aff hW h)))⟩)
    rw [af0]
    refine Rt.eqb rfl ?_
    by_cases c0 : cst y LO 0 (z0 + j % 2 * 2 ^ b) ≤ y (8 + 0)
    · refine Rt.iff (by rw [bI_0]; exact fun q => q c0) ?_
      rw [af1]
      refine Rt.eqb rfl ?_
      by_cases c1 : cst y LO 1 (o0 + j / 2 * 2 ^ b) ≤ y (8 + 1)
      · refine Rt.iff (by rw [bI_0]; exact fun q => q c1) ?_
        rw [x_chanceWith hW hB hb (st_both hz ho hj)]
        refine Rt.eqb rfl (Rt.ift rfl ?_)
        have cr := chn_rng (y := y) (LO := LO) (b := b) (h := (((y 6).toNat : Nat) : Int)) (f := ((fv y (z0 + j % 2 * 2 ^ b) (o0 + j / 2 * 2 ^ b) b : Nat) : Int)) (m := 0)
        refine Rt.bind (x_voteAfter hFu cr.1 cr.2 hT (by rw [cl_cnt, hK]; omega)) (fun r1 hr1 => ?_)
        have hT2 : RT (cl (y 4).toNat.testBit (chs y LO (z0 + j % 2 * 2 ^ b) (o0 + j / 2 * 2 ^ b)) c) r1.1 r1.2 := by
          have e := cl_gap (t := (y 4).toNat.testBit) (p := chs y LO (z0 + j % 2 * 2 ^ b) (o0 + j / 2 * 2 ^ b)) (c - (b + 1)) (b + 1) (fun k k1 k2 => hgap k k1 (by omega))
          rw [show b + 1 + (c - (b + 1)) = c by omega] at e
          rw [e, st_cl hz ho (by omega) (by omega) ht]; exact hr1
        have pc : 2 ^ (b + 1) ≤ 2 ^ c := Nat.pow_le_pow_right (by omega) hc
        refine Rt.bind (x_pf5 hFu hW hB (b := c) htc hKc (Nat.lt_of_lt_of_le l1 pc) (Nat.lt_of_lt_of_le l2 pc) (st_sub hz (by omega) sz ht) (st_sub ho (by omega) so ht) hT2 a48 B _ _ _ _ hN) (fun r2 ⟨B1, n1, n2⟩ => ?_)
        rw [i32_p1]
        exact (ih f (j + 1) r2.1 B1 r1.1 r1.2 r2.2.1 r2.2.2.1 r2.2.2.2.1 r2.2.2.2.2 (by omega) (by omega) n1).mono (fun r ⟨B', g1, g2⟩ => ⟨B', g1, (n2.comp g2).ext (fun z o => ex_take hj (EE_skip hc hgap))⟩)
      · exact Rt.ift (by rw [bI_0]; exact c1) (skip (fun q => c1 q.2))
    · exact Rt.ift (by rw [bI_0]; exact c0) (skip (fun q => c0 q.1))
theorem x_pf4 (hFu : 6000 ≤ Fu) {vb vs vsd vq : Int32} {a43 a44 a46 a47 a49 : Nat → Int32} (hW : WF y) (hB : BK y LO vb vs vsd vq a43 a44 a46 a47 a49) {b z0 o0 : Nat} (ht : (y 4).toNat.testBit b = true) (hK : bcn (y 4).toNat b = 4) (hz : z0 < 2 ^ b) (ho : o0 < 2 ^ b) (sz : z0 &&& (y 4).toNat = z0) (so : o0 &&& (y 4).toNat = o0) {t4 : Int32} {w4 : Nat → Int64} (hT : RT (cl (y 4).toNat.testBit (chs y LO z0 o0) b) t4 w4) (a48 : Nat → Int64) (B : Nat → Int) (t5 : Int32) (w5 : Nat → Int64) (t6 : Int32) (w6 : Nat → Int64) (t7 : Int32) (w7 : Nat → Int64) (hN : NB a48 B) : Rt (fX1_pairFrom_p4 Fu vsd vq a43 a44 a46 a47 a48 a49 t4 w4 t5 w5 t6 w6 t7 w7 (i32 (z0 : Int)) (i32 (o0 : Int))) (fun r => ∃ B', NB r.1 B' ∧ Nt (wn y LO) B B' (EE y LO b z0 o0)) := by
  obtain ⟨hb, hb8⟩ := seat_rng hW ht
  obtain ⟨s, n, e4, e0, hn, hs1, hs, hbn⟩ := hW.seats
  have e1 : bcn (y 4).toNat (b + 1) = 5 := by show bcn (y 4).toNat b + (if (y 4).toNat.testBit b then 1 else 0) = _; rw [ht, hK]; rfl
  have mo := bcn_mono (s := (y 4).toNat) (a := b + 1) (8 - (b + 1))
  rw [show b + 1 + (8 - (b + 1)) = 8 by omega] at mo
  have b8 := bcn_le (y 4).toNat 8
  have hq := hW.quota
  have ev := hB.2.2.2.1
  have eqn : vq = i32 (((y 5).toNat : Nat) : Int) := by rw [hB.2.2.1]; congr 1; omega
  have ha : fX8_atLeast Fu t4 w4 vq = some (i64 (al (cl (y 4).toNat.testBit (chs y LO z0 o0) b) (y 5).toNat)) := by rw [eqn]; exact x_atLeast hFu hT (by omega)
  have hj : fX8_just t4 w4 (vq - 1) = some (i64 (vt (cl (y 4).toNat.testBit (chs y LO z0 o0) b) ((y 5).toNat - 1))) := by
    rw [eqn, show i32 (((y 5).toNat : Nat) : Int) - 1 = i32 ((((y 5).toNat - 1 : Nat) : Nat) : Int) by rw [i32_litN 1, i32_sub]; congr 1; omega, x_just hT (by omega) (by omega), if_neg (by omega), Int.toNat_natCast]
  have ea : a49 (OfNat.ofNat 4 : Int32).toNatClampNeg = i32 (b : Int) := by rw [i32_nn9 (by decide), ← hK]; exact hB.2.2.2.2.2.2.2.2 b hb ht
  have fin : ∀ {a : Nat → Int64}, (∃ B', NB a B' ∧ Nt (wn y LO) B B' (fun z o => ∃ i, 0 ≤ i ∧ i < 4 ∧ EE y LO (b + 1) (z0 + i % 2 * 2 ^ b) (o0 + i / 2 * 2 ^ b) z o)) → ∃ B', NB a B' ∧ Nt (wn y LO) B B' (EE y LO b z0 o0) := by
    rintro a ⟨B', g1, g2⟩
    refine ⟨B', g1, g2.ext (fun z o => ?_)⟩
    rw [EE_four hz ho]
    exact ⟨fun ⟨i, h1, h2⟩ => ⟨i, by omega, h1, h2⟩, fun ⟨i, _, h1, h2⟩ => ⟨i, h1, h2⟩⟩
  unfold fX1_pairFrom_p4
  rw [ea]
  refine Rt.ift (by rw [ev, i32_litN 4, i32_lt (by omega) (by omega) (by omega) (by omega)]; omega) ?_
  rw [gd9 (by decide) (by decide)]
  by_cases cl : bcn (y 4).toNat 8 = 5
  · refine Rt.iff (by rw [ev, i32_litN 5, i32_lt (by omega) (by omega) (by omega) (by omega)]; omega) ?_
    unfold fX1_pairFrom_p4_L32
    refine Rt.iff (by decide) ?_
    rw [ha]
    refine Rt.eqb rfl ?_
    unfold fX1_pairFrom_p4_L60
    refine Rt.iff (by decide) ?_
    rw [hj]
    refine Rt.eqb rfl ?_
    unfold fX1_pairFrom_p4_L86
    exact (x_pl4 hFu hW hB ht (seat_last hb8 ht hK cl (by omega)) hz ho sz so (i64_mul _ 100) rfl 4 Fu 0 a48 B (by omega) (by omega) hN).mono (fun r hr => fin hr)
  · obtain ⟨c, c1, c2, c3, c4, c5⟩ := seat_next hb8 ht hK (by omega)
    refine Rt.ift (by rw [ev, i32_litN 5, i32_lt (by omega) (by omega) (by omega) (by omega)]; omega) ?_
    unfold fX1_pairFrom_p4_L32
    refine Rt.ift rfl ?_
    unfold fX1_pairFrom_p4_L60
    refine Rt.ift rfl ?_
    unfold fX1_pairFrom_p4_L86
    exact (x_pn4 hFu hW hB ht hK c1 c3 c4 c5 hz ho sz so hT 4 Fu 0 a48 B t5 w5 t6 w6 t7 w7 (by omega) (by omega) hN).mono (fun r hr => fin hr)
theorem x_pl3 (hFu : 6000 ≤ Fu) {vb vs vsd vq : Int32} {a43 a44 a46 a47 a49 : Nat → Int32} (hW : WF y) (hB : BK y LO vb vs vsd vq a43 a44 a46 a47 a49) {b z0 o0 : Nat} (ht : (y 4).toNat.testBit b = true) (hlast : ∀ k, b + 1 ≤ k → (y 4).toNat.testBit k = false) (hz : z0 < 2 ^ b) (ho : o0 < 2 ^ b) (sz : z0 &&& (y 4).toNat = z0) (so : o0 &&& (y 4).toNat = o0) {x6 x8 : Int64} (e6 : x6 = i64 (al (cl (y 4).toNat.testBit (chs y LO z0 o0) b) (y 5).toNat * 100)) (e8 : x8 = i64 (vt (cl (y 4).toNat.testBit (chs y LO z0 o0) b) ((y 5).toNat - 1))) {t3 : Int32} {w3 : Nat → Int64} {t4 : Int32} {w4 : Nat → Int64} {t5 : Int32} {w5 : Nat → Int64} {t6 : Int32} {w6 : Nat → Int64} {t7 : Int32} {w7 : Nat → Int64} :
    ∀ (d f j : Nat) (a48 : Nat → Int64) (B : Nat → Int), j + d = 4 → d < f → NB a48 B → Rt (fX1_pairFrom_p3_L91 Fu f vsd vq a43 a44 a46 a47 a48 a49 t3 w3 t4 w4 t5 w5 t6 w6 t7 w7 (i32 (z0 : Int)) (i32 (o0 : Int)) (i32 (b : Int)) 1 x6 x8 (i32 (j : Int))) (fun r => ∃ B', NB r.1 B' ∧ Nt (wn y LO) B B' (fun z o => ∃ i, j ≤ i ∧ i < 4 ∧ EE y LO (b + 1) (z0 + i % 2 * 2 ^ b) (o0 + i / 2 * 2 ^ b) z o)) := by
  obtain ⟨hb, hb8⟩ := seat_rng hW ht
  have h0 := hW.1
  intro d
  induction d with
  | zero =>
    intro f j a48 B hjd hf hN
    obtain ⟨f, rfl⟩ : ∃ g, f = g + 1 := ⟨f - 1, by omega⟩
    rw [fX1_pairFrom_p3_L91]
    exact Rt.ift (by rw [i32_litN 3, i32_lt (by omega) (by omega) (by omega) (by omega)]; omega) (Rt.ret ⟨B, hN, Nt.none (fun z o ⟨i, h1, h2, _⟩ => by omega)⟩)
  | succ d ih =>
    intro f j a48 B hjd hf hN
    obtain ⟨f, rfl⟩ : ∃ g, f = g + 1 := ⟨f - 1, by omega⟩
    have hj : j < 4 := by omega
    rw [fX1_pairFrom_p3_L91]
    refine Rt.iff (by rw [i32_litN 3, i32_lt (by omega) (by omega) (by omega) (by omega)]; omega) ?_
    rw [st_zero hb8 hz hj, st_one hb8 ho hj]
    have l1 := st_lt (b := b) (e := j % 2) hz (by omega)
    have l2 := st_lt (b := b) (e := j / 2) ho (by omega)
    have p8 : 2 ^ (b + 1) ≤ 2 ^ (y 0).toNat := Nat.pow_le_pow_right (by omega) (by omega)
    have p9 := p2_256 hW
    have af0 : fX1_affords a46 a47 0 (i32 ((z0 + j % 2 * 2 ^ b : Nat) : Int)) = some (bI (cst y LO 0 (z0 + j % 2 * 2 ^ b) ≤ y (8 + 0))) := x_affords hW hB (sd := 0) (by omega) (Nat.lt_of_lt_of_le l1 p8)
    have af1 : fX1_affords a46 a47 1 (i32 ((o0 + j / 2 * 2 ^ b : Nat) : Int)) = some (bI (cst y LO 1 (o0 + j / 2 * 2 ^ b) ≤ y (8 + 1))) := x_affords hW hB (sd := 1) (by omega) (Nat.lt_of_lt_of_le l2 p8)
    have skip : ¬ (cst y LO 0 (z0 + j % 2 * 2 ^ b) ≤ y (8 + 0) ∧ cst y LO 1 (o0 + j / 2 * 2 ^ b) ≤ y (8 + 1)) → Rt (fX1_pairFrom_p3_L91 Fu f vsd vq a43 a44 a46 a47 a48 a49 t3 w3 t4 w4 t5 w5 t6 w6 t7 w7 (i32 (z0 : Int)) (i32 (o0 : Int)) (i32 (b : Int)) 1 x6 x8 (i32 (j : Int) + 1)) (fun r => ∃ B', NB r.1 B' ∧ Nt (wn y LO) B B' (fun z o => ∃ i, j ≤ i ∧ i < 4 ∧ EE y LO (b + 1) (z0 + i % 2 * 2 ^ b) (o0 + i / 2 * 2 ^ b) z o)) := by
      intro q
      rw [i32_p1]
      exact (ih f (j + 1) a48 B (by omega) (by omega) hN).mono (fun r ⟨B', g1, g2⟩ => ⟨B', g1, g2.ext (fun z o => ex_skip (fun h => q (EE_aff hW h)))⟩)
    rw [af0]
    refine Rt.eqb rfl ?_
    by_cases c0 : cst y LO 0 (z0 + j % 2 * 2 ^ b) ≤ y (8 + 0)
    · refine Rt.iff (by rw [bI_0]; exact fun q => q c0) ?_
      rw [af1]
      refine Rt.eqb rfl ?_
      by_cases c1 : cst y LO 1 (o0 + j / 2 * 2 ^ b) ≤ y (8 + 1)
      · refine Rt.iff (by rw [bI_0]; exact fun q => q c1) ?_
        rw [x_chanceWith hW hB hb (st_both hz ho hj)]
        refine Rt.eqb rfl (Rt.iff (by decide) ?_)
        have cr := chn_rng (y := y) (LO := LO) (b := b) (h := (((y 6).toNat : Nat) : Int)) (f := ((fv y (z0 + j % 2 * 2 ^ b) (o0 + j / 2 * 2 ^ b) b : Nat) : Int)) (m := 0)
        have hq := hW.quota
        have wr := wnO_rng (y := y) (LO := LO) (bn := (y 4).toNat) (q := (y 5).toNat) (z := z0 + j % 2 * 2 ^ b) (o := o0 + j / 2 * 2 ^ b)
        have ev : x6 + x8 * (i32 (chn y LO b (((y 6).toNat : Nat) : Int) ((fv y (z0 + j % 2 * 2 ^ b) (o0 + j / 2 * 2 ^ b) b : Nat) : Int) 0)).toInt64 = i64 (wn y LO (z0 + j % 2 * 2 ^ b) (o0 + j / 2 * 2 ^ b)) := by
          rw [wn_last hW hlast hb8, st_cl hz ho (by omega) (by omega) ht, i32_64 (by omega) (by omega), e6, e8, i64_mul, i64_add]
          have la := al_cons (L := (cl (y 4).toNat.testBit (chs y LO z0 o0) b)) (p := chs y LO (z0 + j % 2 * 2 ^ b) (o0 + j / 2 * 2 ^ b) b) (q := (y 5).toNat - 1) (by have := cl_len (y 4).toNat.testBit (chs y LO z0 o0) b; omega)
          rw [show (y 5).toNat - 1 + 1 = (y 5).toNat by omega] at la
          rw [la]
        refine Rt.bind (x_note hN (W := wn y LO) (by omega) (by omega) ev wr.1 wr.2) (fun r2 ⟨B1, n1, n2⟩ => ?_)
        rw [i32_p1]
        exact (ih f (j + 1) r2 B1 (by omega) (by omega) n1).mono (fun r ⟨B', g1, g2⟩ => ⟨B', g1, (n2.comp g2).ext (fun z o => ex_take hj (EE_last hW hlast (st_sub hz (by omega) sz ht) (st_sub ho (by omega) so ht) c0 c1 z o))⟩)
      · exact Rt.ift (by rw [bI_0]; exact c1) (skip (fun q => c1 q.2))
    · exact Rt.ift (by rw [bI_0]; exact c0) (skip (fun q => c0 q.1))
theorem x_pn3 (hFu : 6000 ≤ Fu) {vb vs vsd vq : Int32} {a43 a44 a46 a47 a49 : Nat → Int32} (hW : WF y) (hB : BK y LO vb vs vsd vq a43 a44 a46 a47 a49) {b z0 o0 : Nat} (ht : (y 4).toNat.testBit b = true) (hK : bcn (y 4).toNat b = 3) {c : Nat} (hc : b + 1 ≤ c) (htc : (y 4).toNat.testBit c = true) (hKc : bcn (y 4).toNat c = 4) (hgap : ∀ k, b + 1 ≤ k → k < c → (y 4).toNat.testBit k = false) (hz : z0 < 2 ^ b) (ho : o0 < 2 ^ b) (sz : z0 &&& (y 4).toNat = z0) (so : o0 &&& (y 4).toNat = o0) {x6 x8 : Int64} {t3 : Int32} {w3 : Nat → Int64} (hT : RT (cl (y 4).toNat.testBit (chs y LO z0 o0) b) t3 w3) :
    ∀ (d f j : Nat) (a48 : Nat → Int64) (B : Nat → Int) (t4 : Int32) (w4 : Nat → Int64) (t5 : Int32) (w5 : Nat → Int64) (t6 : Int32) (w6 : Nat → Int64) (t7 : Int32) (w7 : Nat → Int64), j + d = 4 → d < f → NB a48 B → Rt (fX1_pairFrom_p3_L91 Fu f vsd vq a43 a44 a46 a47 a48 a49 t3 w3 t4 w4 t5 w5 t6 w6 t7 w7 (i32 (z0 : Int)) (i32 (o0 : Int)) (i32 (b : Int)) 0 x6 x8 (i32 (j : Int))) (fun r => ∃ B', NB r.1 B' ∧ Nt (wn y LO) B B' (fun z o => ∃ i, j ≤ i ∧ i < 4 ∧ EE y LO (b + 1) (z0 + i % 2 * 2 ^ b) (o0 + i / 2 * 2 ^ b) z o)) := by
  obtain ⟨hb, hb8⟩ := seat_rng hW ht
  have h0 := hW.1
  intro d
  induction d with
  | zero =>
    intro f j a48 B t4 w4 t5 w5 t6 w6 t7 w7 hjd hf hN
    obtain ⟨f, rfl⟩ : ∃ g, f = g + 1 := ⟨f - 1, by omega⟩
    rw [fX1_pairFrom_p3_L91]
    exact Rt.ift (by rw [i32_litN 3, i32_lt (by omega) (by omega) (by omega) (by omega)]; omega) (Rt.ret ⟨B, hN, Nt.none (fun z o ⟨i, h1, h2, _⟩ => by omega)⟩)
  | succ d ih =>
    intro f j a48 B t4 w4 t5 w5 t6 w6 t7 w7 hjd hf hN
    obtain ⟨f, rfl⟩ : ∃ g, f = g + 1 := ⟨f - 1, by omega⟩
    have hj : j < 4 := by omega
    rw [fX1_pairFrom_p3_L91]
    refine Rt.iff (by rw [i32_litN 3, i32_lt (by omega) (by omega) (by omega) (by omega)]; omega) ?_
    rw [st_zero hb8 hz hj, st_one hb8 ho hj]
    have l1 := st_lt (b := b) (e := j % 2) hz (by omega)
    have l2 := st_lt (b := b) (e := j / 2) ho (by omega)
    have p8 : 2 ^ (b + 1) ≤ 2 ^ (y 0).toNat := Nat.pow_le_pow_right (by omega) (by omega)
    have p9 := p2_256 hW
    have af0 : fX1_affords a46 a47 0 (i32 ((z0 + j % 2 * 2 ^ b : Nat) : Int)) = some (bI (cst y LO 0 (z0 + j % 2 * 2 ^ b) ≤ y (8 + 0))) := x_affords hW hB (sd := 0) (by omega) (Nat.lt_of_lt_of_le l1 p8)
    have af1 : fX1_affords a46 a47 1 (i32 ((o0 + j / 2 * 2 ^ b : Nat) : Int)) = some (bI (cst y LO 1 (o0 + j / 2 * 2 ^ b) ≤ y (8 + 1))) := x_affords hW hB (sd := 1) (by omega) (Nat.lt_of_lt_of_le l2 p8)
    have skip : ¬ (cst y LO 0 (z0 + j % 2 * 2 ^ b) ≤ y (8 + 0) ∧ cst y LO 1 (o0 + j / 2 * 2 ^ b) ≤ y (8 + 1)) → Rt (fX1_pairFrom_p3_L91 Fu f vsd vq a43 a44 a46 a47 a48 a49 t3 w3 t4 w4 t5 w5 t6 w6 t7 w7 (i32 (z0 : Int)) (i32 (o0 : Int)) (i32 (b : Int)) 0 x6 x8 (i32 (j : Int) + 1)) (fun r => ∃ B', NB r.1 B' ∧ Nt (wn y LO) B B' (fun z o => ∃ i, j ≤ i ∧ i < 4 ∧ EE y LO (b + 1) (z0 + i % 2 * 2 ^ b) (o0 + i / 2 * 2 ^ b) z o)) := by
      intro q
      rw [i32_p1]
      exact (ih f (j + 1) a48 B t4 w4 t5 w5 t6 w6 t7 w7 (by omega) (by omega) hN).mono (fun r ⟨B', g1, g2⟩ => ⟨B', g1, g2.ext (fun z o => ex_skip (fun h => q (EE_aff hW h)))⟩)
    rw [af0]
    refine Rt.eqb rfl ?_
    by_cases c0 : cst y LO 0 (z0 + j % 2 * 2 ^ b) ≤ y (8 + 0)
    · refine Rt.iff (by rw [bI_0]; exact fun q => q c0) ?_
      rw [af1]
      refine Rt.eqb rfl ?_
      by_cases c1 : cst y LO 1 (o0 + j / 2 * 2 ^ b) ≤ y (8 + 1)
      · refine Rt.iff (by rw [bI_0]; exact fun q => q c1) ?_
        rw [x_chanceWith hW hB hb (st_both hz ho hj)]
        refine Rt.eqb rfl (Rt.ift rfl ?_)
        have cr := chn_rng (y := y) (LO := LO) (b := b) (h := (((y 6).toNat : Nat) : Int)) (f := ((fv y (z0 + j % 2 * 2 ^ b) (o0 + j / 2 * 2 ^ b) b : Nat) : Int)) (m := 0)
        refine Rt.bind (x_voteAfter hFu cr.1 cr.2 hT (by rw [cl_cnt, hK]; omega)) (fun r1 hr1 => ?_)
        have hT2 : RT (cl (y 4).toNat.testBit (chs y LO (z0 + j % 2 * 2 ^ b) (o0 + j / 2 * 2 ^ b)) c) r1.1 r1.2 := by
          have e := cl_gap (t := (y 4).toNat.testBit) (p := chs y LO (z0 + j % 2 * 2 ^ b) (o0 + j / 2 * 2 ^ b)) (c - (b + 1)) (b + 1) (fun k k1 k2 => hgap k k1 (by omega))
          rw [show b + 1 + (c - (b + 1)) = c by omega] at e
          rw [e, st_cl hz ho (by omega) (by omega) ht]; exact hr1
        have pc : 2 ^ (b + 1) ≤ 2 ^ c := Nat.pow_le_pow_right (by omega) hc
        refine Rt.bind (x_pf4 hFu hW hB (b := c) htc hKc (Nat.lt_of_lt_of_le l1 pc) (Nat.lt_of_lt_of_le l2 pc) (st_sub hz (by omega) sz ht) (st_sub ho (by omega) so ht) hT2 a48 B _ _ _ _ _ _ hN) (fun r2 ⟨B1, n1, n2⟩ => ?_)
        rw [i32_p1]
        exact (ih f (j + 1) r2.1 B1 r1.1 r1.2 r2.2.1 r2.2.2.1 r2.2.2.2.1 r2.2.2.2.2.1 r2.2.2.2.2.2.1 r2.2.2.2.2.2.2 (by omega) (by omega) n1).mono (fun r ⟨B', g1, g2⟩ => ⟨B', g1, (n2.comp g2).ext (fun z o => ex_take hj (EE_skip hc hgap))⟩)
      · exact Rt.ift (by rw [bI_0]; exact c1) (skip (fun q => c1 q.2))
    · exact Rt.ift (by rw [bI_0]; exact c0) (skip (fun q => c0 q.1))
theorem x_pf3 (hFu : 6000 ≤ Fu) {vb vs vsd vq : Int32} {a43 a44 a46 a47 a49 : Nat → Int32} (hW : WF y) (hB : BK y LO vb vs vsd vq a43 a44 a46 a47 a49) {b z0 o0 : Nat} (ht : (y 4).toNat.testBit b = true) (hK : bcn (y 4).toNat b = 3) (hz : z0 < 2 ^ b) (ho : o0 < 2 ^ b) (sz : z0 &&& (y 4).toNat = z0) (so : o0 &&& (y 4).toNat = o0) {t3 : Int32} {w3 : Nat → Int64} (hT : RT (cl (y 4).toNat.testBit (chs y LO z0 o0) b) t3 w3) (a48 : Nat → Int64) (B : Nat → Int) (t4 : Int32) (w4 : Nat → Int64) (t5 : Int32) (w5 : Nat → Int64) (t6 : Int32) (w6 : Nat → Int64) (t7 : Int32) (w7 : Nat → Int64) (hN : NB a48 B) : Rt (fX1_pairFrom_p3 Fu vsd vq a43 a44 a46 a47 a48 a49 t3 w3 t4 w4 t5 w5 t6 w6 t7 w7 (i32 (z0 : Int)) (i32 (o0 : Int))) (fun r => ∃ B', NB r.1 B' ∧ Nt (wn y LO) B B' (EE y LO b z0 o0)) := by
  obtain ⟨hb, hb8⟩ := seat_rng hW ht
  obtain ⟨s, n, e4, e0, hn, hs1, hs, hbn⟩ := hW.seats
  have e1 : bcn (y 4).toNat (b + 1) = 4 := by show bcn (y 4).toNat b + (if (y 4).toNat.testBit b then 1 else 0) = _; rw [ht, hK]; rfl
  have mo := bcn_mono (s := (y 4).toNat) (a := b + 1) (8 - (b + 1))
  rw [show b + 1 + (8 - (b + 1)) = 8 by omega] at mo
  have b8 := bcn_le (y 4).toNat 8
  have hq := hW.quota
  have ev := hB.2.2.2.1
  have eqn : vq = i32 (((y 5).toNat : Nat) : Int) := by rw [hB.2.2.1]; congr 1; omega
  have ha : fX8_atLeast Fu t3 w3 vq = some (i64 (al (cl (y 4).toNat.testBit (chs y LO z0 o0) b) (y 5).toNat)) := by rw [eqn]; exact x_atLeast hFu hT (by omega)
  have hj : fX8_just t3 w3 (vq - 1) = some (i64 (vt (cl (y 4).toNat.testBit (chs y LO z0 o0) b) ((y 5).toNat - 1))) := by
    rw [eqn, show i32 (((y 5).toNat : Nat) : Int) - 1 = i32 ((((y 5).toNat - 1 : Nat) : Nat) : Int) by rw [i32_litN 1, i32_sub]; congr 1; omega, x_just hT (by omega) (by omega), if_neg (by omega), Int.toNat_natCast]
  have ea : a49 (OfNat.ofNat 3 : Int32).toNatClampNeg = i32 (b : Int) := by rw [i32_nn9 (by decide), ← hK]; exact hB.2.2.2.2.2.2.2.2 b hb ht
  have fin : ∀ {a : Nat → Int64}, (∃ B', NB a B' ∧ Nt (wn y LO) B B' (fun z o => ∃ i, 0 ≤ i ∧ i < 4 ∧ EE y LO (b + 1) (z0 + i % 2 * 2 ^ b) (o0 + i / 2 * 2 ^ b) z o)) → ∃ B', NB a B' ∧ Nt (wn y LO) B B' (EE y LO b z0 o0) := by
    rintro a ⟨B', g1, g2⟩
    refine ⟨B', g1, g2.ext (fun z o => ?_)⟩
    rw [EE_four hz ho]
    exact ⟨fun ⟨i, h1, h2⟩ => ⟨i, by omega, h1, h2⟩, fun ⟨i, _, h1, h2⟩ => ⟨i, h1, h2⟩⟩
  unfold fX1_pairFrom_p3
  rw [ea]
  refine Rt.ift (by rw [ev, i32_litN 3, i32_lt (by omega) (by omega) (by omega) (by omega)]; omega) ?_
  rw [gd9 (by decide) (by decide)]
  by_cases cl : bcn (y 4).toNat 8 = 4
  · refine Rt.iff (by rw [ev, i32_litN 4, i32_lt (by omega) (by omega) (by omega) (by omega)]; omega) ?_
    unfold fX1_pairFrom_p3_L32
    refine Rt.iff (by decide) ?_
    rw [ha]
    refine Rt.eqb rfl ?_
    unfold fX1_pairFrom_p3_L60
    refine Rt.iff (by decide) ?_
    rw [hj]
    refine Rt.eqb rfl ?_
    unfold fX1_pairFrom_p3_L86
    exact (x_pl3 hFu hW hB ht (seat_last hb8 ht hK cl (by omega)) hz ho sz so (i64_mul _ 100) rfl 4 Fu 0 a48 B (by omega) (by omega) hN).mono (fun r hr => fin hr)
  · obtain ⟨c, c1, c2, c3, c4, c5⟩ := seat_next hb8 ht hK (by omega)
    refine Rt.ift (by rw [ev, i32_litN 4, i32_lt (by omega) (by omega) (by omega) (by omega)]; omega) ?_
    unfold fX1_pairFrom_p3_L32
    refine Rt.ift rfl ?_
    unfold fX1_pairFrom_p3_L60
    refine Rt.ift rfl ?_
    unfold fX1_pairFrom_p3_L86
    exact (x_pn3 hFu hW hB ht hK c1 c3 c4 c5 hz ho sz so hT 4 Fu 0 a48 B t4 w4 t5 w5 t6 w6 t7 w7 (by omega) (by omega) hN).mono (fun r hr => fin hr)
theorem x_pl2 (hFu : 6000 ≤ Fu) {vb vs vsd vq : Int32} {a43 a44 a46 a47 a49 : Nat → Int32} (hW : WF y) (hB : BK y LO vb vs vsd vq a43 a44 a46 a47 a49) {b z0 o0 : Nat} (ht : (y 4).toNat.testBit b = true) (hlast : ∀ k, b + 1 ≤ k → (y 4).toNat.testBit k = false) (hz : z0 < 2 ^ b) (ho : o0 < 2 ^ b) (sz : z0 &&& (y 4).toNat = z0) (so : o0 &&& (y 4).toNat = o0) {x6 x8 : Int64} (e6 : x6 = i64 (al (cl (y 4).toNat.testBit (chs y LO z0 o0) b) (y 5).toNat * 100)) (e8 : x8 = i64 (vt (cl (y 4).toNat.testBit (chs y LO z0 o0) b) ((y 5).toNat - 1))) {t2 : Int32} {w2 : Nat → Int64} {t3 : Int32} {w3 : Nat → Int64} {t4 : Int32} {w4 : Nat → Int64} {t5 : Int32} {w5 : Nat → Int64} {t6 : Int32} {w6 : Nat → Int64} {t7 : Int32} {w7 : Nat → Int64} :
    ∀ (d f j : Nat) (a48 : Nat → Int64) (B : Nat → Int), j + d = 4 → d < f → NB a48 B → Rt (fX1_pairFrom_p2_L91 Fu f vsd vq a43 a44 a46 a47 a48 a49 t2 w2 t3 w3 t4 w4 t5 w5 t6 w6 t7 w7 (i32 (z0 : Int)) (i32 (o0 : Int)) (i32 (b : Int)) 1 x6 x8 (i32 (j : Int))) (fun r => ∃ B', NB r.1 B' ∧ Nt (wn y LO) B B' (fun z o => ∃ i, j ≤ i ∧ i < 4 ∧ EE y LO (b + 1) (z0 + i % 2 * 2 ^ b) (o0 + i / 2 * 2 ^ b) z o)) := by
  obtain ⟨hb, hb8⟩ := seat_rng hW ht
  have h0 := hW.1
  intro d
  induction d with
  | zero =>
    intro f j a48 B hjd hf hN
    obtain ⟨f, rfl⟩ : ∃ g, f = g + 1 := ⟨f - 1, by omega⟩
    rw [fX1_pairFrom_p2_L91]
    exact Rt.ift (by rw [i32_litN 3, i32_lt (by omega) (by omega) (by omega) (by omega)]; omega) (Rt.ret ⟨B, hN, Nt.none (fun z o ⟨i, h1, h2, _⟩ => by omega)⟩)
  | succ d ih =>
    intro f j a48 B hjd hf hN
    obtain ⟨f, rfl⟩ : ∃ g, f = g + 1 := ⟨f - 1, by omega⟩
    have hj : j < 4 := by omega
    rw [fX1_pairFrom_p2_L91]
    refine Rt.iff (by rw [i32_litN 3, i32_lt (by omega) (by omega) (by omega) (by omega)]; omega) ?_
    rw [st_zero hb8 hz hj, st_one hb8 ho hj]
    have l1 := st_lt (b := b) (e := j % 2) hz (by omega)
    have l2 := st_lt (b := b) (e := j / 2) ho (by omega)
    have p8 : 2 ^ (b + 1) ≤ 2 ^ (y 0).toNat := Nat.pow_le_pow_right (by omega) (by omega)
    have p9 := p2_256 hW
    have af0 : fX1_affords a46 a47 0 (i32 ((z0 + j % 2 * 2 ^ b : Nat) : Int)) = some (bI (cst y LO 0 (z0 + j % 2 * 2 ^ b) ≤ y (8 + 0))) := x_affords hW hB (sd := 0) (by omega) (Nat.lt_of_lt_of_le l1 p8)
    have af1 : fX1_affords a46 a47 1 (i32 ((o0 + j / 2 * 2 ^ b : Nat) : Int)) = some (bI (cst y LO 1 (o0 + j / 2 * 2 ^ b) ≤ y (8 + 1))) := x_affords hW hB (sd := 1) (by omega) (Nat.lt_of_lt_of_le l2 p8)
    have skip : ¬ (cst y LO 0 (z0 + j % 2 * 2 ^ b) ≤ y (8 + 0) ∧ cst y LO 1 (o0 + j / 2 * 2 ^ b) ≤ y (8 + 1)) → Rt (fX1_pairFrom_p2_L91 Fu f vsd vq a43 a44 a46 a47 a48 a49 t2 w2 t3 w3 t4 w4 t5 w5 t6 w6 t7 w7 (i32 (z0 : Int)) (i32 (o0 : Int)) (i32 (b : Int)) 1 x6 x8 (i32 (j : Int) + 1)) (fun r => ∃ B', NB r.1 B' ∧ Nt (wn y LO) B B' (fun z o => ∃ i, j ≤ i ∧ i < 4 ∧ EE y LO (b + 1) (z0 + i % 2 * 2 ^ b) (o0 + i / 2 * 2 ^ b) z o)) := by
      intro q
      rw [i32_p1]
      exact (ih f (j + 1) a48 B (by omega) (by omega) hN).mono (fun r ⟨B', g1, g2⟩ => ⟨B', g1, g2.ext (fun z o => ex_skip (fun h => q (EE_aff hW h)))⟩)
    rw [af0]
    refine Rt.eqb rfl ?_
    by_cases c0 : cst y LO 0 (z0 + j % 2 * 2 ^ b) ≤ y (8 + 0)
    · refine Rt.iff (by rw [bI_0]; exact fun q => q c0) ?_
      rw [af1]
      refine Rt.eqb rfl ?_
      by_cases c1 : cst y LO 1 (o0 + j / 2 * 2 ^ b) ≤ y (8 + 1)
      · refine Rt.iff (by rw [bI_0]; exact fun q => q c1) ?_
        rw [x_chanceWith hW hB hb (st_both hz ho hj)]
        refine Rt.eqb rfl (Rt.iff (by decide) ?_)
        have cr := chn_rng (y := y) (LO := LO) (b := b) (h := (((y 6).toNat : Nat) : Int)) (f := ((fv y (z0 + j % 2 * 2 ^ b) (o0 + j / 2 * 2 ^ b) b : Nat) : Int)) (m := 0)
        have hq := hW.quota
        have wr := wnO_rng (y := y) (LO := LO) (bn := (y 4).toNat) (q := (y 5).toNat) (z := z0 + j % 2 * 2 ^ b) (o := o0 + j / 2 * 2 ^ b)
        have ev : x6 + x8 * (i32 (chn y LO b (((y 6).toNat : Nat) : Int) ((fv y (z0 + j % 2 * 2 ^ b) (o0 + j / 2 * 2 ^ b) b : Nat) : Int) 0)).toInt64 = i64 (wn y LO (z0 + j % 2 * 2 ^ b) (o0 + j / 2 * 2 ^ b)) := by
          rw [wn_last hW hlast hb8, st_cl hz ho (by omega) (by omega) ht, i32_64 (by omega) (by omega), e6, e8, i64_mul, i64_add]
          have la := al_cons (L := (cl (y 4).toNat.testBit (chs y LO z0 o0) b)) (p := chs y LO (z0 + j % 2 * 2 ^ b) (o0 + j / 2 * 2 ^ b) b) (q := (y 5).toNat - 1) (by have := cl_len (y 4).toNat.testBit (chs y LO z0 o0) b; omega)
          rw [show (y 5).toNat - 1 + 1 = (y 5).toNat by omega] at la
          rw [la]
        refine Rt.bind (x_note hN (W := wn y LO) (by omega) (by omega) ev wr.1 wr.2) (fun r2 ⟨B1, n1, n2⟩ => ?_)
        rw [i32_p1]
        exact (ih f (j + 1) r2 B1 (by omega) (by omega) n1).mono (fun r ⟨B', g1, g2⟩ => ⟨B', g1, (n2.comp g2).ext (fun z o => ex_take hj (EE_last hW hlast (st_sub hz (by omega) sz ht) (st_sub ho (by omega) so ht) c0 c1 z o))⟩)
      · exact Rt.ift (by rw [bI_0]; exact c1) (skip (fun q => c1 q.2))
    · exact Rt.ift (by rw [bI_0]; exact c0) (skip (fun q => c0 q.1))
theorem x_pn2 (hFu : 6000 ≤ Fu) {vb vs vsd vq : Int32} {a43 a44 a46 a47 a49 : Nat → Int32} (hW : WF y) (hB : BK y LO vb vs vsd vq a43 a44 a46 a47 a49) {b z0 o0 : Nat} (ht : (y 4).toNat.testBit b = true) (hK : bcn (y 4).toNat b = 2) {c : Nat} (hc : b + 1 ≤ c) (htc : (y 4).toNat.testBit c = true) (hKc : bcn (y 4).toNat c = 3) (hgap : ∀ k, b + 1 ≤ k → k < c → (y 4).toNat.testBit k = false) (hz : z0 < 2 ^ b) (ho : o0 < 2 ^ b) (sz : z0 &&& (y 4).toNat = z0) (so : o0 &&& (y 4).toNat = o0) {x6 x8 : Int64} {t2 : Int32} {w2 : Nat → Int64} (hT : RT (cl (y 4).toNat.testBit (chs y LO z0 o0) b) t2 w2) :
    ∀ (d f j : Nat) (a48 : Nat → Int64) (B : Nat → Int) (t3 : Int32) (w3 : Nat → Int64) (t4 : Int32) (w4 : Nat → Int64) (t5 : Int32) (w5 : Nat → Int64) (t6 : Int32) (w6 : Nat → Int64) (t7 : Int32) (w7 : Nat → Int64), j + d = 4 → d < f → NB a48 B → Rt (fX1_pairFrom_p2_L91 Fu f vsd vq a43 a44 a46 a47 a48 a49 t2 w2 t3 w3 t4 w4 t5 w5 t6 w6 t7 w7 (i32 (z0 : Int)) (i32 (o0 : Int)) (i32 (b : Int)) 0 x6 x8 (i32 (j : Int))) (fun r => ∃ B', NB r.1 B' ∧ Nt (wn y LO) B B' (fun z o => ∃ i, j ≤ i ∧ i < 4 ∧ EE y LO (b + 1) (z0 + i % 2 * 2 ^ b) (o0 + i / 2 * 2 ^ b) z o)) := by
  obtain ⟨hb, hb8⟩ := seat_rng hW ht
  have h0 := hW.1
  intro d
  induction d with
  | zero =>
    intro f j a48 B t3 w3 t4 w4 t5 w5 t6 w6 t7 w7 hjd hf hN
    obtain ⟨f, rfl⟩ : ∃ g, f = g + 1 := ⟨f - 1, by omega⟩
    rw [fX1_pairFrom_p2_L91]
    exact Rt.ift (by rw [i32_litN 3, i32_lt (by omega) (by omega) (by omega) (by omega)]; omega) (Rt.ret ⟨B, hN, Nt.none (fun z o ⟨i, h1, h2, _⟩ => by omega)⟩)
  | succ d ih =>
    intro f j a48 B t3 w3 t4 w4 t5 w5 t6 w6 t7 w7 hjd hf hN
    obtain ⟨f, rfl⟩ : ∃ g, f = g + 1 := ⟨f - 1, by omega⟩
    have hj : j < 4 := by omega
    rw [fX1_pairFrom_p2_L91]
    refine Rt.iff (by rw [i32_litN 3, i32_lt (by omega) (by omega) (by omega) (by omega)]; omega) ?_
    rw [st_zero hb8 hz hj, st_one hb8 ho hj]
    have l1 := st_lt (b := b) (e := j % 2) hz (by omega)
    have l2 := st_lt (b := b) (e := j / 2) ho (by omega)
    have p8 : 2 ^ (b + 1) ≤ 2 ^ (y 0).toNat := Nat.pow_le_pow_right (by omega) (by omega)
    have p9 := p2_256 hW
    have af0 : fX1_affords a46 a47 0 (i32 ((z0 + j % 2 * 2 ^ b : Nat) : Int)) = some (bI (cst y LO 0 (z0 + j % 2 * 2 ^ b) ≤ y (8 + 0))) := x_affords hW hB (sd := 0) (by omega) (Nat.lt_of_lt_of_le l1 p8)
    have af1 : fX1_affords a46 a47 1 (i32 ((o0 + j / 2 * 2 ^ b : Nat) : Int)) = some (bI (cst y LO 1 (o0 + j / 2 * 2 ^ b) ≤ y (8 + 1))) := x_affords hW hB (sd := 1) (by omega) (Nat.lt_of_lt_of_le l2 p8)
    have skip : ¬ (cst y LO 0 (z0 + j % 2 * 2 ^ b) ≤ y (8 + 0) ∧ cst y LO 1 (o0 + j / 2 * 2 ^ b) ≤ y (8 + 1)) → Rt (fX1_pairFrom_p2_L91 Fu f vsd vq a43 a44 a46 a47 a48 a49 t2 w2 t3 w3 t4 w4 t5 w5 t6 w6 t7 w7 (i32 (z0 : Int)) (i32 (o0 : Int)) (i32 (b : Int)) 0 x6 x8 (i32 (j : Int) + 1)) (fun r => ∃ B', NB r.1 B' ∧ Nt (wn y LO) B B' (fun z o => ∃ i, j ≤ i ∧ i < 4 ∧ EE y LO (b + 1) (z0 + i % 2 * 2 ^ b) (o0 + i / 2 * 2 ^ b) z o)) := by
      intro q
      rw [i32_p1]
      exact (ih f (j + 1) a48 B t3 w3 t4 w4 t5 w5 t6 w6 t7 w7 (by omega) (by omega) hN).mono (fun r ⟨B', g1, g2⟩ => ⟨B', g1, g2.ext (fun z o => ex_skip (fun h => q (EE_aff hW h)))⟩)
    rw [af0]
    refine Rt.eqb rfl ?_
    by_cases c0 : cst y LO 0 (z0 + j % 2 * 2 ^ b) ≤ y (8 + 0)
    · refine Rt.iff (by rw [bI_0]; exact fun q => q c0) ?_
      rw [af1]
      refine Rt.eqb rfl ?_
      by_cases c1 : cst y LO 1 (o0 + j / 2 * 2 ^ b) ≤ y (8 + 1)
      · refine Rt.iff (by rw [bI_0]; exact fun q => q c1) ?_
        rw [x_chanceWith hW hB hb (st_both hz ho hj)]
        refine Rt.eqb rfl (Rt.ift rfl ?_)
        have cr := chn_rng (y := y) (LO := LO) (b := b) (h := (((y 6).toNat : Nat) : Int)) (f := ((fv y (z0 + j % 2 * 2 ^ b) (o0 + j / 2 * 2 ^ b) b : Nat) : Int)) (m := 0)
        refine Rt.bind (x_voteAfter hFu cr.1 cr.2 hT (by rw [cl_cnt, hK]; omega)) (fun r1 hr1 => ?_)
        have hT2 : RT (cl (y 4).toNat.testBit (chs y LO (z0 + j % 2 * 2 ^ b) (o0 + j / 2 * 2 ^ b)) c) r1.1 r1.2 := by
          have e := cl_gap (t := (y 4).toNat.testBit) (p := chs y LO (z0 + j % 2 * 2 ^ b) (o0 + j / 2 * 2 ^ b)) (c - (b + 1)) (b + 1) (fun k k1 k2 => hgap k k1 (by omega))
          rw [show b + 1 + (c - (b + 1)) = c by omega] at e
          rw [e, st_cl hz ho (by omega) (by omega) ht]; exact hr1
        have pc : 2 ^ (b + 1) ≤ 2 ^ c := Nat.pow_le_pow_right (by omega) hc
        refine Rt.bind (x_pf3 hFu hW hB (b := c) htc hKc (Nat.lt_of_lt_of_le l1 pc) (Nat.lt_of_lt_of_le l2 pc) (st_sub hz (by omega) sz ht) (st_sub ho (by omega) so ht) hT2 a48 B _ _ _ _ _ _ _ _ hN) (fun r2 ⟨B1, n1, n2⟩ => ?_)
        rw [i32_p1]
        exact (ih f (j + 1) r2.1 B1 r1.1 r1.2 r2.2.1 r2.2.2.1 r2.2.2.2.1 r2.2.2.2.2.1 r2.2.2.2.2.2.1 r2.2.2.2.2.2.2.1 r2.2.2.2.2.2.2.2.1 r2.2.2.2.2.2.2.2.2 (by omega) (by omega) n1).mono (fun r ⟨B', g1, g2⟩ => ⟨B', g1, (n2.comp g2).ext (fun z o => ex_take hj (EE_skip hc hgap))⟩)
      · exact Rt.ift (by rw [bI_0]; exact c1) (skip (fun q => c1 q.2))
    · exact Rt.ift (by rw [bI_0]; exact c0) (skip (fun q => c0 q.1))
theorem x_pf2 (hFu : 6000 ≤ Fu) {vb vs vsd vq : Int32} {a43 a44 a46 a47 a49 : Nat → Int32} (hW : WF y) (hB : BK y LO vb vs vsd vq a43 a44 a46 a47 a49) {b z0 o0 : Nat} (ht : (y 4).toNat.testBit b = true) (hK : bcn (y 4).toNat b = 2) (hz : z0 < 2 ^ b) (ho : o0 < 2 ^ b) (sz : z0 &&& (y 4).toNat = z0) (so : o0 &&& (y 4).toNat = o0) {t2 : Int32} {w2 : Nat → Int64} (hT : RT (cl (y 4).toNat.testBit (chs y LO z0 o0) b) t2 w2) (a48 : Nat → Int64) (B : Nat → Int) (t3 : Int32) (w3 : Nat → Int64) (t4 : Int32) (w4 : Nat → Int64) (t5 : Int32) (w5 : Nat → Int64) (t6 : Int32) (w6 : Nat → Int64) (t7 : Int32) (w7 : Nat → Int64) (hN : NB a48 B) : Rt (fX1_pairFrom_p2 Fu vsd vq a43 a44 a46 a47 a48 a49 t2 w2 t3 w3 t4 w4 t5 w5 t6 w6 t7 w7 (i32 (z0 : Int)) (i32 (o0 : Int))) (fun r => ∃ B', NB r.1 B' ∧ Nt (wn y LO) B B' (EE y LO b z0 o0)) := by
  obtain ⟨hb, hb8⟩ := seat_rng hW ht
  obtain ⟨s, n, e4, e0, hn, hs1, hs, hbn⟩ := hW.seats
  have e1 : bcn (y 4).toNat (b + 1) = 3 := by show bcn (y 4).toNat b + (if (y 4).toNat.testBit b then 1 else 0) = _; rw [ht, hK]; rfl
  have mo := bcn_mono (s := (y 4).toNat) (a := b + 1) (8 - (b + 1))
  rw [show b + 1 + (8 - (b + 1)) = 8 by omega] at mo
  have b8 := bcn_le (y 4).toNat 8
  have hq := hW.quota
  have ev := hB.2.2.2.1
  have eqn : vq = i32 (((y 5).toNat : Nat) : Int) := by rw [hB.2.2.1]; congr 1; omega
  have ha : fX8_atLeast Fu t2 w2 vq = some (i64 (al (cl (y 4).toNat.testBit (chs y LO z0 o0) b) (y 5).toNat)) := by rw [eqn]; exact x_atLeast hFu hT (by omega)
  have hj : fX8_just t2 w2 (vq - 1) = some (i64 (vt (cl (y 4).toNat.testBit (chs y LO z0 o0) b) ((y 5).toNat - 1))) := by
    rw [eqn, show i32 (((y 5).toNat : Nat) : Int) - 1 = i32 ((((y 5).toNat - 1 : Nat) : Nat) : Int) by rw [i32_litN 1, i32_sub]; congr 1; omega, x_just hT (by omega) (by omega), if_neg (by omega), Int.toNat_natCast]
  have ea : a49 (OfNat.ofNat 2 : Int32).toNatClampNeg = i32 (b : Int) := by rw [i32_nn9 (by decide), ← hK]; exact hB.2.2.2.2.2.2.2.2 b hb ht
  have fin : ∀ {a : Nat → Int64}, (∃ B', NB a B' ∧ Nt (wn y LO) B B' (fun z o => ∃ i, 0 ≤ i ∧ i < 4 ∧ EE y LO (b + 1) (z0 + i % 2 * 2 ^ b) (o0 + i / 2 * 2 ^ b) z o)) → ∃ B', NB a B' ∧ Nt (wn y LO) B B' (EE y LO b z0 o0) := by
    rintro a ⟨B', g1, g2⟩
    refine ⟨B', g1, g2.ext (fun z o => ?_)⟩
    rw [EE_four hz ho]
    exact ⟨fun ⟨i, h1, h2⟩ => ⟨i, by omega, h1, h2⟩, fun ⟨i, _, h1, h2⟩ => ⟨i, h1, h2⟩⟩
  unfold fX1_pairFrom_p2
  rw [ea]
  refine Rt.ift (by rw [ev, i32_litN 2, i32_lt (by omega) (by omega) (by omega) (by omega)]; omega) ?_
  rw [gd9 (by decide) (by decide)]
  by_cases cl : bcn (y 4).toNat 8 = 3
  · refine Rt.iff (by rw [ev, i32_litN 3, i32_lt (by omega) (by omega) (by omega) (by omega)]; omega) ?_
    unfold fX1_pairFrom_p2_L32
    refine Rt.iff (by decide) ?_
    rw [ha]
    refine Rt.eqb rfl ?_
    unfold fX1_pairFrom_p2_L60
    refine Rt.iff (by decide) ?_
    rw [hj]
    refine Rt.eqb rfl ?_
    unfold fX1_pairFrom_p2_L86
    exact (x_pl2 hFu hW hB ht (seat_last hb8 ht hK cl (by omega)) hz ho sz so (i64_mul _ 100) rfl 4 Fu 0 a48 B (by omega) (by omega) hN).mono (fun r hr => fin hr)
  · obtain ⟨c, c1, c2, c3, c4, c5⟩ := seat_next hb8 ht hK (by omega)
    refine Rt.ift (by rw [ev, i32_litN 3, i32_lt (by omega) (by omega) (by omega) (by omega)]; omega) ?_
    unfold fX1_pairFrom_p2_L32
    refine Rt.ift rfl ?_
    unfold fX1_pairFrom_p2_L60
    refine Rt.ift rfl ?_
    unfold fX1_pairFrom_p2_L86
    exact (x_pn2 hFu hW hB ht hK c1 c3 c4 c5 hz ho sz so hT 4 Fu 0 a48 B t3 w3 t4 w4 t5 w5 t6 w6 t7 w7 (by omega) (by omega) hN).mono (fun r hr => fin hr)
theorem x_pl1 (hFu : 6000 ≤ Fu) {vb vs vsd vq : Int32} {a43 a44 a46 a47 a49 : Nat → Int32} (hW : WF y) (hB : BK y LO vb vs vsd vq a43 a44 a46 a47 a49) {b z0 o0 : Nat} (ht : (y 4).toNat.testBit b = true) (hlast : ∀ k, b + 1 ≤ k → (y 4).toNat.testBit k = false) (hz : z0 < 2 ^ b) (ho : o0 < 2 ^ b) (sz : z0 &&& (y 4).toNat = z0) (so : o0 &&& (y 4).toNat = o0) {x6 x8 : Int64} (e6 : x6 = i64 (al (cl (y 4).toNat.testBit (chs y LO z0 o0) b) (y 5).toNat * 100)) (e8 : x8 = i64 (vt (cl (y 4).toNat.testBit (chs y LO z0 o0) b) ((y 5).toNat - 1))) {t1 : Int32} {w1 : Nat → Int64} {t2 : Int32} {w2 : Nat → Int64} {t3 : Int32} {w3 : Nat → Int64} {t4 : Int32} {w4 : Nat → Int64} {t5 : Int32} {w5 : Nat → Int64} {t6 : Int32} {w6 : Nat → Int64} {t7 : Int32} {w7 : Nat → Int64} :
    ∀ (d f j : Nat) (a48 : Nat → Int64) (B : Nat → Int), j + d = 4 → d < f → NB a48 B → Rt (fX1_pairFrom_p1_L91 Fu f vsd vq a43 a44 a46 a47 a48 a49 t1 w1 t2 w2 t3 w3 t4 w4 t5 w5 t6 w6 t7 w7 (i32 (z0 : Int)) (i32 (o0 : Int)) (i32 (b : Int)) 1 x6 x8 (i32 (j : Int))) (fun r => ∃ B', NB r.1 B' ∧ Nt (wn y LO) B B' (fun z o => ∃ i, j ≤ i ∧ i < 4 ∧ EE y LO (b + 1) (z0 + i % 2 * 2 ^ b) (o0 + i / 2 * 2 ^ b) z o)) := by
  obtain ⟨hb, hb8⟩ := seat_rng hW ht
  have h0 := hW.1
  intro d
  induction d with
  | zero =>
    intro f j a48 B hjd hf hN
    obtain ⟨f, rfl⟩ : ∃ g, f = g + 1 := ⟨f - 1, by omega⟩
    rw [fX1_pairFrom_p1_L91]
    exact Rt.ift (by rw [i32_litN 3, i32_lt (by omega) (by omega) (by omega) (by omega)]; omega) (Rt.ret ⟨B, hN, Nt.none (fun z o ⟨i, h1, h2, _⟩ => by omega)⟩)
  | succ d ih =>
    intro f j a48 B hjd hf hN
    obtain ⟨f, rfl⟩ : ∃ g, f = g + 1 := ⟨f - 1, by omega⟩
    have hj : j < 4 := by omega
    rw [fX1_pairFrom_p1_L91]
    refine Rt.iff (by rw [i32_litN 3, i32_lt (by omega) (by omega) (by omega) (by omega)]; omega) ?_
    rw [st_zero hb8 hz hj, st_one hb8 ho hj]
    have l1 := st_lt (b := b) (e := j % 2) hz (by omega)
    have l2 := st_lt (b := b) (e := j / 2) ho (by omega)
    have p8 : 2 ^ (b + 1) ≤ 2 ^ (y 0).toNat := Nat.pow_le_pow_right (by omega) (by omega)
    have p9 := p2_256 hW
    have af0 : fX1_affords a46 a47 0 (i32 ((z0 + j % 2 * 2 ^ b : Nat) : Int)) = some (bI (cst y LO 0 (z0 + j % 2 * 2 ^ b) ≤ y (8 + 0))) := x_affords hW hB (sd := 0) (by omega) (Nat.lt_of_lt_of_le l1 p8)
    have af1 : fX1_affords a46 a47 1 (i32 ((o0 + j / 2 * 2 ^ b : Nat) : Int)) = some (bI (cst y LO 1 (o0 + j / 2 * 2 ^ b) ≤ y (8 + 1))) := x_affords hW hB (sd := 1) (by omega) (Nat.lt_of_lt_of_le l2 p8)
    have skip : ¬ (cst y LO 0 (z0 + j % 2 * 2 ^ b) ≤ y (8 + 0) ∧ cst y LO 1 (o0 + j / 2 * 2 ^ b) ≤ y (8 + 1)) → Rt (fX1_pairFrom_p1_L91 Fu f vsd vq a43 a44 a46 a47 a48 a49 t1 w1 t2 w2 t3 w3 t4 w4 t5 w5 t6 w6 t7 w7 (i32 (z0 : Int)) (i32 (o0 : Int)) (i32 (b : Int)) 1 x6 x8 (i32 (j : Int) + 1)) (fun r => ∃ B', NB r.1 B' ∧ Nt (wn y LO) B B' (fun z o => ∃ i, j ≤ i ∧ i < 4 ∧ EE y LO (b + 1) (z0 + i % 2 * 2 ^ b) (o0 + i / 2 * 2 ^ b) z o)) := by
      intro q
      rw [i32_p1]
      exact (ih f (j + 1) a48 B (by omega) (by omega) hN).mono (fun r ⟨B', g1, g2⟩ => ⟨B', g1, g2.ext (fun z o => ex_skip (fun h => q (EE_aff hW h)))⟩)
    rw [af0]
    refine Rt.eqb rfl ?_
    by_cases c0 : cst y LO 0 (z0 + j % 2 * 2 ^ b) ≤ y (8 + 0)
    · refine Rt.iff (by rw [bI_0]; exact fun q => q c0) ?_
      rw [af1]
      refine Rt.eqb rfl ?_
      by_cases c1 : cst y LO 1 (o0 + j / 2 * 2 ^ b) ≤ y (8 + 1)
      · refine Rt.iff (by rw [bI_0]; exact fun q => q c1) ?_
        rw [x_chanceWith hW hB hb (st_both hz ho hj)]
        refine Rt.eqb rfl (Rt.iff (by decide) ?_)
        have cr := chn_rng (y := y) (LO := LO) (b := b) (h := (((y 6).toNat : Nat) : Int)) (f := ((fv y (z0 + j % 2 * 2 ^ b) (o0 + j / 2 * 2 ^ b) b : Nat) : Int)) (m := 0)
        have hq := hW.quota
        have wr := wnO_rng (y := y) (LO := LO) (bn := (y 4).toNat) (q := (y 5).toNat) (z := z0 + j % 2 * 2 ^ b) (o := o0 + j / 2 * 2 ^ b)
        have ev : x6 + x8 * (i32 (chn y LO b (((y 6).toNat : Nat) : Int) ((fv y (z0 + j % 2 * 2 ^ b) (o0 + j / 2 * 2 ^ b) b : Nat) : Int) 0)).toInt64 = i64 (wn y LO (z0 + j % 2 * 2 ^ b) (o0 + j / 2 * 2 ^ b)) := by
          rw [wn_last hW hlast hb8, st_cl hz ho (by omega) (by omega) ht, i32_64 (by omega) (by omega), e6, e8, i64_mul, i64_add]
          have la := al_cons (L := (cl (y 4).toNat.testBit (chs y LO z0 o0) b)) (p := chs y LO (z0 + j % 2 * 2 ^ b) (o0 + j / 2 * 2 ^ b) b) (q := (y 5).toNat - 1) (by have := cl_len (y 4).toNat.testBit (chs y LO z0 o0) b; omega)
          rw [show (y 5).toNat - 1 + 1 = (y 5).toNat by omega] at la
          rw [la]
        refine Rt.bind (x_note hN (W := wn y LO) (by omega) (by omega) ev wr.1 wr.2) (fun r2 ⟨B1, n1, n2⟩ => ?_)
        rw [i32_p1]
        exact (ih f (j + 1) r2 B1 (by omega) (by omega) n1).mono (fun r ⟨B', g1, g2⟩ => ⟨B', g1, (n2.comp g2).ext (fun z o => ex_take hj (EE_last hW hlast (st_sub hz (by omega) sz ht) (st_sub ho (by omega) so ht) c0 c1 z o))⟩)
      · exact Rt.ift (by rw [bI_0]; exact c1) (skip (fun q => c1 q.2))
    · exact Rt.ift (by rw [bI_0]; exact c0) (skip (fun q => c0 q.1))
theorem x_pn1 (hFu : 6000 ≤ Fu) {vb vs vsd vq : Int32} {a43 a44 a46 a47 a49 : Nat → Int32} (hW : WF y) (hB : BK y LO vb vs vsd vq a43 a44 a46 a47 a49) {b z0 o0 : Nat} (ht : (y 4).toNat.testBit b = true) (hK : bcn (y 4).toNat b = 1) {c : Nat} (hc : b + 1 ≤ c) (htc : (y 4).toNat.testBit c = true) (hKc : bcn (y 4).toNat c = 2) (hgap : ∀ k, b + 1 ≤ k → k < c → (y 4).toNat.testBit k = false) (hz : z0 < 2 ^ b) (ho : o0 < 2 ^ b) (sz : z0 &&& (y 4).toNat = z0) (so : o0 &&& (y 4).toNat = o0) {x6 x8 : Int64} {t1 : Int32} {w1 : Nat → Int64} (hT : RT (cl (y 4).toNat.testBit (chs y LO z0 o0) b) t1 w1) :
    ∀ (d f j : Nat) (a48 : Nat → Int64) (B : Nat → Int) (t2 : Int32) (w2 : Nat → Int64) (t3 : Int32) (w3 : Nat → Int64) (t4 : Int32) (w4 : Nat → Int64) (t5 : Int32) (w5 : Nat → Int64) (t6 : Int32) (w6 : Nat → Int64) (t7 : Int32) (w7 : Nat → Int64), j + d = 4 → d < f → NB a48 B → Rt (fX1_pairFrom_p1_L91 Fu f vsd vq a43 a44 a46 a47 a48 a49 t1 w1 t2 w2 t3 w3 t4 w4 t5 w5 t6 w6 t7 w7 (i32 (z0 : Int)) (i32 (o0 : Int)) (i32 (b : Int)) 0 x6 x8 (i32 (j : Int))) (fun r => ∃ B', NB r.1 B' ∧ Nt (wn y LO) B B' (fun z o => ∃ i, j ≤ i ∧ i < 4 ∧ EE y LO (b + 1) (z0 + i % 2 * 2 ^ b) (o0 + i / 2 * 2 ^ b) z o)) := by
  obtain ⟨hb, hb8⟩ := seat_rng hW ht
  have h0 := hW.1
  intro d
  induction d with
  | zero =>
    intro f j a48 B t2 w2 t3 w3 t4 w4 t5 w5 t6 w6 t7 w7 hjd hf hN
    obtain ⟨f, rfl⟩ : ∃ g, f = g + 1 := ⟨f - 1, by omega⟩
    rw [fX1_pairFrom_p1_L91]
    exact Rt.ift (by rw [i32_litN 3, i32_lt (by omega) (by omega) (by omega) (by omega)]; omega) (Rt.ret ⟨B, hN, Nt.none (fun z o ⟨i, h1, h2, _⟩ => by omega)⟩)
  | succ d ih =>
    intro f j a48 B t2 w2 t3 w3 t4 w4 t5 w5 t6 w6 t7 w7 hjd hf hN
    obtain ⟨f, rfl⟩ : ∃ g, f = g + 1 := ⟨f - 1, by omega⟩
    have hj : j < 4 := by omega
    rw [fX1_pairFrom_p1_L91]
    refine Rt.iff (by rw [i32_litN 3, i32_lt (by omega) (by omega) (by omega) (by omega)]; omega) ?_
    rw [st_zero hb8 hz hj, st_one hb8 ho hj]
    have l1 := st_lt (b := b) (e := j % 2) hz (by omega)
    have l2 := st_lt (b := b) (e := j / 2) ho (by omega)
    have p8 : 2 ^ (b + 1) ≤ 2 ^ (y 0).toNat := Nat.pow_le_pow_right (by omega) (by omega)
    have p9 := p2_256 hW
    have af0 : fX1_affords a46 a47 0 (i32 ((z0 + j % 2 * 2 ^ b : Nat) : Int)) = some (bI (cst y LO 0 (z0 + j % 2 * 2 ^ b) ≤ y (8 + 0))) := x_affords hW hB (sd := 0) (by omega) (Nat.lt_of_lt_of_le l1 p8)
    have af1 : fX1_affords a46 a47 1 (i32 ((o0 + j / 2 * 2 ^ b : Nat) : Int)) = some (bI (cst y LO 1 (o0 + j / 2 * 2 ^ b) ≤ y (8 + 1))) := x_affords hW hB (sd := 1) (by omega) (Nat.lt_of_lt_of_le l2 p8)
    have skip : ¬ (cst y LO 0 (z0 + j % 2 * 2 ^ b) ≤ y (8 + 0) ∧ cst y LO 1 (o0 + j / 2 * 2 ^ b) ≤ y (8 + 1)) → Rt (fX1_pairFrom_p1_L91 Fu f vsd vq a43 a44 a46 a47 a48 a49 t1 w1 t2 w2 t3 w3 t4 w4 t5 w5 t6 w6 t7 w7 (i32 (z0 : Int)) (i32 (o0 : Int)) (i32 (b : Int)) 0 x6 x8 (i32 (j : Int) + 1)) (fun r => ∃ B', NB r.1 B' ∧ Nt (wn y LO) B B' (fun z o => ∃ i, j ≤ i ∧ i < 4 ∧ EE y LO (b + 1) (z0 + i % 2 * 2 ^ b) (o0 + i / 2 * 2 ^ b) z o)) := by
      intro q
      rw [i32_p1]
      exact (ih f (j + 1) a48 B t2 w2 t3 w3 t4 w4 t5 w5 t6 w6 t7 w7 (by omega) (by omega) hN).mono (fun r ⟨B', g1, g2⟩ => ⟨B', g1, g2.ext (fun z o => ex_skip (fun h => q (EE_aff hW h)))⟩)
    rw [af0]
    refine Rt.eqb rfl ?_
    by_cases c0 : cst y LO 0 (z0 + j % 2 * 2 ^ b) ≤ y (8 + 0)
    · refine Rt.iff (by rw [bI_0]; exact fun q => q c0) ?_
      rw [af1]
      refine Rt.eqb rfl ?_
      by_cases c1 : cst y LO 1 (o0 + j / 2 * 2 ^ b) ≤ y (8 + 1)
      · refine Rt.iff (by rw [bI_0]; exact fun q => q c1) ?_
        rw [x_chanceWith hW hB hb (st_both hz ho hj)]
        refine Rt.eqb rfl (Rt.ift rfl ?_)
        have cr := chn_rng (y := y) (LO := LO) (b := b) (h := (((y 6).toNat : Nat) : Int)) (f := ((fv y (z0 + j % 2 * 2 ^ b) (o0 + j / 2 * 2 ^ b) b : Nat) : Int)) (m := 0)
        refine Rt.bind (x_voteAfter hFu cr.1 cr.2 hT (by rw [cl_cnt, hK]; omega)) (fun r1 hr1 => ?_)
        have hT2 : RT (cl (y 4).toNat.testBit (chs y LO (z0 + j % 2 * 2 ^ b) (o0 + j / 2 * 2 ^ b)) c) r1.1 r1.2 := by
          have e := cl_gap (t := (y 4).toNat.testBit) (p := chs y LO (z0 + j % 2 * 2 ^ b) (o0 + j / 2 * 2 ^ b)) (c - (b + 1)) (b + 1) (fun k k1 k2 => hgap k k1 (by omega))
          rw [show b + 1 + (c - (b + 1)) = c by omega] at e
          rw [e, st_cl hz ho (by omega) (by omega) ht]; exact hr1
        have pc : 2 ^ (b + 1) ≤ 2 ^ c := Nat.pow_le_pow_right (by omega) hc
        refine Rt.bind (x_pf2 hFu hW hB (b := c) htc hKc (Nat.lt_of_lt_of_le l1 pc) (Nat.lt_of_lt_of_le l2 pc) (st_sub hz (by omega) sz ht) (st_sub ho (by omega) so ht) hT2 a48 B _ _ _ _ _ _ _ _ _ _ hN) (fun r2 ⟨B1, n1, n2⟩ => ?_)
        rw [i32_p1]
        exact (ih f (j + 1) r2.1 B1 r1.1 r1.2 r2.2.1 r2.2.2.1 r2.2.2.2.1 r2.2.2.2.2.1 r2.2.2.2.2.2.1 r2.2.2.2.2.2.2.1 r2.2.2.2.2.2.2.2.1 r2.2.2.2.2.2.2.2.2.1 r2.2.2.2.2.2.2.2.2.2.1 r2.2.2.2.2.2.2.2.2.2.2 (by omega) (by omega) n1).mono (fun r ⟨B', g1, g2⟩ => ⟨B', g1, (n2.comp g2).ext (fun z o => ex_take hj (EE_skip hc hgap))⟩)
      · exact Rt.ift (by rw [bI_0]; exact c1) (skip (fun q => c1 q.2))
    · exact Rt.ift (by rw [bI_0]; exact c0) (skip (fun q => c0 q.1))
theorem x_pf1 (hFu : 6000 ≤ Fu) {vb vs vsd vq : Int32} {a43 a44 a46 a47 a49 : Nat → Int32} (hW : WF y) (hB : BK y LO vb vs vsd vq a43 a44 a46 a47 a49) {b z0 o0 : Nat} (ht : (y 4).toNat.testBit b = true) (hK : bcn (y 4).toNat b = 1) (hz : z0 < 2 ^ b) (ho : o0 < 2 ^ b) (sz : z0 &&& (y 4).toNat = z0) (so : o0 &&& (y 4).toNat = o0) {t1 : Int32} {w1 : Nat → Int64} (hT : RT (cl (y 4).toNat.testBit (chs y LO z0 o0) b) t1 w1) (a48 : Nat → Int64) (B : Nat → Int) (t2 : Int32) (w2 : Nat → Int64) (t3 : Int32) (w3 : Nat → Int64) (t4 : Int32) (w4 : Nat → Int64) (t5 : Int32) (w5 : Nat → Int64) (t6 : Int32) (w6 : Nat → Int64) (t7 : Int32) (w7 : Nat → Int64) (hN : NB a48 B) : Rt (fX1_pairFrom_p1 Fu vsd vq a43 a44 a46 a47 a48 a49 t1 w1 t2 w2 t3 w3 t4 w4 t5 w5 t6 w6 t7 w7 (i32 (z0 : Int)) (i32 (o0 : Int))) (fun r => ∃ B', NB r.1 B' ∧ Nt (wn y LO) B B' (EE y LO b z0 o0)) := by
  obtain ⟨hb, hb8⟩ := seat_rng hW ht
  obtain ⟨s, n, e4, e0, hn, hs1, hs, hbn⟩ := hW.seats
  have e1 : bcn (y 4).toNat (b + 1) = 2 := by show bcn (y 4).toNat b + (if (y 4).toNat.testBit b then 1 else 0) = _; rw [ht, hK]; rfl
  have mo := bcn_mono (s := (y 4).toNat) (a := b + 1) (8 - (b + 1))
  rw [show b + 1 + (8 - (b + 1)) = 8 by omega] at mo
  have b8 := bcn_le (y 4).toNat 8
  have hq := hW.quota
  have ev := hB.2.2.2.1
  have eqn : vq = i32 (((y 5).toNat : Nat) : Int) := by rw [hB.2.2.1]; congr 1; omega
  have ha : fX8_atLeast Fu t1 w1 vq = some (i64 (al (cl (y 4).toNat.testBit (chs y LO z0 o0) b) (y 5).toNat)) := by rw [eqn]; exact x_atLeast hFu hT (by omega)
  have hj : fX8_just t1 w1 (vq - 1) = some (i64 (vt (cl (y 4).toNat.testBit (chs y LO z0 o0) b) ((y 5).toNat - 1))) := by
    rw [eqn, show i32 (((y 5).toNat : Nat) : Int) - 1 = i32 ((((y 5).toNat - 1 : Nat) : Nat) : Int) by rw [i32_litN 1, i32_sub]; congr 1; omega, x_just hT (by omega) (by omega), if_neg (by omega), Int.toNat_natCast]
  have ea : a49 (OfNat.ofNat 1 : Int32).toNatClampNeg = i32 (b : Int) := by rw [i32_nn9 (by decide), ← hK]; exact hB.2.2.2.2.2.2.2.2 b hb ht
  have fin : ∀ {a : Nat → Int64}, (∃ B', NB a B' ∧ Nt (wn y LO) B B' (fun z o => ∃ i, 0 ≤ i ∧ i < 4 ∧ EE y LO (b + 1) (z0 + i % 2 * 2 ^ b) (o0 + i / 2 * 2 ^ b) z o)) → ∃ B', NB a B' ∧ Nt (wn y LO) B B' (EE y LO b z0 o0) := by
    rintro a ⟨B', g1, g2⟩
    refine ⟨B', g1, g2.ext (fun z o => ?_)⟩
    rw [EE_four hz ho]
    exact ⟨fun ⟨i, h1, h2⟩ => ⟨i, by omega, h1, h2⟩, fun ⟨i, _, h1, h2⟩ => ⟨i, h1, h2⟩⟩
  unfold fX1_pairFrom_p1
  rw [ea]
  refine Rt.ift (by rw [ev, i32_litN 1, i32_lt (by omega) (by omega) (by omega) (by omega)]; omega) ?_
  rw [gd9 (by decide) (by decide)]
  by_cases cl : bcn (y 4).toNat 8 = 2
  · refine Rt.iff (by rw [ev, i32_litN 2, i32_lt (by omega) (by omega) (by omega) (by omega)]; omega) ?_
    unfold fX1_pairFrom_p1_L32
    refine Rt.iff (by decide) ?_
    rw [ha]
    refine Rt.eqb rfl ?_
    unfold fX1_pairFrom_p1_L60
    refine Rt.iff (by decide) ?_
    rw [hj]
    refine Rt.eqb rfl ?_
    unfold fX1_pairFrom_p1_L86
    exact (x_pl1 hFu hW hB ht (seat_last hb8 ht hK cl (by omega)) hz ho sz so (i64_mul _ 100) rfl 4 Fu 0 a48 B (by omega) (by omega) hN).mono (fun r hr => fin hr)
  · obtain ⟨c, c1, c2, c3, c4, c5⟩ := seat_next hb8 ht hK (by omega)
    refine Rt.ift (by rw [ev, i32_litN 2, i32_lt (by omega) (by omega) (by omega) (by omega)]; omega) ?_
    unfold fX1_pairFrom_p1_L32
    refine Rt.ift rfl ?_
    unfold fX1_pairFrom_p1_L60
    refine Rt.ift rfl ?_
    unfold fX1_pairFrom_p1_L86
    exact (x_pn1 hFu hW hB ht hK c1 c3 c4 c5 hz ho sz so hT 4 Fu 0 a48 B t2 w2 t3 w3 t4 w4 t5 w5 t6 w6 t7 w7 (by omega) (by omega) hN).mono (fun r hr => fin hr)
theorem x_pl0 (hFu : 6000 ≤ Fu) {vb vs vsd vq : Int32} {a43 a44 a46 a47 a49 : Nat → Int32} (hW : WF y) (hB : BK y LO vb vs vsd vq a43 a44 a46 a47 a49) {b z0 o0 : Nat} (ht : (y 4).toNat.testBit b = true) (hlast : ∀ k, b + 1 ≤ k → (y 4).toNat.testBit k = false) (hz : z0 < 2 ^ b) (ho : o0 < 2 ^ b) (sz : z0 &&& (y 4).toNat = z0) (so : o0 &&& (y 4).toNat = o0) {x6 x8 : Int64} (e6 : x6 = i64 (al (cl (y 4).toNat.testBit (chs y LO z0 o0) b) (y 5).toNat * 100)) (e8 : x8 = i64 (vt (cl (y 4).toNat.testBit (chs y LO z0 o0) b) ((y 5).toNat - 1))) {t0 : Int32} {w0 : Nat → Int64} {t1 : Int32} {w1 : Nat → Int64} {t2 : Int32} {w2 : Nat → Int64} {t3 : Int32} {w3 : Nat → Int64} {t4 : Int32} {w4 : Nat → Int64} {t5 : Int32} {w5 : Nat → Int64} {t6 : Int32} {w6 : Nat → Int64} {t7 : Int32} {w7 : Nat → Int64} :
    ∀ (d f j : Nat) (a48 : Nat → Int64) (B : Nat → Int), j + d = 4 → d < f → NB a48 B → Rt (fX1_pairFrom_p0_L91 Fu f vsd vq a43 a44 a46 a47 a48 a49 t0 w0 t1 w1 t2 w2 t3 w3 t4 w4 t5 w5 t6 w6 t7 w7 (i32 (z0 : Int)) (i32 (o0 : Int)) (i32 (b : Int)) 1 x6 x8 (i32 (j : Int))) (fun r => ∃ B', NB r.1 B' ∧ Nt (wn y LO) B B' (fun z o => ∃ i, j ≤ i ∧ i < 4 ∧ EE y LO (b + 1) (z0 + i % 2 * 2 ^ b) (o0 + i / 2 * 2 ^ b) z o)) := by
  obtain ⟨hb, hb8⟩ := seat_rng hW ht
  have h0 := hW.1
  intro d
  induction d with
  | zero =>
    intro f j a48 B hjd hf hN
    obtain ⟨f, rfl⟩ : ∃ g, f = g + 1 := ⟨f - 1, by omega⟩
    rw [fX1_pairFrom_p0_L91]
    exact Rt.ift (by rw [i32_litN 3, i32_lt (by omega) (by omega) (by omega) (by omega)]; omega) (Rt.ret ⟨B, hN, Nt.none (fun z o ⟨i, h1, h2, _⟩ => by omega)⟩)
  | succ d ih =>
    intro f j a48 B hjd hf hN
    obtain ⟨f, rfl⟩ : ∃ g, f = g + 1 := ⟨f - 1, by omega⟩
    have hj : j < 4 := by omega
    rw [fX1_pairFrom_p0_L91]
    refine Rt.iff (by rw [i32_litN 3, i32_lt (by omega) (by omega) (by omega) (by omega)]; omega) ?_
    rw [st_zero hb8 hz hj, st_one hb8 ho hj]
    have l1 := st_lt (b := b) (e := j % 2) hz (by omega)
    have l2 := st_lt (b := b) (e := j / 2) ho (by omega)
    have p8 : 2 ^ (b + 1) ≤ 2 ^ (y 0).toNat := Nat.pow_le_pow_right (by omega) (by omega)
    have p9 := p2_256 hW
    have af0 : fX1_affords a46 a47 0 (i32 ((z0 + j % 2 * 2 ^ b : Nat) : Int)) = some (bI (cst y LO 0 (z0 + j % 2 * 2 ^ b) ≤ y (8 + 0))) := x_affords hW hB (sd := 0) (by omega) (Nat.lt_of_lt_of_le l1 p8)
    have af1 : fX1_affords a46 a47 1 (i32 ((o0 + j / 2 * 2 ^ b : Nat) : Int)) = some (bI (cst y LO 1 (o0 + j / 2 * 2 ^ b) ≤ y (8 + 1))) := x_affords hW hB (sd := 1) (by omega) (Nat.lt_of_lt_of_le l2 p8)
    have skip : ¬ (cst y LO 0 (z0 + j % 2 * 2 ^ b) ≤ y (8 + 0) ∧ cst y LO 1 (o0 + j / 2 * 2 ^ b) ≤ y (8 + 1)) → Rt (fX1_pairFrom_p0_L91 Fu f vsd vq a43 a44 a46 a47 a48 a49 t0 w0 t1 w1 t2 w2 t3 w3 t4 w4 t5 w5 t6 w6 t7 w7 (i32 (z0 : Int)) (i32 (o0 : Int)) (i32 (b : Int)) 1 x6 x8 (i32 (j : Int) + 1)) (fun r => ∃ B', NB r.1 B' ∧ Nt (wn y LO) B B' (fun z o => ∃ i, j ≤ i ∧ i < 4 ∧ EE y LO (b + 1) (z0 + i % 2 * 2 ^ b) (o0 + i / 2 * 2 ^ b) z o)) := by
      intro q
      rw [i32_p1]
      exact (ih f (j + 1) a48 B (by omega) (by omega) hN).mono (fun r ⟨B', g1, g2⟩ => ⟨B', g1, g2.ext (fun z o => ex_skip (fun h => q (EE_aff hW h)))⟩)
    rw [af0]
    refine Rt.eqb rfl ?_
    by_cases c0 : cst y LO 0 (z0 + j % 2 * 2 ^ b) ≤ y (8 + 0)
    · refine Rt.iff (by rw [bI_0]; exact fun q => q c0) ?_
      rw [af1]
      refine Rt.eqb rfl ?_
      by_cases c1 : cst y LO 1 (o0 + j / 2 * 2 ^ b) ≤ y (8 + 1)
      · refine Rt.iff (by rw [bI_0]; exact fun q => q c1) ?_
        rw [x_chanceWith hW hB hb (st_both hz ho hj)]
        refine Rt.eqb rfl (Rt.iff (by decide) ?_)
        have cr := chn_rng (y := y) (LO := LO) (b := b) (h := (((y 6).toNat : Nat) : Int)) (f := ((fv y (z0 + j % 2 * 2 ^ b) (o0 + j / 2 * 2 ^ b) b : Nat) : Int)) (m := 0)
        have hq := hW.quota
        have wr := wnO_rng (y := y) (LO := LO) (bn := (y 4).toNat) (q := (y 5).toNat) (z := z0 + j % 2 * 2 ^ b) (o := o0 + j / 2 * 2 ^ b)
        have ev : x6 + x8 * (i32 (chn y LO b (((y 6).toNat : Nat) : Int) ((fv y (z0 + j % 2 * 2 ^ b) (o0 + j / 2 * 2 ^ b) b : Nat) : Int) 0)).toInt64 = i64 (wn y LO (z0 + j % 2 * 2 ^ b) (o0 + j / 2 * 2 ^ b)) := by
          rw [wn_last hW hlast hb8, st_cl hz ho (by omega) (by omega) ht, i32_64 (by omega) (by omega), e6, e8, i64_mul, i64_add]
          have la := al_cons (L := (cl (y 4).toNat.testBit (chs y LO z0 o0) b)) (p := chs y LO (z0 + j % 2 * 2 ^ b) (o0 + j / 2 * 2 ^ b) b) (q := (y 5).toNat - 1) (by have := cl_len (y 4).toNat.testBit (chs y LO z0 o0) b; omega)
          rw [show (y 5).toNat - 1 + 1 = (y 5).toNat by omega] at la
          rw [la]
        refine Rt.bind (x_note hN (W := wn y LO) (by omega) (by omega) ev wr.1 wr.2) (fun r2 ⟨B1, n1, n2⟩ => ?_)
        rw [i32_p1]
        exact (ih f (j + 1) r2 B1 (by omega) (by omega) n1).mono (fun r ⟨B', g1, g2⟩ => ⟨B', g1, (n2.comp g2).ext (fun z o => ex_take hj (EE_last hW hlast (st_sub hz (by omega) sz ht) (st_sub ho (by omega) so ht) c0 c1 z o))⟩)
      · exact Rt.ift (by rw [bI_0]; exact c1) (skip (fun q => c1 q.2))
    · exact Rt.ift (by rw [bI_0]; exact c0) (skip (fun q => c0 q.1))
theorem x_pn0 (hFu : 6000 ≤ Fu) {vb vs vsd vq : Int32} {a43 a44 a46 a47 a49 : Nat → Int32} (hW : WF y) (hB : BK y LO vb vs vsd vq a43 a44 a46 a47 a49) {b z0 o0 : Nat} (ht : (y 4).toNat.testBit b = true) (hK : bcn (y 4).toNat b = 0) {c : Nat} (hc : b + 1 ≤ c) (htc : (y 4).toNat.testBit c = true) (hKc : bcn (y 4).toNat c = 1) (hgap : ∀ k, b + 1 ≤ k → k < c → (y 4).toNat.testBit k = false) (hz : z0 < 2 ^ b) (ho : o0 < 2 ^ b) (sz : z0 &&& (y 4).toNat = z0) (so : o0 &&& (y 4).toNat = o0) {x6 x8 : Int64} {t0 : Int32} {w0 : Nat → Int64} (hT : RT (cl (y 4).toNat.testBit (chs y LO z0 o0) b) t0 w0) :
    ∀ (d f j : Nat) (a48 : Nat → Int64) (B : Nat → Int) (t1 : Int32) (w1 : Nat → Int64) (t2 : Int32) (w2 : Nat → Int64) (t3 : Int32) (w3 : Nat → Int64) (t4 : Int32) (w4 : Nat → Int64) (t5 : Int32) (w5 : Nat → Int64) (t6 : Int32) (w6 : Nat → Int64) (t7 : Int32) (w7 : Nat → Int64), j + d = 4 → d < f → NB a48 B → Rt (fX1_pairFrom_p0_L91 Fu f vsd vq a43 a44 a46 a47 a48 a49 t0 w0 t1 w1 t2 w2 t3 w3 t4 w4 t5 w5 t6 w6 t7 w7 (i32 (z0 : Int)) (i32 (o0 : Int)) (i32 (b : Int)) 0 x6 x8 (i32 (j : Int))) (fun r => ∃ B', NB r.1 B' ∧ Nt (wn y LO) B B' (fun z o => ∃ i, j ≤ i ∧ i < 4 ∧ EE y LO (b + 1) (z0 + i % 2 * 2 ^ b) (o0 + i / 2 * 2 ^ b) z o)) := by
  obtain ⟨hb, hb8⟩ := seat_rng hW ht
  have h0 := hW.1
  intro d
  induction d with
  | zero =>
    intro f j a48 B t1 w1 t2 w2 t3 w3 t4 w4 t5 w5 t6 w6 t7 w7 hjd hf hN
    obtain ⟨f, rfl⟩ : ∃ g, f = g + 1 := ⟨f - 1, by omega⟩
    rw [fX1_pairFrom_p0_L91]
    exact Rt.ift (by rw [i32_litN 3, i32_lt (by omega) (by omega) (by omega) (by omega)]; omega) (Rt.ret ⟨B, hN, Nt.none (fun z o ⟨i, h1, h2, _⟩ => by omega)⟩)
  | succ d ih =>
    intro f j a48 B t1 w1 t2 w2 t3 w3 t4 w4 t5 w5 t6 w6 t7 w7 hjd hf hN
    obtain ⟨f, rfl⟩ : ∃ g, f = g + 1 := ⟨f - 1, by omega⟩
    have hj : j < 4 := by omega
    rw [fX1_pairFrom_p0_L91]
    refine Rt.iff (by rw [i32_litN 3, i32_lt (by omega) (by omega) (by omega) (by omega)]; omega) ?_
    rw [st_zero hb8 hz hj, st_one hb8 ho hj]
    have l1 := st_lt (b := b) (e := j % 2) hz (by omega)
    have l2 := st_lt (b := b) (e := j / 2) ho (by omega)
    have p8 : 2 ^ (b + 1) ≤ 2 ^ (y 0).toNat := Nat.pow_le_pow_right (by omega) (by omega)
    have p9 := p2_256 hW
    have af0 : fX1_affords a46 a47 0 (i32 ((z0 + j % 2 * 2 ^ b : Nat) : Int)) = some (bI (cst y LO 0 (z0 + j % 2 * 2 ^ b) ≤ y (8 + 0))) := x_affords hW hB (sd := 0) (by omega) (Nat.lt_of_lt_of_le l1 p8)
    have af1 : fX1_affords a46 a47 1 (i32 ((o0 + j / 2 * 2 ^ b : Nat) : Int)) = some (bI (cst y LO 1 (o0 + j / 2 * 2 ^ b) ≤ y (8 + 1))) := x_affords hW hB (sd := 1) (by omega) (Nat.lt_of_lt_of_le l2 p8)
    have skip : ¬ (cst y LO 0 (z0 + j % 2 * 2 ^ b) ≤ y (8 + 0) ∧ cst y LO 1 (o0 + j / 2 * 2 ^ b) ≤ y (8 + 1)) → Rt (fX1_pairFrom_p0_L91 Fu f vsd vq a43 a44 a46 a47 a48 a49 t0 w0 t1 w1 t2 w2 t3 w3 t4 w4 t5 w5 t6 w6 t7 w7 (i32 (z0 : Int)) (i32 (o0 : Int)) (i32 (b : Int)) 0 x6 x8 (i32 (j : Int) + 1)) (fun r => ∃ B', NB r.1 B' ∧ Nt (wn y LO) B B' (fun z o => ∃ i, j ≤ i ∧ i < 4 ∧ EE y LO (b + 1) (z0 + i % 2 * 2 ^ b) (o0 + i / 2 * 2 ^ b) z o)) := by
      intro q
      rw [i32_p1]
      exact (ih f (j + 1) a48 B t1 w1 t2 w2 t3 w3 t4 w4 t5 w5 t6 w6 t7 w7 (by omega) (by omega) hN).mono (fun r ⟨B', g1, g2⟩ => ⟨B', g1, g2.ext (fun z o => ex_skip (fun h => q (EE_aff hW h)))⟩)
    rw [af0]
    refine Rt.eqb rfl ?_
    by_cases c0 : cst y LO 0 (z0 + j % 2 * 2 ^ b) ≤ y (8 + 0)
    · refine Rt.iff (by rw [bI_0]; exact fun q => q c0) ?_
      rw [af1]
      refine Rt.eqb rfl ?_
      by_cases c1 : cst y LO 1 (o0 + j / 2 * 2 ^ b) ≤ y (8 + 1)
      · refine Rt.iff (by rw [bI_0]; exact fun q => q c1) ?_
        rw [x_chanceWith hW hB hb (st_both hz ho hj)]
        refine Rt.eqb rfl (Rt.ift rfl ?_)
        have cr := chn_rng (y := y) (LO := LO) (b := b) (h := (((y 6).toNat : Nat) : Int)) (f := ((fv y (z0 + j % 2 * 2 ^ b) (o0 + j / 2 * 2 ^ b) b : Nat) : Int)) (m := 0)
        refine Rt.bind (x_voteAfter hFu cr.1 cr.2 hT (by rw [cl_cnt, hK]; omega)) (fun r1 hr1 => ?_)
        have hT2 : RT (cl (y 4).toNat.testBit (chs y LO (z0 + j % 2 * 2 ^ b) (o0 + j / 2 * 2 ^ b)) c) r1.1 r1.2 := by
          have e := cl_gap (t := (y 4).toNat.testBit) (p := chs y LO (z0 + j % 2 * 2 ^ b) (o0 + j / 2 * 2 ^ b)) (c - (b + 1)) (b + 1) (fun k k1 k2 => hgap k k1 (by omega))
          rw [show b + 1 + (c - (b + 1)) = c by omega] at e
          rw [e, st_cl hz ho (by omega) (by omega) ht]; exact hr1
        have pc : 2 ^ (b + 1) ≤ 2 ^ c := Nat.pow_le_pow_right (by omega) hc
        refine Rt.bind (x_pf1 hFu hW hB (b := c) htc hKc (Nat.lt_of_lt_of_le l1 pc) (Nat.lt_of_lt_of_le l2 pc) (st_sub hz (by omega) sz ht) (st_sub ho (by omega) so ht) hT2 a48 B _ _ _ _ _ _ _ _ _ _ _ _ hN) (fun r2 ⟨B1, n1, n2⟩ => ?_)
        rw [i32_p1]
        exact (ih f (j + 1) r2.1 B1 r1.1 r1.2 r2.2.1 r2.2.2.1 r2.2.2.2.1 r2.2.2.2.2.1 r2.2.2.2.2.2.1 r2.2.2.2.2.2.2.1 r2.2.2.2.2.2.2.2.1 r2.2.2.2.2.2.2.2.2.1 r2.2.2.2.2.2.2.2.2.2.1 r2.2.2.2.2.2.2.2.2.2.2.1 r2.2.2.2.2.2.2.2.2.2.2.2.1 r2.2.2.2.2.2.2.2.2.2.2.2.2 (by omega) (by omega) n1).mono (fun r ⟨B', g1, g2⟩ => ⟨B', g1, (n2.comp g2).ext (fun z o => ex_take hj (EE_skip hc hgap))⟩)
      · exact Rt.ift (by rw [bI_0]; exact c1) (skip (fun q => c1 q.2))
    · exact Rt.ift (by rw [bI_0]; exact c0) (skip (fun q => c0 q.1))
theorem x_pf0 (hFu : 6000 ≤ Fu) {vb vs vsd vq : Int32} {a43 a44 a46 a47 a49 : Nat → Int32} (hW : WF y) (hB : BK y LO vb vs vsd vq a43 a44 a46 a47 a49) {b z0 o0 : Nat} (ht : (y 4).toNat.testBit b = true) (hK : bcn (y 4).toNat b = 0) (hz : z0 < 2 ^ b) (ho : o0 < 2 ^ b) (sz : z0 &&& (y 4).toNat = z0) (so : o0 &&& (y 4).toNat = o0) {t0 : Int32} {w0 : Nat → Int64} (hT : RT (cl (y 4).toNat.testBit (chs y LO z0 o0) b) t0 w0) (a48 : Nat → Int64) (B : Nat → Int) (t1 : Int32) (w1 : Nat → Int64) (t2 : Int32) (w2 : Nat → Int64) (t3 : Int32) (w3 : Nat → Int64) (t4 : Int32) (w4 : Nat → Int64) (t5 : Int32) (w5 : Nat → Int64) (t6 : Int32) (w6 : Nat → Int64) (t7 : Int32) (w7 : Nat → Int64) (hN : NB a48 B) : Rt (fX1_pairFrom_p0 Fu vsd vq a43 a44 a46 a47 a48 a49 t0 w0 t1 w1 t2 w2 t3 w3 t4 w4 t5 w5 t6 w6 t7 w7 (i32 (z0 : Int)) (i32 (o0 : Int))) (fun r => ∃ B', NB r.1 B' ∧ Nt (wn y LO) B B' (EE y LO b z0 o0)) := by
  obtain ⟨hb, hb8⟩ := seat_rng hW ht
  obtain ⟨s, n, e4, e0, hn, hs1, hs, hbn⟩ := hW.seats
  have e1 : bcn (y 4).toNat (b + 1) = 1 := by show bcn (y 4).toNat b + (if (y 4).toNat.testBit b then 1 else 0) = _; rw [ht, hK]; rfl
  have mo := bcn_mono (s := (y 4).toNat) (a := b + 1) (8 - (b + 1))
  rw [show b + 1 + (8 - (b + 1)) = 8 by omega] at mo
  have b8 := bcn_le (y 4).toNat 8
  have hq := hW.quota
  have ev := hB.2.2.2.1
  have eqn : vq = i32 (((y 5).toNat : Nat) : Int) := by rw [hB.2.2.1]; congr 1; omega
  have ha : fX8_atLeast Fu t0 w0 vq = some (i64 (al (cl (y 4).toNat.testBit (chs y LO z0 o0) b) (y 5).toNat)) := by rw [eqn]; exact x_atLeast hFu hT (by omega)
  have hj : fX8_just t0 w0 (vq - 1) = some (i64 (vt (cl (y 4).toNat.testBit (chs y LO z0 o0) b) ((y 5).toNat - 1))) := by
    rw [eqn, show i32 (((y 5).toNat : Nat) : Int) - 1 = i32 ((((y 5).toNat - 1 : Nat) : Nat) : Int) by rw [i32_litN 1, i32_sub]; congr 1; omega, x_just hT (by omega) (by omega), if_neg (by omega), Int.toNat_natCast]
  have ea : a49 (OfNat.ofNat 0 : Int32).toNatClampNeg = i32 (b : Int) := by rw [i32_nn9 (by decide), ← hK]; exact hB.2.2.2.2.2.2.2.2 b hb ht
  have fin : ∀ {a : Nat → Int64}, (∃ B', NB a B' ∧ Nt (wn y LO) B B' (fun z o => ∃ i, 0 ≤ i ∧ i < 4 ∧ EE y LO (b + 1) (z0 + i % 2 * 2 ^ b) (o0 + i / 2 * 2 ^ b) z o)) → ∃ B', NB a B' ∧ Nt (wn y LO) B B' (EE y LO b z0 o0) := by
    rintro a ⟨B', g1, g2⟩
    refine ⟨B', g1, g2.ext (fun z o => ?_)⟩
    rw [EE_four hz ho]
    exact ⟨fun ⟨i, h1, h2⟩ => ⟨i, by omega, h1, h2⟩, fun ⟨i, _, h1, h2⟩ => ⟨i, h1, h2⟩⟩
  unfold fX1_pairFrom_p0
  rw [ea]
  refine Rt.ift (by rw [ev, i32_litN 0, i32_lt (by omega) (by omega) (by omega) (by omega)]; omega) ?_
  rw [gd9 (by decide) (by decide)]
  by_cases cl : bcn (y 4).toNat 8 = 1
  · refine Rt.iff (by rw [ev, i32_litN 1, i32_lt (by omega) (by omega) (by omega) (by omega)]; omega) ?_
    unfold fX1_pairFrom_p0_L32
    refine Rt.iff (by decide) ?_
    rw [ha]
    refine Rt.eqb rfl ?_
    unfold fX1_pairFrom_p0_L60
    refine Rt.iff (by decide) ?_
    rw [hj]
    refine Rt.eqb rfl ?_
    unfold fX1_pairFrom_p0_L86
    exact (x_pl0 hFu hW hB ht (seat_last hb8 ht hK cl (by omega)) hz ho sz so (i64_mul _ 100) rfl 4 Fu 0 a48 B (by omega) (by omega) hN).mono (fun r hr => fin hr)
  · obtain ⟨c, c1, c2, c3, c4, c5⟩ := seat_next hb8 ht hK (by omega)
    refine Rt.ift (by rw [ev, i32_litN 1, i32_lt (by omega) (by omega) (by omega) (by omega)]; omega) ?_
    unfold fX1_pairFrom_p0_L32
    refine Rt.ift rfl ?_
    unfold fX1_pairFrom_p0_L60
    refine Rt.ift rfl ?_
    unfold fX1_pairFrom_p0_L86
    exact (x_pn0 hFu hW hB ht hK c1 c3 c4 c5 hz ho sz so hT 4 Fu 0 a48 B t1 w1 t2 w2 t3 w3 t4 w4 t5 w5 t6 w6 t7 w7 (by omega) (by omega) hN).mono (fun r hr => fin hr)
end PAIRF
