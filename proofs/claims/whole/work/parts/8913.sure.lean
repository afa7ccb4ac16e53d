section SURE
variable {y : Nat → Int} {row : Nat → Int32} {beasts meals seats laws inForce cases : Int32} {tr mh te rs ju vo : Nat → Int32} {Fu : Nat} {LO : Option LwS}
/-! the reference's table of all pairs -/
def TB (y : Nat → Int) (LO : Option LwS) (tb : Nat → Int64) : Prop := ∀ z o, cnS y LO 0 z → cnS y LO 1 o → tb (256 * z + o) = i64 (wn y LO z o)
theorem v_tabI (hFu : 6000 ≤ Fu) (hM : RM y row) (hW : WF y) {lw : Int32} {set rs : Nat → Int64} {br : Int32} {val sum : Int64} {ch co pc : Nat → Int32} (hc : CH y LO (y 6).toNat ch) (hC : CT y LO co) {z : Nat} (hz : z < 256) {tb0 : Nat → Int64} {k6 : _} {P : _ → Prop}
    (hk : ∀ vs tb, (∀ o, cnS y LO 0 z → cnS y LO 1 o → tb (256 * z + o) = i64 (wn y LO z o)) → (∀ k, k < 256 * z → tb k = tb0 k) → Rt (k6 row lw set rs br val sum ch vs co tb pc (i32 ((z + 1 : Nat) : Int))) P) :
    ∀ (d f o : Nat) (vs tb : Nat → Int64), o + d = 256 → d < f → (∀ o', o' < o → cnS y LO 0 z → cnS y LO 1 o' → tb (256 * z + o') = i64 (wn y LO z o')) → (∀ k, k < 256 * z → tb k = tb0 k) → Rt (fX12_layTable_L15 Fu k6 f row lw set rs br val sum ch vs co tb pc (i32 (z : Int)) (i32 (o : Int))) P := by
  obtain ⟨t, n, e4, e0, hn, hs1, hs, hb⟩ := hW.seats
  intro d
  induction d with
  | zero =>
    intro f o vs tb ho hf h1 h2
    obtain ⟨f, rfl⟩ : ∃ f', f = f' + 1 := ⟨f - 1, by omega⟩
    rw [fX12_layTable_L15]
    refine Rt.ift (by rw [i32_litN 256, i32_le (by omega) (by omega) (by omega) (by omega)]; omega) ?_
    rw [i32_p1]
    exact hk vs tb (fun o' q1 q2 => h1 o' (by have := (cn_lt hW q2).2.2; omega) q1 q2) h2
  | succ d ih =>
    intro f o vs tb ho hf h1 h2
    obtain ⟨f, rfl⟩ : ∃ f', f = f' + 1 := ⟨f - 1, by omega⟩
    have k0 : fX12_can row co 0 (i32 (z : Int)) = some (bI (cnS y LO 0 z)) := v_canN hM hW hC (sd := 0) (by omega) (by omega)
    have k1 : fX12_can row co 1 (i32 (o : Int)) = some (bI (cnS y LO 1 o)) := v_canN hM hW hC (sd := 1) (by omega) (by omega)
    rw [fX12_layTable_L15]
    refine Rt.iff (by rw [i32_litN 256, i32_le (by omega) (by omega) (by omega) (by omega)]; omega) ?_
    rw [k0]
    refine Rt.eqb rfl ?_
    by_cases c0 : cnS y LO 0 z
    · refine Rt.iff (by rw [bI_0]; exact fun q => q c0) ?_
      rw [k1]
      refine Rt.eqb rfl ?_
      by_cases c1 : cnS y LO 1 o
      · refine Rt.iff (by rw [bI_0]; exact fun q => q c1) ?_
        rw [gd9 (by decide) (by decide), v_quota hM, i32_nn9 (by decide), hM 4 (by omega)]
        refine Rt.eqb rfl (Rt.bind (v_winsS hFu hM hW hc hz (by omega)) (fun r hr => ?_))
        rw [show (256 : Int32) * i32 (z : Int) + i32 (o : Int) = i32 ((256 * z + o : Nat) : Int) by rw [i32_litN 256, i32_mul, i32_add]; congr 1 <;> omega]
        refine Rt.gd (by omega) (by omega) (by omega) ?_
        rw [i32_nat (by omega) (by omega), Int.toNat_natCast, i32_p1, hr]
        refine ih f (o + 1) r.2 _ (by omega) (by omega) (fun o' q0 q1 q2 => ?_) (fun k hk => ?_)
        · by_cases c : o' = o
          · subst c; rw [va_up_at]
          · rw [va_up_ne _ _ (by omega)]; exact h1 o' (by omega) q1 q2
        · rw [va_up_ne _ _ (by omega)]; exact h2 k hk
      · refine Rt.ift (by rw [bI_0]; exact c1) ?_
        rw [i32_p1]
        refine ih f (o + 1) vs tb (by omega) (by omega) (fun o' q0 q1 q2 => ?_) h2
        by_cases c : o' = o
        · subst c; exact absurd q2 c1
        · exact h1 o' (by omega) q1 q2
    · refine Rt.ift (by rw [bI_0]; exact c0) ?_
      rw [i32_p1]
      exact hk vs tb (fun o' q1 q2 => absurd q1 c0) h2
theorem v_tabL (hFu : 6000 ≤ Fu) (hM : RM y row) (hW : WF y) {lw : Int32} {set rs : Nat → Int64} {br : Int32} {val sum : Int64} {ch co pc : Nat → Int32} (hc : CH y LO (y 6).toNat ch) (hC : CT y LO co) :
    ∀ (d f z : Nat) (vs tb : Nat → Int64), z + d = 256 → d < f → (∀ z' o, z' < z → cnS y LO 0 z' → cnS y LO 1 o → tb (256 * z' + o) = i64 (wn y LO z' o)) → Rt (fX12_layTable_L6 Fu f row lw set rs br val sum ch vs co tb pc (i32 (z : Int))) (fun r => CH y LO (y 6).toNat r.2.2.2.2.2.2.1 ∧ CT y LO r.2.2.2.2.2.2.2.2.1 ∧ TB y LO r.2.2.2.2.2.2.2.2.2.1) := by
  intro d
  induction d with
  | zero =>
    intro f z vs tb hz hf h1
    obtain ⟨f, rfl⟩ : ∃ f', f = f' + 1 := ⟨f - 1, by omega⟩
    rw [fX12_layTable_L6]
    exact Rt.ift (by rw [i32_litN 256, i32_le (by omega) (by omega) (by omega) (by omega)]; omega) (Rt.ret ⟨hc, hC, fun z' o q1 q2 => h1 z' o (by have := (cn_lt hW q1).2.2; omega) q1 q2⟩)
  | succ d ih =>
    intro f z vs tb hz hf h1
    obtain ⟨f, rfl⟩ : ∃ f', f = f' + 1 := ⟨f - 1, by omega⟩
    rw [fX12_layTable_L6]
    refine Rt.iff (by rw [i32_litN 256, i32_le (by omega) (by omega) (by omega) (by omega)]; omega) ?_
    refine v_tabI hFu hM hW hc hC (z := z) (by omega) (tb0 := tb) (fun vs2 tb2 g1 g2 => ?_) 256 Fu 0 vs tb (by omega) (by omega) (fun o' q => by omega) (fun k _ => rfl)
    refine ih f (z + 1) vs2 tb2 (by omega) (by omega) (fun z' o q q1 q2 => ?_)
    by_cases c : z' = z
    · subst c; exact g1 o q1 q2
    · have := (cn_lt hW q2).2.2
      rw [g2 _ (by omega)]; exact h1 z' o (by omega) q1 q2
theorem v_table (hFu : 6000 ≤ Fu) (hM : RM y row) (hW : WF y) (hO : MO y LO) {lw : Int32} {set rs : Nat → Int64} {br : Int32} {val sum : Int64} {ch co pc : Nat → Int32} {vs tb : Nat → Int64} : Rt (fX12_layTable Fu row lw set rs br val sum ch vs co tb pc) (fun r => CH y LO (y 6).toNat r.2.2.2.2.2.2.1 ∧ CT y LO r.2.2.2.2.2.2.2.2.1 ∧ TB y LO r.2.2.2.2.2.2.2.2.2.1) := by
  unfold fX12_layTable
  exact Rt.bind (v_layBribes hFu hM hW hO) (fun r hr => v_tabL hFu hM hW hr.1 hr.2 256 Fu 0 vs tb (by omega) (by omega) (fun z' o q => by omega))
/-! the reference's surest -/
def lvN (y : Nat → Int) (LO : Option LwS) (sd s n : Nat) : Int := if sd = 0 then mnF (cnT y LO 1) (fun o => wn y LO s o) n else mxF (cnT y LO 0) (fun z => wn y LO z s) n
theorem lvN_256 {sd s : Nat} : lvN y LO sd s 256 = lv y LO sd s := rfl
theorem lvN_rng {sd s n : Nat} : -1 ≤ lvN y LO sd s n ∧ lvN y LO sd s n ≤ 1000000000000000000 := by
  have h1 := mnF_rng (t := cnT y LO 1) (f := fun o => wn y LO s o) (fun _ => wnO_rng) n
  have h2 := mxF_rng (t := cnT y LO 0) (f := fun z => wn y LO z s) (fun _ => wnO_rng) n
  unfold lvN
  split <;> omega
theorem lvN_step {sd s o : Nat} (hsd : sd < 2) : lvN y LO sd s (o + 1) = if cnT y LO (1 - sd) o = true ∧ wrt sd (wnB y LO sd s o) < wrt sd (lvN y LO sd s o) then wnB y LO sd s o else lvN y LO sd s o := by
  rcases (show sd = 0 ∨ sd = 1 by omega) with rfl | rfl
  · rfl
  · show (if cnT y LO 0 o = true ∧ mxF (cnT y LO 0) (fun z => wn y LO z s) o < wn y LO o s then wn y LO o s else mxF (cnT y LO 0) (fun z => wn y LO z s) o) = (if cnT y LO 0 o = true ∧ - wn y LO o s < - mxF (cnT y LO 0) (fun z => wn y LO z s) o then wn y LO o s else mxF (cnT y LO 0) (fun z => wn y LO z s) o)
    by_cases c : cnT y LO 0 o = true ∧ mxF (cnT y LO 0) (fun z => wn y LO z s) o < wn y LO o s
    · rw [if_pos c, if_pos ⟨c.1, by omega⟩]
    · rw [if_neg c, if_neg (fun q => c ⟨q.1, by omega⟩)]
theorem v_at {tb : Nat → Int64} (hT : TB y LO tb) (hW : WF y) {sd s o : Nat} (hsd : sd < 2) (hs : cnS y LO sd s) (ho : cnS y LO (1 - sd) o) : fX12_at tb (i32 (sd : Int)) (i32 (s : Int)) (i32 (o : Int)) = some (i64 (wnB y LO sd s o)) := by
  have l1 := (cn_lt hW hs).2.2
  have l2 := (cn_lt hW ho).2.2
  have e : ∀ a b : Nat, (256 : Int32) * i32 (a : Int) + i32 (b : Int) = i32 ((256 * a + b : Nat) : Int) := by
    intro a b; rw [i32_litN 256, i32_mul, i32_add]; congr 1 <;> omega
  unfold fX12_at
  rw [e, e, gd_ok (by omega) (by omega) (by omega), gd_ok (by omega) (by omega) (by omega), i32_nat (by omega) (by omega), i32_nat (by omega) (by omega), Int.toNat_natCast, Int.toNat_natCast]
  unfold wnB
  rcases (show sd = 0 ∨ sd = 1 by omega) with rfl | rfl
  · rw [if_pos (show i32 ((0 : Nat) : Int) = 0 from rfl), if_pos rfl, hT s o hs ho]
  · rw [if_neg (by decide), if_neg (by omega), hT o s ho hs]
theorem v_better1 {co : Nat → Int32} {x1 x4 : Int32} {x2 x5 : Int64} : fX12_isBetter co x1 x2 x4 x5 (i32 (-1)) = some 1 := if_pos rfl
theorem v_sureI (hM : RM y row) (hW : WF y) {lw : Int32} {set rs vs : Nat → Int64} {br : Int32} {val sum : Int64} {ch co pc : Nat → Int32} {tb : Nat → Int64} (hC : CT y LO co) (hT : TB y LO tb) {sd s : Nat} (hsd : sd < 2) (hs : cnS y LO sd s) {sy : Int64} {be : Int32} {k8 : _} {P : _ → Prop}
    (hk : ∀ f, 0 < f → Rt (fX12_findSure_L42 Fu k8 f row lw set rs br val sum ch vs co tb pc sy (i32 (sd : Int)) be (i32 (s : Int)) (i64 (lv y LO sd s)) (i32 ((256 : Nat) : Int))) P) :
    ∀ (d f o : Nat), o + d = 256 → d < f → Rt (fX12_findSure_L42 Fu k8 f row lw set rs br val sum ch vs co tb pc sy (i32 (sd : Int)) be (i32 (s : Int)) (i64 (lvN y LO sd s o)) (i32 (o : Int))) P := by
  have l1 := (cn_lt hW hs).2.2
  intro d
  induction d with
  | zero =>
    intro f o ho hf
    obtain rfl : o = 256 := by omega
    exact hk f (by omega)
  | succ d ih =>
    intro f o ho hf
    obtain ⟨f, rfl⟩ : ∃ f', f = f' + 1 := ⟨f - 1, by omega⟩
    have st := lvN_step (y := y) (LO := LO) (s := s) (o := o) hsd
    have lr := lvN_rng (y := y) (LO := LO) (sd := sd) (s := s) (n := o)
    have wr := wnB_rng (y := y) (LO := LO) (sd := sd) (a := s) (b := o)
    rw [fX12_findSure_L42]
    refine Rt.iff (by rw [i32_litN 256, i32_le (by omega) (by omega) (by omega) (by omega)]; omega) ?_
    rw [show (1 : Int32) - i32 (sd : Int) = i32 ((1 - sd : Nat) : Int) by rw [i32_litN 1, i32_sub]; congr 1; omega, v_canN hM hW hC (by omega) (by omega)]
    refine Rt.eqb rfl ?_
    by_cases cc : cnS y LO (1 - sd) o
    · refine Rt.iff (by rw [bI_0]; exact fun q => q cc) ?_
      rw [v_at hT hW hsd hs cc]
      refine Rt.eqb rfl ?_
      unfold fX12_findSure_L109
      have yes : wrt sd (wnB y LO sd s o) < wrt sd (lvN y LO sd s o) → Rt (fX12_findSure_L42 Fu k8 f row lw set rs br val sum ch vs co tb pc sy (i32 (sd : Int)) be (i32 (s : Int)) (i64 (wnB y LO sd s o)) (i32 (o : Int) + 1)) P := by
        intro q
        rw [if_pos ⟨cnT_iff.mpr cc, q⟩] at st
        rw [i32_p1, ← st]; exact ih f (o + 1) (by omega) (by omega)
      have no : ¬ wrt sd (wnB y LO sd s o) < wrt sd (lvN y LO sd s o) → Rt (fX12_findSure_L42 Fu k8 f row lw set rs br val sum ch vs co tb pc sy (i32 (sd : Int)) be (i32 (s : Int)) (i64 (lvN y LO sd s o)) (i32 (o : Int) + 1)) P := by
        intro q
        rw [if_neg (fun h => q h.2)] at st
        rw [i32_p1, ← st]; exact ih f (o + 1) (by omega) (by omega)
      unfold wrt at yes no
      rcases (show sd = 0 ∨ sd = 1 by omega) with rfl | rfl
      · rw [if_pos rfl, if_pos rfl] at yes no
        refine Rt.ift rfl ?_
        by_cases c : wnB y LO 0 s o < lvN y LO 0 s o
        · exact Rt.iff (by rw [i64_le (by omega) (by omega) (by omega) (by omega)]; omega) (yes c)
        · exact Rt.ift (by rw [i64_le (by omega) (by omega) (by omega) (by omega)]; omega) (no c)
      · rw [if_neg (by omega), if_neg (by omega)] at yes no
        refine Rt.iff (by decide) ?_
        by_cases c : lvN y LO 1 s o < wnB y LO 1 s o
        · exact Rt.iff (by rw [i64_le (by omega) (by omega) (by omega) (by omega)]; omega) (yes (by omega))
        · exact Rt.ift (by rw [i64_le (by omega) (by omega) (by omega) (by omega)]; omega) (no (by omega))
    · refine Rt.ift (by rw [bI_0]; exact cc) ?_
      rw [if_neg (fun q => cc (cnT_iff.mp q.1))] at st
      rw [i32_p1, ← st]; exact ih f (o + 1) (by omega) (by omega)
theorem v_sureL (hFu : 6000 ≤ Fu) (hM : RM y row) (hW : WF y) {lw : Int32} {set rs vs : Nat → Int64} {br : Int32} {val sum : Int64} {ch co pc : Nat → Int32} {tb : Nat → Int64} (hC : CT y LO co) (hT : TB y LO tb) {sd : Nat} (hsd : sd < 2) :
    ∀ (d f s : Nat) (sy : Int64), s + d = 256 → d < f → (0 ≤ sfS y LO sd s → sy = i64 (lv y LO sd (sfS y LO sd s).toNat)) → Rt (fX12_findSure_L8 Fu f row lw set rs br val sum ch vs co tb pc sy (i32 (sd : Int)) (i32 (sfS y LO sd s)) (i32 (s : Int))) (fun r => r.1 = i32 (sfS y LO sd 256) ∧ CT y LO r.2.2.2.2.2.2.2.2.2.1 ∧ r.2.2.2.2.2.2.2.2.2.2.2.2 = i64 (lv y LO sd (sfS y LO sd 256).toNat)) := by
  intro d
  induction d with
  | zero =>
    intro f s sy hs hf hy
    obtain ⟨f, rfl⟩ : ∃ f', f = f' + 1 := ⟨f - 1, by omega⟩
    obtain rfl : s = 256 := by omega
    rw [fX12_findSure_L8]
    exact Rt.ift (by rw [i32_litN 256, i32_le (by omega) (by omega) (by omega) (by omega)]; omega) (Rt.ret ⟨rfl, hC, hy (sf_ok (LO := LO) hW hsd 255).1⟩)
  | succ d ih =>
    intro f s sy hs hf hy
    obtain ⟨f, rfl⟩ : ∃ f', f = f' + 1 := ⟨f - 1, by omega⟩
    have st := sf_step (y := y) (LO := LO) sd s
    have sf := sf_fact (y := y) (LO := LO) sd s
    rw [fX12_findSure_L8]
    refine Rt.iff (by rw [i32_litN 256, i32_le (by omega) (by omega) (by omega) (by omega)]; omega) ?_
    rw [v_canN hM hW hC hsd (by omega)]
    refine Rt.eqb rfl ?_
    by_cases cc : cnS y LO sd s
    · refine Rt.iff (by rw [bI_0]; exact fun q => q cc) ?_
      have lr := lv_rng (LO := LO) hW (sd := sd) (s := s)
      have lr2 := lv_rng (LO := LO) hW (sd := sd) (s := (sfS y LO sd s).toNat)
      have go : Rt (fX12_findSure_L42 Fu (fX12_findSure_L8 Fu f) Fu row lw set rs br val sum ch vs co tb pc sy (i32 (sd : Int)) (i32 (sfS y LO sd s)) (i32 (s : Int)) (i64 (lvN y LO sd s 0)) (i32 ((0 : Nat) : Int))) (fun r => r.1 = i32 (sfS y LO sd 256) ∧ CT y LO r.2.2.2.2.2.2.2.2.2.1 ∧ r.2.2.2.2.2.2.2.2.2.2.2.2 = i64 (lv y LO sd (sfS y LO sd 256).toNat)) := by
        refine v_sureI hM hW hC hT hsd cc (fun f2 hf2 => ?_) 256 Fu 0 (by omega) (by omega)
        obtain ⟨f2, rfl⟩ : ∃ f', f2 = f' + 1 := ⟨f2 - 1, by omega⟩
        rw [fX12_findSure_L42]
        refine Rt.ift (by rw [i32_litN 256, i32_le (by omega) (by omega) (by omega) (by omega)]; omega) ?_
        rw [i32_p1]
        have yes : (sfS y LO sd s = -1 ∨ wrt sd (lv y LO sd (sfS y LO sd s).toNat) < wrt sd (lv y LO sd s) ∨ wrt sd (lv y LO sd (sfS y LO sd s).toNat) = wrt sd (lv y LO sd s) ∧ cst y LO sd s < cst y LO sd (sfS y LO sd s).toNat) → Rt (fX12_findSure_L8 Fu f row lw set rs br val sum ch vs co tb pc (i64 (lv y LO sd s)) (i32 (sd : Int)) (i32 (s : Int)) (i32 ((s + 1 : Nat) : Int))) (fun r => r.1 = i32 (sfS y LO sd 256) ∧ CT y LO r.2.2.2.2.2.2.2.2.2.1 ∧ r.2.2.2.2.2.2.2.2.2.2.2.2 = i64 (lv y LO sd (sfS y LO sd 256).toNat)) := by
          intro q
          rw [if_pos ⟨cnT_iff.mpr cc, q⟩] at st
          have := ih f (s + 1) (i64 (lv y LO sd s)) (by omega) (by omega) (fun _ => by rw [st, Int.toNat_natCast])
          rw [st] at this
          exact this
        rcases sf with c0 | sf
        · have yy := yes (Or.inl c0)
          rw [c0, v_better1]
          exact Rt.eqb rfl (Rt.iff (by decide) yy)
        · rw [hy sf.1, v_isBetter hW hC hsd (by omega) (by omega) (by omega) (by omega) (by omega) (by omega) (by omega)]
          refine Rt.eqb rfl ?_
          by_cases q : (sfS y LO sd s = -1 ∨ wrt sd (lv y LO sd (sfS y LO sd s).toNat) < wrt sd (lv y LO sd s) ∨ wrt sd (lv y LO sd (sfS y LO sd s).toNat) = wrt sd (lv y LO sd s) ∧ cst y LO sd s < cst y LO sd (sfS y LO sd s).toNat)
          · exact Rt.iff (by rw [bI_0]; exact fun h => h q) (yes q)
          · refine Rt.ift (by rw [bI_0]; exact q) ?_
            rw [if_neg (fun h => q h.2)] at st
            have := ih f (s + 1) (i64 (lv y LO sd (sfS y LO sd s).toNat)) (by omega) (by omega) (fun _ => by rw [st])
            rw [st] at this
            exact this
      unfold fX12_findSure_L37
      rcases (show sd = 0 ∨ sd = 1 by omega) with rfl | rfl
      · exact Rt.ift rfl go
      · exact Rt.iff (by decide) go
    · refine Rt.ift (by rw [bI_0]; exact cc) ?_
      rw [if_neg (fun q => cc (cnT_iff.mp q.1))] at st
      rw [i32_p1]
      have := ih f (s + 1) sy (by omega) (by omega) (by rw [st]; exact hy)
      rw [st] at this
      exact this
theorem v_findSure (hFu : 6000 ≤ Fu) (hM : RM y row) (hW : WF y) (hO : MO y LO) {lw : Int32} {set rs : Nat → Int64} {br : Int32} {val sum sy : Int64} {ch co pc : Nat → Int32} {vs tb : Nat → Int64} {sd : Nat} (hsd : sd < 2) : Rt (fX12_findSure Fu row lw set rs br val sum ch vs co tb pc sy (i32 (sd : Int))) (fun r => r.1 = i32 (sfS y LO sd 256) ∧ CT y LO r.2.2.2.2.2.2.2.2.2.1 ∧ r.2.2.2.2.2.2.2.2.2.2.2.2 = i64 (lv y LO sd (sfS y LO sd 256).toNat)) := by
  unfold fX12_findSure
  exact Rt.bind (v_table hFu hM hW hO) (fun r hr => v_sureL hFu hM hW hr.2.1 hr.2.2 hsd 256 Fu 0 sy (by omega) (by omega) (fun q => absurd q (by show ¬ (0 : Int) ≤ -1; omega)))
theorem sf_ok256 (hW : WF y) {sd : Nat} (hsd : sd < 2) : 0 ≤ sfS y LO sd 256 ∧ cnS y LO sd (sfS y LO sd 256).toNat := sf_ok (LO := LO) hW hsd 255
def sureS (y : Nat → Int) (LO : Option LwS) (sd w : Int) : Int := if (0 ≤ sd ∧ sd ≤ 1) ∧ (0 ≤ w ∧ w ≤ 1) then (if w = 0 then sfS y LO sd.toNat 256 else cst y LO sd.toNat (sfS y LO sd.toNat 256).toNat) else -1
def valueS (y : Nat → Int) (LO : Option LwS) (sd : Int) : Int := if 0 ≤ sd ∧ sd ≤ 1 then lv y LO sd.toNat (sfS y LO sd.toNat 256).toNat else -1
theorem m_sure (hFu : 6000 ≤ Fu) (hM : RM y row) (hW : WF y) (hO : MO y LO) {th lw : Int32} {set rs : Nat → Int64} {br : Int32} {val sum sy : Int64} {ch co pc : Nat → Int32} {vs tb : Nat → Int64} {sd w : Int} (s1 : -2147483648 ≤ sd) (s2 : sd ≤ 2147483647) (w1 : -2147483648 ≤ w) (w2 : w ≤ 2147483647) :
    Rt (fX12_sure Fu th row lw set rs br val sum ch vs co tb pc sy (i32 sd) (i32 w)) (fun r => r.1 = i32 (sureS y LO sd w)) := by
  have eN : ¬ ((0 ≤ sd ∧ sd ≤ 1) ∧ (0 ≤ w ∧ w ≤ 1)) → sureS y LO sd w = -1 := fun q => if_neg q
  have eY : (0 ≤ sd ∧ sd ≤ 1) ∧ (0 ≤ w ∧ w ≤ 1) → sureS y LO sd w = (if w = 0 then sfS y LO sd.toNat 256 else cst y LO sd.toNat (sfS y LO sd.toNat 256).toNat) := fun q => if_pos q
  unfold fX12_sure
  rw [v_isSide sd s1 s2, i32_64 w1 w2, show (0 : Int64) = i64 0 from rfl, show (1 : Int64) = i64 1 from rfl, v_in (by omega) (by omega) (by omega) (by omega) (by omega) (by omega)]
  refine Rt.eqb rfl ?_
  by_cases cs : 0 ≤ sd ∧ sd ≤ 1
  · refine Rt.iff (by rw [bI_0]; exact fun q => q cs) (Rt.eqb rfl ?_)
    by_cases cw : 0 ≤ w ∧ w ≤ 1
    · refine Rt.iff (by rw [bI_0]; exact fun q => q cw) ?_
      rw [eY ⟨cs, cw⟩]
      obtain ⟨sd, rfl⟩ := Int.eq_ofNat_of_zero_le cs.1
      rw [Int.toNat_natCast]
      refine Rt.bind (v_findSure hFu hM hW hO (by omega)) (fun r hr => ?_)
      have ok := sf_ok256 (LO := LO) hW (sd := sd) (by omega)
      have l := (cn_lt hW ok.2).2.2
      by_cases c0 : w = 0
      · subst c0
        rw [if_pos rfl]
        exact Rt.ift rfl (Rt.ret hr.1)
      · rw [if_neg c0]
        refine Rt.iff (by rw [i32_litN 0, i32_eq (by omega) (by omega) (by omega) (by omega)]; exact c0) ?_
        have e : (256 : Int32) * i32 (sd : Int) + r.1 = i32 ((256 * sd + (sfS y LO sd 256).toNat : Nat) : Int) := by
          rw [hr.1, i32_litN 256, i32_mul, i32_add]; congr 1; omega
        rw [e]
        refine Rt.gd (by omega) (by omega) (by omega) (Rt.ret ?_)
        show r.2.2.2.2.2.2.2.2.2.1 (i32 ((256 * sd + (sfS y LO sd 256).toNat : Nat) : Int)).toNatClampNeg = _
        rw [i32_nat (by omega) (by omega), Int.toNat_natCast]
        exact hr.2.1 sd _ (by omega) l
    · refine Rt.ift (by rw [bI_0]; exact cw) ?_
      rw [eN (fun q => cw q.2)]; exact Rt.ret rfl
  · refine Rt.ift (by rw [bI_0]; exact cs) ?_
    rw [eN (fun q => cs q.1)]; exact Rt.ret rfl
theorem m_value (hFu : 6000 ≤ Fu) (hM : RM y row) (hW : WF y) (hO : MO y LO) {th lw : Int32} {set rs : Nat → Int64} {br : Int32} {val sum sy : Int64} {ch co pc : Nat → Int32} {vs tb : Nat → Int64} {sd : Int} (s1 : -2147483648 ≤ sd) (s2 : sd ≤ 2147483647) :
    Rt (fX12_value Fu th row lw set rs br val sum ch vs co tb pc sy (i32 sd)) (fun r => r.1 = i64 (valueS y LO sd)) := by
  have eN : ¬ (0 ≤ sd ∧ sd ≤ 1) → valueS y LO sd = -1 := fun q => if_neg q
  have eY : (0 ≤ sd ∧ sd ≤ 1) → valueS y LO sd = lv y LO sd.toNat (sfS y LO sd.toNat 256).toNat := fun q => if_pos q
  unfold fX12_value
  rw [v_isSide sd s1 s2]
  refine Rt.eqb rfl ?_
  by_cases cs : 0 ≤ sd ∧ sd ≤ 1
  · refine Rt.iff (by rw [bI_0]; exact fun q => q cs) ?_
    rw [eY cs]
    obtain ⟨sd, rfl⟩ := Int.eq_ofNat_of_zero_le cs.1
    rw [Int.toNat_natCast]
    refine Rt.bind (v_findSure hFu hM hW hO (by omega)) (fun r hr => ?_)
    have ok := sf_ok256 (LO := LO) hW (sd := sd) (by omega)
    have l := (cn_lt hW ok.2).2.2
    exact Rt.iff (by rw [hr.1, i32_m1, i32_eq (by omega) (by omega) (by omega) (by omega)]; omega) (Rt.ret hr.2.2)
  · refine Rt.ift (by rw [bI_0]; exact cs) ?_
    rw [eN cs]; exact Rt.ret rfl
theorem c_sure_N (hFu : 6000 ≤ Fu) {a5 : Nat → Option Nat} (hW : WF y) (hX : RX y beasts meals seats laws inForce tr mh te cases rs ju vo) (hH : HN y LO) {vb vs vsd vq kn sv : Int32} {a43 a44 a45 a46 a47 a49 : Nat → Int32} {a48 : Nat → Int64} (hC : CI y LO vb vs vsd vq kn sv a43 a44 a46 a47 a48 a49) (a38 : Nat → Int32) (t0 : Int32) (w0 : Nat → Int64) (t1 : Int32) (w1 : Nat → Int64) (t2 : Int32) (w2 : Nat → Int64) (t3 : Int32) (w3 : Nat → Int64) (t4 : Int32) (w4 : Nat → Int64) (t5 : Int32) (w5 : Nat → Int64) (t6 : Int32) (w6 : Nat → Int64) (t7 : Int32) (w7 : Nat → Int64) {sd w : Int} (s1 : -2147483648 ≤ sd) (s2 : sd ≤ 2147483647) (v1 : -2147483648 ≤ w) (v2 : w ≤ 2147483647) :
    Rt (fX11_sure_N Fu beasts seats laws inForce tr mh te a5 a38 vb vs vsd vq kn sv a43 a44 a45 a46 a47 a48 a49 t0 w0 t1 w1 t2 w2 t3 w3 t4 w4 t5 w5 t6 w6 t7 w7 (i32 sd) (i32 w)) (fun r => r.1 = i32 (sureS y LO sd w) ∧ CI y LO r.2.2.1 r.2.2.2.1 r.2.2.2.2.1 r.2.2.2.2.2.1 r.2.2.2.2.2.2.1 r.2.2.2.2.2.2.2.1 r.2.2.2.2.2.2.2.2.1 r.2.2.2.2.2.2.2.2.2.1 r.2.2.2.2.2.2.2.2.2.2.2.1 r.2.2.2.2.2.2.2.2.2.2.2.2.1 r.2.2.2.2.2.2.2.2.2.2.2.2.2.1 r.2.2.2.2.2.2.2.2.2.2.2.2.2.2.1) := by
  have eN : ¬ ((0 ≤ sd ∧ sd ≤ 1) ∧ (0 ≤ w ∧ w ≤ 1)) → sureS y LO sd w = -1 := fun q => if_neg q
  have eY : (0 ≤ sd ∧ sd ≤ 1) ∧ (0 ≤ w ∧ w ≤ 1) → sureS y LO sd w = (if w = 0 then sfS y LO sd.toNat 256 else cst y LO sd.toNat (sfS y LO sd.toNat 256).toNat) := fun q => if_pos q
  unfold fX11_sure_N
  rw [x_isSide sd s1 s2, x_isEither w v1 v2]
  refine Rt.eqb rfl ?_
  by_cases cs : 0 ≤ sd ∧ sd ≤ 1
  · refine Rt.iff (by rw [bI_0]; exact fun q => q cs) (Rt.eqb rfl ?_)
    by_cases cw : 0 ≤ w ∧ w ≤ 1
    · refine Rt.iff (by rw [bI_0]; exact fun q => q cw) ?_
      rw [eY ⟨cs, cw⟩]
      obtain ⟨sd, rfl⟩ := Int.eq_ofNat_of_zero_le cs.1
      rw [Int.toNat_natCast]
      have ok := sf_ok256 (LO := LO) hW (sd := sd) (by omega)
      have l := cn_lt hW ok.2
      have e2 : ((2 ^ (y 0).toNat : Nat) : Int) = 2 ^ (y 0).toNat := by simp
      refine Rt.bind (x_learnB_N (Q := fun sv => sv = 0 ∨ sv = 1 ∧ SV y LO a48) hFu hW hX hH a38 hC (Or.inl rfl)) (fun r hr => ?_)
      obtain ⟨g1, g2, g3⟩ := hr
      refine Rt.bind (x_safest hFu hW g3 g2 t0 w0 t1 w1 t2 w2 t3 w3 t4 w4 t5 w5 t6 w6 t7 w7 (by omega)) (fun r2 h2 => ?_)
      rw [h2.1, x_toldB hW g3 (by omega) (by omega) (by omega) (by omega)]
      refine Rt.eqb rfl (Rt.ret ⟨?_, Or.inr ⟨g1, g3, h2.2⟩⟩)
      by_cases c0 : w = 0
      · rw [if_pos c0, if_pos (Or.inr c0)]
      · rw [if_neg c0, if_neg (by omega)]
    · refine Rt.ift (by rw [bI_0]; exact cw) ?_
      rw [eN (fun q => cw q.2)]; exact Rt.ret ⟨rfl, hC⟩
  · refine Rt.ift (by rw [bI_0]; exact cs) ?_
    rw [eN (fun q => cs q.1)]; exact Rt.ret ⟨rfl, hC⟩
theorem c_value_N (hFu : 6000 ≤ Fu) {a5 : Nat → Option Nat} (hW : WF y) (hX : RX y beasts meals seats laws inForce tr mh te cases rs ju vo) (hH : HN y LO) {vb vs vsd vq kn sv : Int32} {a43 a44 a45 a46 a47 a49 : Nat → Int32} {a48 : Nat → Int64} (hC : CI y LO vb vs vsd vq kn sv a43 a44 a46 a47 a48 a49) (a38 : Nat → Int32) (t0 : Int32) (w0 : Nat → Int64) (t1 : Int32) (w1 : Nat → Int64) (t2 : Int32) (w2 : Nat → Int64) (t3 : Int32) (w3 : Nat → Int64) (t4 : Int32) (w4 : Nat → Int64) (t5 : Int32) (w5 : Nat → Int64) (t6 : Int32) (w6 : Nat → Int64) (t7 : Int32) (w7 : Nat → Int64) {sd : Int} (s1 : -2147483648 ≤ sd) (s2 : sd ≤ 2147483647) :
    Rt (fX11_value_N Fu beasts seats laws inForce tr mh te a5 a38 vb vs vsd vq kn sv a43 a44 a45 a46 a47 a48 a49 t0 w0 t1 w1 t2 w2 t3 w3 t4 w4 t5 w5 t6 w6 t7 w7 (i32 sd)) (fun r => r.1 = i64 (valueS y LO sd) ∧ CI y LO r.2.2.1 r.2.2.2.1 r.2.2.2.2.1 r.2.2.2.2.2.1 r.2.2.2.2.2.2.1 r.2.2.2.2.2.2.2.1 r.2.2.2.2.2.2.2.2.1 r.2.2.2.2.2.2.2.2.2.1 r.2.2.2.2.2.2.2.2.2.2.2.1 r.2.2.2.2.2.2.2.2.2.2.2.2.1 r.2.2.2.2.2.2.2.2.2.2.2.2.2.1 r.2.2.2.2.2.2.2.2.2.2.2.2.2.2.1) := by
  have eN : ¬ (0 ≤ sd ∧ sd ≤ 1) → valueS y LO sd = -1 := fun q => if_neg q
  have eY : (0 ≤ sd ∧ sd ≤ 1) → valueS y LO sd = lv y LO sd.toNat (sfS y LO sd.toNat 256).toNat := fun q => if_pos q
  unfold fX11_value_N
  rw [x_isSide sd s1 s2]
  refine Rt.eqb rfl ?_
  by_cases cs : 0 ≤ sd ∧ sd ≤ 1
  · refine Rt.iff (by rw [bI_0]; exact fun q => q cs) ?_
    rw [eY cs]
    obtain ⟨sd, rfl⟩ := Int.eq_ofNat_of_zero_le cs.1
    rw [Int.toNat_natCast]
    have ok := sf_ok256 (LO := LO) hW (sd := sd) (by omega)
    refine Rt.bind (x_learnB_N (Q := fun sv => sv = 0 ∨ sv = 1 ∧ SV y LO a48) hFu hW hX hH a38 hC (Or.inl rfl)) (fun r hr => ?_)
    obtain ⟨g1, g2, g3⟩ := hr
    refine Rt.bind (x_safest hFu hW g3 g2 t0 w0 t1 w1 t2 w2 t3 w3 t4 w4 t5 w5 t6 w6 t7 w7 (by omega)) (fun r2 h2 => ?_)
    have xl := x_left hFu hW g3 h2.2 r2.2.2.2.1 r2.2.2.2.2.1 r2.2.2.2.2.2.1 r2.2.2.2.2.2.2.1 r2.2.2.2.2.2.2.2.1 r2.2.2.2.2.2.2.2.2.1 r2.2.2.2.2.2.2.2.2.2.1 r2.2.2.2.2.2.2.2.2.2.2.1 r2.2.2.2.2.2.2.2.2.2.2.2.1 r2.2.2.2.2.2.2.2.2.2.2.2.2.1 r2.2.2.2.2.2.2.2.2.2.2.2.2.2.1 r2.2.2.2.2.2.2.2.2.2.2.2.2.2.2.1 r2.2.2.2.2.2.2.2.2.2.2.2.2.2.2.2.1 r2.2.2.2.2.2.2.2.2.2.2.2.2.2.2.2.2.1 r2.2.2.2.2.2.2.2.2.2.2.2.2.2.2.2.2.2.1 r2.2.2.2.2.2.2.2.2.2.2.2.2.2.2.2.2.2.2 (sd := sd) (by omega) ok.2
    rw [show (((sfS y LO sd 256).toNat : Nat) : Int) = sfS y LO sd 256 by omega, ← h2.1] at xl
    exact Rt.bind xl (fun r3 h3 => Rt.ret ⟨h3.1, Or.inr ⟨g1, g3, Or.inr h3.2⟩⟩)
  · refine Rt.ift (by rw [bI_0]; exact cs) ?_
    rw [eN cs]; exact Rt.ret ⟨rfl, hC⟩
theorem c_sure_L (hFu : 6000 ≤ Fu) {nh nt ne ns bb q : Nat} {a5 : Nat → Option Nat} {aL1 aL2 aL3 aL4 : Nat → Int32} (hW : WF y) (hX : RX y beasts meals seats laws inForce tr mh te cases rs ju vo) (hH : HL y LO nh nt ne ns bb q a5 aL1 aL2 aL3 aL4) {vb vs vsd vq kn sv : Int32} {a43 a44 a45 a46 a47 a49 : Nat → Int32} {a48 : Nat → Int64} (hC : CI y LO vb vs vsd vq kn sv a43 a44 a46 a47 a48 a49) (ht : Int32) (an : Int64) (a38 : Nat → Int32) (a39 : Nat → Int64) (t0 : Int32) (w0 : Nat → Int64) (t1 : Int32) (w1 : Nat → Int64) (t2 : Int32) (w2 : Nat → Int64) (t3 : Int32) (w3 : Nat → Int64) (t4 : Int32) (w4 : Nat → Int64) (t5 : Int32) (w5 : Nat → Int64) (t6 : Int32) (w6 : Nat → Int64) (t7 : Int32) (w7 : Nat → Int64) {sd w : Int} (s1 : -2147483648 ≤ sd) (s2 : sd ≤ 2147483647) (v1 : -2147483648 ≤ w) (v2 : w ≤ 2147483647) :
    Rt (fX11_sure_L Fu nh nt ne ns bb q beasts seats laws inForce tr mh te a5 ht an a38 a39 vb vs vsd vq kn sv a43 a44 a45 a46 a47 a48 a49 t0 w0 t1 w1 t2 w2 t3 w3 t4 w4 t5 w5 t6 w6 t7 w7 aL1 aL2 aL3 aL4 (i32 sd) (i32 w)) (fun r => r.1 = i32 (sureS y LO sd w) ∧ CI y LO r.2.2.2.2.2.1 r.2.2.2.2.2.2.1 r.2.2.2.2.2.2.2.1 r.2.2.2.2.2.2.2.2.1 r.2.2.2.2.2.2.2.2.2.1 r.2.2.2.2.2.2.2.2.2.2.1 r.2.2.2.2.2.2.2.2.2.2.2.1 r.2.2.2.2.2.2.2.2.2.2.2.2.1 r.2.2.2.2.2.2.2.2.2.2.2.2.2.2.1 r.2.2.2.2.2.2.2.2.2.2.2.2.2.2.2.1 r.2.2.2.2.2.2.2.2.2.2.2.2.2.2.2.2.1 r.2.2.2.2.2.2.2.2.2.2.2.2.2.2.2.2.2.1) := by
  have eN : ¬ ((0 ≤ sd ∧ sd ≤ 1) ∧ (0 ≤ w ∧ w ≤ 1)) → sureS y LO sd w = -1 := fun q => if_neg q
  have eY : (0 ≤ sd ∧ sd ≤ 1) ∧ (0 ≤ w ∧ w ≤ 1) → sureS y LO sd w = (if w = 0 then sfS y LO sd.toNat 256 else cst y LO sd.toNat (sfS y LO sd.toNat 256).toNat) := fun q => if_pos q
  unfold fX11_sure_L
  rw [x_isSide sd s1 s2, x_isEither w v1 v2]
  refine Rt.eqb rfl ?_
  by_cases cs : 0 ≤ sd ∧ sd ≤ 1
  · refine Rt.iff (by rw [bI_0]; exact fun q => q cs) (Rt.eqb rfl ?_)
    by_cases cw : 0 ≤ w ∧ w ≤ 1
    · refine Rt.iff (by rw [bI_0]; exact fun q => q cw) ?_
      rw [eY ⟨cs, cw⟩]
      obtain ⟨sd, rfl⟩ := Int.eq_ofNat_of_zero_le cs.1
      rw [Int.toNat_natCast]
      have ok := sf_ok256 (LO := LO) hW (sd := sd) (by omega)
      have l := cn_lt hW ok.2
      have e2 : ((2 ^ (y 0).toNat : Nat) : Int) = 2 ^ (y 0).toNat := by simp
      refine Rt.bind (x_learnB_L (Q := fun sv => sv = 0 ∨ sv = 1 ∧ SV y LO a48) hFu hW hX hH ht an a38 a39 hC (Or.inl rfl)) (fun r hr => ?_)
      obtain ⟨g1, g2, g3⟩ := hr
      refine Rt.bind (x_safest hFu hW g3 g2 t0 w0 t1 w1 t2 w2 t3 w3 t4 w4 t5 w5 t6 w6 t7 w7 (by omega)) (fun r2 h2 => ?_)
      rw [h2.1, x_toldB hW g3 (by omega) (by omega) (by omega) (by omega)]
      refine Rt.eqb rfl (Rt.ret ⟨?_, Or.inr ⟨g1, g3, h2.2⟩⟩)
      by_cases c0 : w = 0
      · rw [if_pos c0, if_pos (Or.inr c0)]
      · rw [if_neg c0, if_neg (by omega)]
    · refine Rt.ift (by rw [bI_0]; exact cw) ?_
      rw [eN (fun q => cw q.2)]; exact Rt.ret ⟨rfl, hC⟩
  · refine Rt.ift (by rw [bI_0]; exact cs) ?_
    rw [eN (fun q => cs q.1)]; exact Rt.ret ⟨rfl, hC⟩
theorem c_value_L (hFu : 6000 ≤ Fu) {nh nt ne ns bb q : Nat} {a5 : Nat → Option Nat} {aL1 aL2 aL3 aL4 : Nat → Int32} (hW : WF y) (hX : RX y beasts meals seats laws inForce tr mh te cases rs ju vo) (hH : HL y LO nh nt ne ns bb q a5 aL1 aL2 aL3 aL4) {vb vs vsd vq kn sv : Int32} {a43 a44 a45 a46 a47 a49 : Nat → Int32} {a48 : Nat → Int64} (hC : CI y LO vb vs vsd vq kn sv a43 a44 a46 a47 a48 a49) (ht : Int32) (an : Int64) (a38 : Nat → Int32) (a39 : Nat → Int64) (t0 : Int32) (w0 : Nat → Int64) (t1 : Int32) (w1 : Nat → Int64) (t2 : Int32) (w2 : Nat → Int64) (t3 : Int32) (w3 : Nat → Int64) (t4 : Int32) (w4 : Nat → Int64) (t5 : Int32) (w5 : Nat → Int64) (t6 : Int32) (w6 : Nat → Int64) (t7 : Int32) (w7 : Nat → Int64) {sd : Int} (s1 : -2147483648 ≤ sd) (s2 : sd ≤ 2147483647) :
    Rt (fX11_value_L Fu nh nt ne ns bb q beasts seats laws inForce tr mh te a5 ht an a38 a39 vb vs vsd vq kn sv a43 a44 a45 a46 a47 a48 a49 t0 w0 t1 w1 t2 w2 t3 w3 t4 w4 t5 w5 t6 w6 t7 w7 aL1 aL2 aL3 aL4 (i32 sd)) (fun r => r.1 = i64 (valueS y LO sd) ∧ CI y LO r.2.2.2.2.2.1 r.2.2.2.2.2.2.1 r.2.2.2.2.2.2.2.1 r.2.2.2.2.2.2.2.2.1 r.2.2.2.2.2.2.2.2.2.1 r.2.2.2.2.2.2.2.2.2.2.1 r.2.2.2.2.2.2.2.2.2.2.2.1 r.2.2.2.2.2.2.2.2.2.2.2.2.1 r.2.2.2.2.2.2.2.2.2.2.2.2.2.2.1 r.2.2.2.2.2.2.2.2.2.2.2.2.2.2.2.1 r.2.2.2.2.2.2.2.2.2.2.2.2.2.2.2.2.1 r.2.2.2.2.2.2.2.2.2.2.2.2.2.2.2.2.2.1) := by
  have eN : ¬ (0 ≤ sd ∧ sd ≤ 1) → valueS y LO sd = -1 := fun q => if_neg q
  have eY : (0 ≤ sd ∧ sd ≤ 1) → valueS y LO sd = lv y LO sd.toNat (sfS y LO sd.toNat 256).toNat := fun q => if_pos q
  unfold fX11_value_L
  rw [x_isSide sd s1 s2]
  refine Rt.eqb rfl ?_
  by_cases cs : 0 ≤ sd ∧ sd ≤ 1
  · refine Rt.iff (by rw [bI_0]; exact fun q => q cs) ?_
    rw [eY cs]
    obtain ⟨sd, rfl⟩ := Int.eq_ofNat_of_zero_le cs.1
    rw [Int.toNat_natCast]
    have ok := sf_ok256 (LO := LO) hW (sd := sd) (by omega)
    refine Rt.bind (x_learnB_L (Q := fun sv => sv = 0 ∨ sv = 1 ∧ SV y LO a48) hFu hW hX hH ht an a38 a39 hC (Or.inl rfl)) (fun r hr => ?_)
    obtain ⟨g1, g2, g3⟩ := hr
    refine Rt.bind (x_safest hFu hW g3 g2 t0 w0 t1 w1 t2 w2 t3 w3 t4 w4 t5 w5 t6 w6 t7 w7 (by omega)) (fun r2 h2 => ?_)
    have xl := x_left hFu hW g3 h2.2 r2.2.2.2.1 r2.2.2.2.2.1 r2.2.2.2.2.2.1 r2.2.2.2.2.2.2.1 r2.2.2.2.2.2.2.2.1 r2.2.2.2.2.2.2.2.2.1 r2.2.2.2.2.2.2.2.2.2.1 r2.2.2.2.2.2.2.2.2.2.2.1 r2.2.2.2.2.2.2.2.2.2.2.2.1 r2.2.2.2.2.2.2.2.2.2.2.2.2.1 r2.2.2.2.2.2.2.2.2.2.2.2.2.2.1 r2.2.2.2.2.2.2.2.2.2.2.2.2.2.2.1 r2.2.2.2.2.2.2.2.2.2.2.2.2.2.2.2.1 r2.2.2.2.2.2.2.2.2.2.2.2.2.2.2.2.2.1 r2.2.2.2.2.2.2.2.2.2.2.2.2.2.2.2.2.2.1 r2.2.2.2.2.2.2.2.2.2.2.2.2.2.2.2.2.2.2 (sd := sd) (by omega) ok.2
    rw [show (((sfS y LO sd 256).toNat : Nat) : Int) = sfS y LO sd 256 by omega, ← h2.1] at xl
    exact Rt.bind xl (fun r3 h3 => Rt.ret ⟨h3.1, Or.inr ⟨g1, g3, Or.inr h3.2⟩⟩)
  · refine Rt.ift (by rw [bI_0]; exact cs) ?_
    rw [eN cs]; exact Rt.ret ⟨rfl, hC⟩
end SURE
