section SADDLEM
variable {y : Nat → Int} {row : Nat → Int32} {Fu : Nat} {LO : Option LwS}
/-! saddles of the reference: the most by a bribe of side 1, the least by one of side 0 -/
def MB (y : Nat → Int) (LO : Option LwS) (z o : Nat) (mo : Nat → Int64) : Prop := ∀ o', cnS y LO 1 o' → mo o' = i64 (mxF (cnT y LO 0) (fun z => wn y LO z o') (if o' < o then z + 1 else z))
def LB (y : Nat → Int) (LO : Option LwS) (z o : Nat) (le : Nat → Int64) : Prop := (∀ z', z' < z → cnS y LO 0 z' → le z' = i64 (loS y LO z')) ∧ (cnS y LO 0 z → le z = i64 (mnF (cnT y LO 1) (fun o => wn y LO z o) o)) ∧ (∀ z', z < z' → z' < 256 → le z' = i64 1000000000000000000)
theorem MB_end (hW : WF y) {z : Nat} {mo : Nat → Int64} (h : MB y LO z 256 mo) : MB y LO (z + 1) 0 mo := by
  intro o' ho
  have l := (cn_lt hW ho).2.2
  have e := h o' ho
  rw [if_pos l] at e
  rw [if_neg (by omega)]; exact e
theorem LB_end (hW : WF y) {z : Nat} {le : Nat → Int64} (h : LB y LO z 256 le) : LB y LO (z + 1) 0 le := by
  refine ⟨fun z' hz' hc => ?_, fun hc => ?_, fun z' h1 h2 => h.2.2 z' (by omega) h2⟩
  · by_cases c : z' = z
    · subst c; exact h.2.1 hc
    · exact h.1 z' (by omega) hc
  · have l := (cn_lt hW hc).2.2
    exact h.2.2 (z + 1) (by omega) l
theorem MB_skip {z o : Nat} {mo : Nat → Int64} (h : MB y LO z o mo) (q : ¬ (cnS y LO 0 z ∧ cnS y LO 1 o)) : MB y LO z (o + 1) mo := by
  intro o' ho
  have e := h o' ho
  by_cases c : o' = o
  · subst c
    rw [if_neg (by omega)] at e
    rw [if_pos (by omega)]
    have s : mxF (cnT y LO 0) (fun z => wn y LO z o') (z + 1) = mxF (cnT y LO 0) (fun z => wn y LO z o') z := if_neg (fun w => q ⟨cnT_iff.mp w.1, ho⟩)
    rw [s]; exact e
  · by_cases d : o' < o
    · rw [if_pos d] at e; rw [if_pos (by omega)]; exact e
    · rw [if_neg d] at e; rw [if_neg (by omega)]; exact e
theorem LB_skip {z o : Nat} {le : Nat → Int64} (h : LB y LO z o le) (q : ¬ (cnS y LO 0 z ∧ cnS y LO 1 o)) : LB y LO z (o + 1) le := by
  refine ⟨h.1, fun hc => ?_, h.2.2⟩
  have s : mnF (cnT y LO 1) (fun o => wn y LO z o) (o + 1) = mnF (cnT y LO 1) (fun o => wn y LO z o) o := if_neg (fun w => q ⟨hc, cnT_iff.mp w.1⟩)
  rw [s]; exact h.2.1 hc
theorem v_sadT (hFu : 6000 ≤ Fu) (hM : RM y row) (hW : WF y) {th lw : Int32} {set rs vs : Nat → Int64} {br : Int32} {val sum : Int64} {ch co pc : Nat → Int32} {tb : Nat → Int64} (hC : CT y LO co) (hT : TB y LO tb) {x1 : Int32} {z : Nat} (hz : z < 256) {k58 : _} {P : _ → Prop}
    (hk : ∀ mo le, MB y LO (z + 1) 0 mo → LB y LO (z + 1) 0 le → Rt (k58 th row lw set rs br val sum ch vs co tb pc mo le x1 (i32 ((z + 1 : Nat) : Int))) P) :
    ∀ (d f o : Nat) (mo le : Nat → Int64), o + d = 256 → d < f → MB y LO z o mo → LB y LO z o le → Rt (fX12_saddle_L67 Fu k58 f th row lw set rs br val sum ch vs co tb pc mo le x1 (i32 (z : Int)) (i32 (o : Int))) P := by
  intro d
  induction d with
  | zero =>
    intro f o mo le ho hf hmo hle
    obtain ⟨f, rfl⟩ : ∃ f', f = f' + 1 := ⟨f - 1, by omega⟩
    obtain rfl : o = 256 := by omega
    rw [fX12_saddle_L67]
    refine Rt.ift (by rw [i32_litN 256, i32_le (by omega) (by omega) (by omega) (by omega)]; omega) ?_
    rw [i32_p1]
    exact hk mo le (MB_end hW hmo) (LB_end hW hle)
  | succ d ih =>
    intro f o mo le ho hf hmo hle
    obtain ⟨f, rfl⟩ : ∃ f', f = f' + 1 := ⟨f - 1, by omega⟩
    have k0 : fX12_can row co 0 (i32 (z : Int)) = some (bI (cnS y LO 0 z)) := v_canN hM hW hC (sd := 0) (by omega) (by omega)
    have k1 : fX12_can row co 1 (i32 (o : Int)) = some (bI (cnS y LO 1 o)) := v_canN hM hW hC (sd := 1) (by omega) (by omega)
    rw [fX12_saddle_L67]
    refine Rt.iff (by rw [i32_litN 256, i32_le (by omega) (by omega) (by omega) (by omega)]; omega) ?_
    rw [k0, i32_p1]
    refine Rt.eqb rfl ?_
    by_cases c0 : cnS y LO 0 z
    · refine Rt.iff (by rw [bI_0]; exact fun q => q c0) ?_
      rw [k1]
      refine Rt.eqb rfl ?_
      by_cases c1 : cnS y LO 1 o
      · refine Rt.iff (by rw [bI_0]; exact fun q => q c1) ?_
        have et := hT z o c0 c1
        have em := hmo o c1
        rw [if_neg (by omega)] at em
        have el := hle.2.1 c0
        have w := wn_rng (y := y) (LO := LO) (z := z) (o := o)
        have m1 := mxF_rng (t := cnT y LO 0) (f := fun z => wn y LO z o) (fun _ => wnO_rng) z
        have n1 := mnF_rng (t := cnT y LO 1) (f := fun o => wn y LO z o) (fun _ => wnO_rng) o
        have m2 : mxF (cnT y LO 0) (fun z => wn y LO z o) (z + 1) = if cnT y LO 0 z = true ∧ mxF (cnT y LO 0) (fun z => wn y LO z o) z < wn y LO z o then wn y LO z o else mxF (cnT y LO 0) (fun z => wn y LO z o) z := rfl
        have n2 : mnF (cnT y LO 1) (fun o => wn y LO z o) (o + 1) = if cnT y LO 1 o = true ∧ wn y LO z o < mnF (cnT y LO 1) (fun o => wn y LO z o) o then wn y LO z o else mnF (cnT y LO 1) (fun o => wn y LO z o) o := rfl
        have go : ∀ (v u : Int), v = mxF (cnT y LO 0) (fun z => wn y LO z o) (z + 1) → u = mnF (cnT y LO 1) (fun o => wn y LO z o) (o + 1) → Rt (fX12_saddle_L67 Fu k58 f th row lw set rs br val sum ch vs co tb pc (va_up mo o (i64 v)) (va_up le z (i64 u)) x1 (i32 (z : Int)) (i32 ((o + 1 : Nat) : Int))) P := by
          intro v u hv hu
          refine ih f (o + 1) _ _ (by omega) (by omega) (fun o' ho' => ?_) ⟨fun z' h1 h2 => ?_, fun _ => ?_, fun z' h1 h2 => ?_⟩
          · by_cases c : o' = o
            · subst c; rw [va_up_at, if_pos (by omega), hv]
            · rw [va_up_ne _ _ c]
              have e := hmo o' ho'
              by_cases dd : o' < o
              · rw [if_pos dd] at e; rw [if_pos (by omega)]; exact e
              · rw [if_neg dd] at e; rw [if_neg (by omega)]; exact e
          · rw [va_up_ne _ _ (by omega)]; exact hle.1 z' h1 h2
          · rw [va_up_at, hu]
          · rw [va_up_ne _ _ (by omega)]; exact hle.2.2 z' h1 h2
        generalize mxF (cnT y LO 0) (fun z => wn y LO z o) (z + 1) = M2 at m2 go
        generalize mnF (cnT y LO 1) (fun o => wn y LO z o) (o + 1) = N2 at n2 go
        generalize mxF (cnT y LO 0) (fun z => wn y LO z o) z = M1 at m1 m2 em
        generalize mnF (cnT y LO 1) (fun o => wn y LO z o) o = N1 at n1 n2 el
        generalize wn y LO z o = W at w m2 n2 et
        rw [show (256 : Int32) * i32 (z : Int) + i32 (o : Int) = i32 ((256 * z + o : Nat) : Int) by rw [i32_litN 256, i32_mul, i32_add]; congr 1 <;> omega]
        refine Rt.gd (by omega) (by omega) (by omega) (Rt.gd (by omega) (by omega) (by omega) ?_)
        rw [i32_nat (by omega) (by omega), i32_nat (by omega) (by omega), Int.toNat_natCast, Int.toNat_natCast, et, em]
        unfold fX12_saddle_L134 fX12_saddle_L163
        have last : ∀ v : Int, v = M2 → Rt (gd (i32 (o : Int)) 256 (gd (i32 (z : Int)) 256 (if le (i32 (z : Int)).toNatClampNeg ≤ i64 W then gd (i32 (z : Int)) 256 (gd (i32 (z : Int)) 256 (fX12_saddle_L67 Fu k58 f th row lw set rs br val sum ch vs co tb pc (va_up mo (i32 (o : Int)).toNatClampNeg (i64 v)) (va_up le (i32 (z : Int)).toNatClampNeg (le (i32 (z : Int)).toNatClampNeg)) x1 (i32 (z : Int)) (i32 (o : Int) + 1))) else gd (i32 (z : Int)) 256 (fX12_saddle_L67 Fu k58 f th row lw set rs br val sum ch vs co tb pc (va_up mo (i32 (o : Int)).toNatClampNeg (i64 v)) (va_up le (i32 (z : Int)).toNatClampNeg (i64 W)) x1 (i32 (z : Int)) (i32 (o : Int) + 1))))) P := by
          intro v hv
          refine Rt.gd (by omega) (by omega) (by omega) (Rt.gd (by omega) (by omega) (by omega) ?_)
          rw [i32_nat (a := (z : Int)) (by omega) (by omega), i32_nat (a := (o : Int)) (by omega) (by omega), Int.toNat_natCast, Int.toNat_natCast, el, i32_p1]
          by_cases c : W < N1
          · rw [if_pos ⟨cnT_iff.mpr c1, c⟩] at n2
            exact Rt.iff (by rw [i64_le (by omega) (by omega) (by omega) (by omega)]; omega) (Rt.gd (by omega) (by omega) (by omega) (go v W hv n2.symm))
          · rw [if_neg (fun q => c q.2)] at n2
            exact Rt.ift (by rw [i64_le (by omega) (by omega) (by omega) (by omega)]; omega) (Rt.gd (by omega) (by omega) (by omega) (Rt.gd (by omega) (by omega) (by omega) (go v N1 hv n2.symm)))
        by_cases c : M1 < W
        · rw [if_pos ⟨cnT_iff.mpr c0, c⟩] at m2
          exact Rt.iff (by rw [i64_le (by omega) (by omega) (by omega) (by omega)]; omega) (last W m2.symm)
        · rw [if_neg (fun q => c q.2)] at m2
          exact Rt.ift (by rw [i64_le (by omega) (by omega) (by omega) (by omega)]; omega) (Rt.gd (by omega) (by omega) (by omega) (last M1 m2.symm))
      · exact Rt.ift (by rw [bI_0]; exact c1) (ih f (o + 1) mo le (by omega) (by omega) (MB_skip hmo (fun q => c1 q.2)) (LB_skip hle (fun q => c1 q.2)))
    · exact Rt.ift (by rw [bI_0]; exact c0) (ih f (o + 1) mo le (by omega) (by omega) (MB_skip hmo (fun q => c0 q.1)) (LB_skip hle (fun q => c0 q.1)))
theorem v_sadZ (hFu : 6000 ≤ Fu) (hM : RM y row) (hW : WF y) {th lw : Int32} {set rs vs : Nat → Int64} {br : Int32} {val sum : Int64} {ch co pc : Nat → Int32} {tb : Nat → Int64} (hC : CT y LO co) (hT : TB y LO tb) {x1 : Int32} {P : _ → Prop}
    (hk : ∀ mo le, (∀ o, cnS y LO 1 o → mo o = i64 (hiS y LO o)) → (∀ z, cnS y LO 0 z → le z = i64 (loS y LO z)) → Rt (fX12_saddle_L183 Fu Fu th row lw set rs br val sum ch vs co tb pc mo le x1 0 (-1 : Int32) 0) P) :
    ∀ (d f z : Nat) (mo le : Nat → Int64), z + d = 256 → d < f → MB y LO z 0 mo → LB y LO z 0 le → Rt (fX12_saddle_L58 Fu f th row lw set rs br val sum ch vs co tb pc mo le x1 (i32 (z : Int))) P := by
  intro d
  induction d with
  | zero =>
    intro f z mo le hz hf hmo hle
    obtain ⟨f, rfl⟩ : ∃ f', f = f' + 1 := ⟨f - 1, by omega⟩
    obtain rfl : z = 256 := by omega
    rw [fX12_saddle_L58]
    refine Rt.ift (by rw [i32_litN 256, i32_le (by omega) (by omega) (by omega) (by omega)]; omega) (hk mo le (fun o ho => ?_) (fun z hz => hle.1 z (cn_lt hW hz).2.2 hz))
    have e := hmo o ho
    rw [if_neg (by omega)] at e
    exact e
  | succ d ih =>
    intro f z mo le hz hf hmo hle
    obtain ⟨f, rfl⟩ : ∃ f', f = f' + 1 := ⟨f - 1, by omega⟩
    rw [fX12_saddle_L58]
    exact Rt.iff (by rw [i32_litN 256, i32_le (by omega) (by omega) (by omega) (by omega)]; omega) (v_sadT hFu hM hW hC hT (z := z) (by omega) (fun mo2 le2 g1 g2 => ih f (z + 1) mo2 le2 (by omega) (by omega) g1 g2) 256 Fu 0 mo le (by omega) (by omega) hmo hle)
theorem v_sad0 (hW : WF y) {th lw : Int32} {set rs vs : Nat → Int64} {br : Int32} {val sum : Int64} {ch co pc : Nat → Int32} {tb : Nat → Int64} {x1 : Int32} {P : _ → Prop}
    (hk : ∀ mo le, MB y LO 0 0 mo → LB y LO 0 0 le → Rt (fX12_saddle_L58 Fu Fu th row lw set rs br val sum ch vs co tb pc mo le x1 0) P) :
    ∀ (d f k : Nat) (mo le : Nat → Int64), k + d = 256 → d < f → (∀ i, i < k → mo i = i64 (-1) ∧ le i = i64 1000000000000000000) → Rt (fX12_saddle_L25 Fu f th row lw set rs br val sum ch vs co tb pc mo le x1 (i32 (k : Int))) P := by
  intro d
  induction d with
  | zero =>
    intro f k mo le hk2 hf h
    obtain ⟨f, rfl⟩ : ∃ f', f = f' + 1 := ⟨f - 1, by omega⟩
    obtain rfl : k = 256 := by omega
    rw [fX12_saddle_L25]
    refine Rt.ift (by rw [i32_litN 256, i32_le (by omega) (by omega) (by omega) (by omega)]; omega) (hk mo le (fun o ho => ?_) ⟨fun z' q => by omega, fun hc => ?_, fun z' _ q => (h z' q).2⟩)
    · have := (h o (cn_lt hW ho).2.2).1
      rw [if_neg (by omega)]; exact this
    · exact (h 0 (by omega)).2
  | succ d ih =>
    intro f k mo le hk2 hf h
    obtain ⟨f, rfl⟩ : ∃ f', f = f' + 1 := ⟨f - 1, by omega⟩
    rw [fX12_saddle_L25]
    refine Rt.iff (by rw [i32_litN 256, i32_le (by omega) (by omega) (by omega) (by omega)]; omega) (Rt.gd (by omega) (by omega) (by omega) (Rt.gd (by omega) (by omega) (by omega) ?_))
    rw [i32_nat (by omega) (by omega), Int.toNat_natCast, i32_p1]
    refine ih f (k + 1) _ _ (by omega) (by omega) (fun i hi => ?_)
    by_cases c : i = k
    · subst c; rw [va_up_at, va_up_at]; exact ⟨rfl, rfl⟩
    · rw [va_up_ne _ _ c, va_up_ne _ _ c]; exact h i (by omega)
/-! counting them -/
def cI (p q : Nat → Bool) (c0 : Int) (z o : Nat) : Int := c0 + (if p z = true then cntP q o else 0)
def fI (p q : Nat → Bool) (c0 f0 : Int) (z o : Nat) : Int := if c0 = 0 ∧ ¬ cI p q c0 z o = 0 then 256 * (z : Int) + fstP q o else f0
theorem cI_no {p q : Nat → Bool} {c0 f0 : Int} {z o : Nat} (h : ¬ (p z = true ∧ q o = true)) : cI p q c0 z (o + 1) = cI p q c0 z o ∧ fI p q c0 f0 z (o + 1) = fI p q c0 f0 z o := by
  have e : cI p q c0 z (o + 1) = cI p q c0 z o := by
    unfold cI
    by_cases c : p z = true
    · rw [if_pos c, if_pos c]
      show c0 + (cntP q o + (if q o = true then 1 else 0)) = _
      rw [if_neg (fun w => h ⟨c, w⟩)]; omega
    · rw [if_neg c, if_neg c]
  refine ⟨e, ?_⟩
  unfold fI
  rw [e]
  by_cases c : p z = true
  · have e2 : fstP q (o + 1) = fstP q o := if_neg (fun w => h ⟨c, w.2⟩)
    rw [e2]
  · have : cI p q c0 z o = c0 := by unfold cI; rw [if_neg c]; omega
    rw [this, if_neg (by omega), if_neg (by omega)]
theorem cI_yes {p q : Nat → Bool} {c0 f0 : Int} {z o : Nat} (h0 : 0 ≤ c0) (hp : p z = true) (hq : q o = true) : cI p q c0 z (o + 1) = cI p q c0 z o + 1 ∧ fI p q c0 f0 z (o + 1) = (if cI p q c0 z o = 0 then 256 * (z : Int) + (o : Int) else fI p q c0 f0 z o) := by
  have r := cntP_rng (p := q) o
  have cf := cnt_fst (p := q) o
  have a : cI p q c0 z o = c0 + cntP q o := by unfold cI; rw [if_pos hp]
  have b : cI p q c0 z (o + 1) = c0 + (cntP q o + 1) := by
    unfold cI; rw [if_pos hp]
    show c0 + (cntP q o + (if q o = true then 1 else 0)) = _
    rw [if_pos hq]
  have s : fstP q (o + 1) = if fstP q o = -1 ∧ q o = true then (o : Int) else fstP q o := rfl
  refine ⟨by omega, ?_⟩
  unfold fI
  rw [a, b]
  by_cases c : c0 = 0
  · rw [if_pos ⟨c, by omega⟩]
    by_cases d : cntP q o = 0
    · rw [if_pos (by omega), s, if_pos ⟨cf.mp d, hq⟩]
    · rw [if_neg (by omega), if_pos ⟨c, by omega⟩, s, if_neg (fun w => d (cf.mpr w.1))]
  · rw [if_neg (by omega), if_neg (by omega), if_neg (by omega)]
theorem i64_eq16 {a b : Int} (ha : 0 ≤ a ∧ a ≤ 10000000000000000) (hb : 0 ≤ b ∧ b ≤ 10000000000000000) : i64 a = i64 b ↔ a = b := by
  rw [i64_eq (by omega) (by omega) (by omega) (by omega)]
theorem v_sadI (hFu : 6000 ≤ Fu) (hM : RM y row) (hW : WF y) {th lw : Int32} {set rs vs : Nat → Int64} {br : Int32} {val sum : Int64} {ch co pc : Nat → Int32} {tb mo le : Nat → Int64} (hC : CT y LO co) (hT : TB y LO tb) (hmo : ∀ o, cnS y LO 1 o → mo o = i64 (hiS y LO o)) (hle : ∀ z, cnS y LO 0 z → le z = i64 (loS y LO z)) {x1 : Int32} {z : Nat} (hz : z < 256) {c0 f0 : Int} (h0 : 0 ≤ c0) (h1 : c0 ≤ 100000) {k183 : _} {P : _ → Prop}
    (hk : Rt (k183 th row lw set rs br val sum ch vs co tb pc mo le x1 (i32 (cI (pZ y LO) (pO y LO) c0 z 256)) (i32 (fI (pZ y LO) (pO y LO) c0 f0 z 256)) (i32 ((z + 1 : Nat) : Int))) P) :
    ∀ (d f o : Nat), o + d = 256 → d < f → Rt (fX12_saddle_L194 Fu k183 f th row lw set rs br val sum ch vs co tb pc mo le x1 (i32 (cI (pZ y LO) (pO y LO) c0 z o)) (i32 (fI (pZ y LO) (pO y LO) c0 f0 z o)) (i32 (z : Int)) (i32 (o : Int))) P := by
  intro d
  induction d with
  | zero =>
    intro f o ho hf
    obtain ⟨f, rfl⟩ : ∃ f', f = f' + 1 := ⟨f - 1, by omega⟩
    obtain rfl : o = 256 := by omega
    rw [fX12_saddle_L194]
    refine Rt.ift (by rw [i32_litN 256, i32_le (by omega) (by omega) (by omega) (by omega)]; omega) ?_
    rw [i32_p1]; exact hk
  | succ d ih =>
    intro f o ho hf
    obtain ⟨f, rfl⟩ : ∃ f', f = f' + 1 := ⟨f - 1, by omega⟩
    have k0 : fX12_can row co 0 (i32 (z : Int)) = some (bI (cnS y LO 0 z)) := v_canN hM hW hC (sd := 0) (by omega) (by omega)
    have k1 : fX12_can row co 1 (i32 (o : Int)) = some (bI (cnS y LO 1 o)) := v_canN hM hW hC (sd := 1) (by omega) (by omega)
    have no : ¬ (pZ y LO z = true ∧ pO y LO o = true) → Rt (fX12_saddle_L194 Fu k183 f th row lw set rs br val sum ch vs co tb pc mo le x1 (i32 (cI (pZ y LO) (pO y LO) c0 z o)) (i32 (fI (pZ y LO) (pO y LO) c0 f0 z o)) (i32 (z : Int)) (i32 ((o + 1 : Nat) : Int))) P := by
      intro q
      have e := cI_no (c0 := c0) (f0 := f0) q
      have := ih f (o + 1) (by omega) (by omega)
      rw [e.1, e.2] at this
      exact this
    rw [fX12_saddle_L194]
    refine Rt.iff (by rw [i32_litN 256, i32_le (by omega) (by omega) (by omega) (by omega)]; omega) ?_
    rw [k0, i32_p1]
    refine Rt.eqb rfl ?_
    by_cases c0' : cnS y LO 0 z
    · refine Rt.iff (by rw [bI_0]; exact fun q => q c0') ?_
      rw [k1]
      refine Rt.eqb rfl ?_
      by_cases c1 : cnS y LO 1 o
      · refine Rt.iff (by rw [bI_0]; exact fun q => q c1) ?_
        have sdi := sd_iff hW c0' c1
        rw [show (256 : Int32) * i32 (z : Int) + i32 (o : Int) = i32 ((256 * z + o : Nat) : Int) by rw [i32_litN 256, i32_mul, i32_add]; congr 1 <;> omega]
        refine Rt.gd (by omega) (by omega) (by omega) (Rt.gd (by omega) (by omega) (by omega) ?_)
        rw [i32_nat (a := ((256 * z + o : Nat) : Int)) (by omega) (by omega), i32_nat (a := (z : Int)) (by omega) (by omega), i32_nat (a := (o : Int)) (by omega) (by omega), Int.toNat_natCast, Int.toNat_natCast, Int.toNat_natCast, hT z o c0' c1, hmo o c1, hle z c0']
        by_cases q1 : i64 (wn y LO z o) = i64 (hiS y LO o)
        · refine Rt.ift q1 (Rt.gd (by omega) (by omega) (by omega) (Rt.gd (by omega) (by omega) (by omega) ?_))
          by_cases q2 : i64 (wn y LO z o) = i64 (loS y LO z)
          · refine Rt.ift q2 ?_
            obtain ⟨p1, p2⟩ := sdi.mp ⟨(i64_eq16 wn_rng (hi_rng hW)).mp q1, (i64_eq16 wn_rng (lo_rng hW)).mp q2⟩
            have e := cI_yes (f0 := f0) h0 p1 p2
            have r := cntP_rng (p := pO y LO) o
            have cr : 0 ≤ cI (pZ y LO) (pO y LO) c0 z o ∧ cI (pZ y LO) (pO y LO) c0 z o ≤ 100256 := by unfold cI; rw [if_pos p1]; omega
            have := ih f (o + 1) (by omega) (by omega)
            rw [e.1, e.2] at this
            unfold fX12_saddle_L289
            rw [show i32 (cI (pZ y LO) (pO y LO) c0 z o) + 1 = i32 (cI (pZ y LO) (pO y LO) c0 z o + 1) from i32_add _ 1, i32_p1]
            by_cases c : cI (pZ y LO) (pO y LO) c0 z o = 0
            · refine Rt.ift (by rw [c]; rfl) ?_
              rw [if_pos c, show 256 * (z : Int) + (o : Int) = ((256 * z + o : Nat) : Int) by omega] at this
              exact this
            · rw [if_neg c] at this
              exact Rt.iff (by rw [i32_litN 0, i32_eq (by omega) (by omega) (by omega) (by omega)]; exact c) this
          · exact Rt.iff q2 (no (fun w => q2 (by rw [(sdi.mpr w).2])))
        · exact Rt.iff q1 (no (fun w => q1 (by rw [(sdi.mpr w).1])))
      · exact Rt.ift (by rw [bI_0]; exact c1) (no (fun w => c1 (pO_iff.mp w.2).2.1))
    · exact Rt.ift (by rw [bI_0]; exact c0') (no (fun w => c0' (pZ_iff.mp w.1).2.1))
end SADDLEM
