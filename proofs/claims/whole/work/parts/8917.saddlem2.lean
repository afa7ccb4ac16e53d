section SADDLEM2
variable {y : Nat → Int} {row : Nat → Int32} {Fu : Nat} {LO : Option LwS}
def CZ (p : Nat → Bool) (K : Int) (z : Nat) : Int := cntP p z * K
def FZ (p : Nat → Bool) (K F : Int) (z : Nat) : Int := if CZ p K z = 0 then -1 else 256 * fstP p z + F
theorem CZ_0 {p : Nat → Bool} {K : Int} {z : Nat} : CZ p K z = 0 ↔ cntP p z = 0 ∨ K = 0 := Int.mul_eq_zero
theorem CZ_rng {p : Nat → Bool} {K : Int} {z : Nat} (hz : z ≤ 256) (k1 : 0 ≤ K) (k2 : K ≤ 256) : 0 ≤ CZ p K z ∧ CZ p K z ≤ 65536 := by
  have r := cntP_rng (p := p) z
  refine ⟨Int.mul_nonneg r.1 k1, ?_⟩
  have := Int.mul_le_mul (show cntP p z ≤ 256 by omega) k2 k1 (by omega)
  unfold CZ
  omega
theorem cz_step {p q : Nat → Bool} {K F : Int} {z : Nat} (hK : cntP q 256 = K) (hF : fstP q 256 = F) (k1 : 0 ≤ K) (kf : K = 0 ↔ F = -1) : cI p q (CZ p K z) z 256 = CZ p K (z + 1) ∧ fI p q (CZ p K z) (FZ p K F z) z 256 = FZ p K F (z + 1) := by
  have e1 : cntP p (z + 1) = cntP p z + (if p z = true then 1 else 0) := rfl
  have e2 : fstP p (z + 1) = if fstP p z = -1 ∧ p z = true then (z : Int) else fstP p z := rfl
  have r := cntP_rng (p := p) z
  have cf := cnt_fst (p := p) z
  have a : cI p q (CZ p K z) z 256 = CZ p K (z + 1) := by
    unfold cI CZ
    rw [hK, e1]
    by_cases c : p z = true
    · rw [if_pos c, if_pos c, Int.add_mul, Int.one_mul]
    · rw [if_neg c, if_neg c, Int.add_zero, Int.add_zero]
  refine ⟨a, ?_⟩
  have z0 := CZ_0 (p := p) (K := K) (z := z)
  have z1 := CZ_0 (p := p) (K := K) (z := z + 1)
  unfold fI
  rw [a, hF]
  generalize hC : CZ p K z = C at *
  generalize hC1 : CZ p K (z + 1) = C1 at *
  have f0 : FZ p K F z = if C = 0 then -1 else 256 * fstP p z + F := by unfold FZ; rw [hC]
  have f1 : FZ p K F (z + 1) = if C1 = 0 then -1 else 256 * fstP p (z + 1) + F := by unfold FZ; rw [hC1]
  rw [f0, f1]
  generalize cntP p (z + 1) = n1 at *
  generalize cntP p z = n0 at *
  generalize fstP p (z + 1) = g1 at *
  generalize fstP p z = g0 at *
  by_cases c : p z = true
  · rw [if_pos c] at e1
    by_cases g : g0 = -1
    · rw [if_pos ⟨g, c⟩] at e2
      have n00 := cf.mpr g
      by_cases k : K = 0
      · rw [if_neg (by omega), if_pos (by omega), if_pos (by omega)]
      · rw [if_pos ⟨by omega, by omega⟩, if_neg (by omega), e2]
    · rw [if_neg (fun w => g w.1)] at e2
      by_cases k : K = 0
      · rw [if_neg (by omega), if_pos (by omega), if_pos (by omega)]
      · rw [if_neg (by omega), if_neg (by omega), if_neg (by omega), e2]
  · rw [if_neg c] at e1
    rw [if_neg (fun w => c w.2)] at e2
    have e3 : C = 0 ↔ C1 = 0 := by rw [z0, z1, e1, Int.add_zero]
    by_cases k : C = 0
    · rw [if_neg (by omega), if_pos k, if_pos (e3.mp k)]
    · rw [if_neg (by omega), if_neg k, if_neg (fun w => k (e3.mpr w)), e2]
theorem v_sadO (hFu : 6000 ≤ Fu) (hM : RM y row) (hW : WF y) {th lw : Int32} {set rs vs : Nat → Int64} {br : Int32} {val sum : Int64} {ch co pc : Nat → Int32} {tb mo le : Nat → Int64} (hC : CT y LO co) (hT : TB y LO tb) (hmo : ∀ o, cnS y LO 1 o → mo o = i64 (hiS y LO o)) (hle : ∀ z, cnS y LO 0 z → le z = i64 (loS y LO z)) {w : Int} (w1 : 0 ≤ w) (w2 : w ≤ 2) {K F : Int} (hK : cntP (pO y LO) 256 = K) (hF : fstP (pO y LO) 256 = F) (k1 : 0 ≤ K) (k2 : K ≤ 256) (f1 : -1 ≤ F) (f2 : F < 256) (kf : K = 0 ↔ F = -1) :
    ∀ (d f z : Nat), z + d = 256 → d < f → Rt (fX12_saddle_L183 Fu f th row lw set rs br val sum ch vs co tb pc mo le (i32 w) (i32 (CZ (pZ y LO) K z)) (i32 (FZ (pZ y LO) K F z)) (i32 (z : Int))) (fun r => r.1 = i32 (if w = 2 then CZ (pZ y LO) K 256 else if CZ (pZ y LO) K 256 = 0 then -1 else if w = 0 then fstP (pZ y LO) 256 else F)) := by
  intro d
  induction d with
  | zero =>
    intro f z hz hf
    obtain ⟨f, rfl⟩ : ∃ f', f = f' + 1 := ⟨f - 1, by omega⟩
    obtain rfl : z = 256 := by omega
    rw [fX12_saddle_L183]
    refine Rt.ift (by rw [i32_litN 256, i32_le (by omega) (by omega) (by omega) (by omega)]; omega) ?_
    have fr := fstP_rng (p := pZ y LO) 256
    have cf := cnt_fst (p := pZ y LO) 256
    have cz := CZ_0 (p := pZ y LO) (K := K) (z := 256)
    have ef : FZ (pZ y LO) K F 256 = if CZ (pZ y LO) K 256 = 0 then -1 else 256 * fstP (pZ y LO) 256 + F := rfl
    generalize CZ (pZ y LO) K 256 = C at *
    generalize FZ (pZ y LO) K F 256 = X at *
    generalize fstP (pZ y LO) 256 = G at *
    generalize cntP (pZ y LO) 256 = n at *
    by_cases c2 : w = 2
    · subst c2
      rw [if_pos rfl]
      exact Rt.ift rfl (Rt.ret rfl)
    · rw [if_neg c2]
      refine Rt.iff (by rw [i32_litN 2, i32_eq (by omega) (by omega) (by omega) (by omega)]; exact c2) ?_
      by_cases c : C = 0
      · rw [if_pos c] at ef
        rw [if_pos c]
        exact Rt.ift (by rw [ef]; rfl) (Rt.ret rfl)
      · rw [if_neg c] at ef
        rw [if_neg c]
        have fr2 : G < 256 := by have := fr.2; omega
        refine Rt.iff (by rw [i32_m1, i32_eq (by omega) (by omega) (by omega) (by omega)]; omega) ?_
        have gz256 : ∀ {α : Type} {k : Option α}, gz 256 k = k := gz_ok (a := 256) (by omega) (by omega) (by omega)
        by_cases c0 : w = 0
        · subst c0
          rw [if_pos rfl]
          refine Rt.ift rfl ?_
          rw [gz256]
          refine Rt.ret ?_
          show i32 X / 256 = i32 G
          rw [i32_litN 256, i32_div (by omega) (by omega) (by omega) (by omega)]
          exact congrArg i32 (by omega)
        · rw [if_neg c0]
          refine Rt.iff (by rw [i32_litN 0, i32_eq (by omega) (by omega) (by omega) (by omega)]; exact c0) ?_
          rw [gz256]
          refine Rt.ret ?_
          show i32 X - i32 X / 256 * 256 = i32 F
          rw [i32_litN 256, i32_div (by omega) (by omega) (by omega) (by omega), i32_mul, i32_sub]
          exact congrArg i32 (by omega)
  | succ d ih =>
    intro f z hz hf
    obtain ⟨f, rfl⟩ : ∃ f', f = f' + 1 := ⟨f - 1, by omega⟩
    have st := cz_step (p := pZ y LO) (q := pO y LO) (z := z) hK hF k1 kf
    have cr := CZ_rng (p := pZ y LO) (K := K) (z := z) (by omega) k1 k2
    have nx := ih f (z + 1) (by omega) (by omega)
    rw [← st.1, ← st.2] at nx
    rw [fX12_saddle_L183]
    refine Rt.iff (by rw [i32_litN 256, i32_le (by omega) (by omega) (by omega) (by omega)]; omega) ?_
    have := v_sadI hFu hM hW hC hT hmo hle (x1 := i32 w) (z := z) (by omega) cr.1 (Int.le_trans cr.2 (by decide)) nx 256 Fu 0 (by omega) (by omega)
    rw [show cI (pZ y LO) (pO y LO) (CZ (pZ y LO) K z) z 0 = CZ (pZ y LO) K z by unfold cI; rw [cnt_0]; split <;> omega, show fI (pZ y LO) (pO y LO) (CZ (pZ y LO) K z) (FZ (pZ y LO) K F z) z 0 = FZ (pZ y LO) K F z by unfold fI cI; rw [cnt_0]; rw [if_neg (by split <;> omega)]] at this
    exact this
theorem m_saddle (hFu : 6000 ≤ Fu) (hM : RM y row) (hW : WF y) (hO : MO y LO) {th lw : Int32} {set rs : Nat → Int64} {br : Int32} {val sum : Int64} {ch co pc : Nat → Int32} {vs tb mo le : Nat → Int64} {w : Int} (w1 : -2147483648 ≤ w) (w2 : w ≤ 2147483647) :
    Rt (fX12_saddle Fu th row lw set rs br val sum ch vs co tb pc mo le (i32 w)) (fun r => r.1 = i32 (saddleS y LO w)) := by
  have eN : ¬ (0 ≤ w ∧ w ≤ 2) → saddleS y LO w = -1 := fun q => if_neg q
  have eY : (0 ≤ w ∧ w ≤ 2) → saddleS y LO w = (if w = 2 then CZ (pZ y LO) (cntP (pO y LO) 256) 256 else if CZ (pZ y LO) (cntP (pO y LO) 256) 256 = 0 then -1 else if w = 0 then fstP (pZ y LO) 256 else fstP (pO y LO) 256) := fun q => if_pos q
  unfold fX12_saddle
  rw [i32_64 w1 w2, show (0 : Int64) = i64 0 from rfl, show (2 : Int64) = i64 2 from rfl, v_in (by omega) (by omega) (by omega) (by omega) (by omega) (by omega)]
  refine Rt.eqb rfl ?_
  by_cases cw : 0 ≤ w ∧ w ≤ 2
  · refine Rt.iff (by rw [bI_0]; exact fun q => q cw) ?_
    rw [eY cw]
    clear eY eN
    have kr := cntP_rng (p := pO y LO) 256
    have fr := fstP_rng (p := pO y LO) 256
    have kf := cnt_fst (p := pO y LO) 256
    generalize hK : cntP (pO y LO) 256 = K at *
    generalize hF : fstP (pO y LO) 256 = F at *
    refine Rt.bind (v_table hFu hM hW hO) (fun r hr => ?_)
    refine v_sad0 (LO := LO) hW (fun mo1 le1 g1 g2 => ?_) 256 Fu 0 mo le (by omega) (by omega) (fun i hi => by omega)
    refine v_sadZ hFu hM hW hr.2.1 hr.2.2 (fun mo2 le2 g3 g4 => ?_) 256 Fu 0 mo1 le1 (by omega) (by omega) g1 g2
    have := v_sadO hFu hM hW (th := 0) (lw := r.1) (set := r.2.1) (rs := r.2.2.1) (br := r.2.2.2.1) (val := r.2.2.2.2.1) (sum := r.2.2.2.2.2.1) (ch := r.2.2.2.2.2.2.1) (vs := r.2.2.2.2.2.2.2.1) (pc := r.2.2.2.2.2.2.2.2.2.2) hr.2.1 hr.2.2 g3 g4 cw.1 cw.2 hK hF kr.1 kr.2 fr.1 fr.2 kf 256 Fu 0 (by omega) (by omega)
    rw [show CZ (pZ y LO) K 0 = 0 by unfold CZ; rw [cnt_0, Int.zero_mul], show FZ (pZ y LO) K F 0 = -1 by unfold FZ CZ; rw [cnt_0, Int.zero_mul, if_pos rfl]] at this
    exact this
  · refine Rt.ift (by rw [bI_0]; exact cw) ?_
    rw [eN cw]; exact Rt.ret rfl
end SADDLEM2
