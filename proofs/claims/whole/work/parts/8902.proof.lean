section CASES2
variable {y : Nat → Int} {row : Nat → Int32} {beasts meals seats laws inForce cases : Int32} {tr mh te rs ju vo : Nat → Int32} {Fu : Nat}
/-! two beasts together -/
theorem bit_two {j a b : Nat} (hj : j < 256) (ha : a < 8) (hb : b < 8) : ((i32 (j : Int) >>> (i32 (a : Int) &&& 31)) &&& (i32 (j : Int) >>> (i32 (b : Int) &&& 31))) &&& 1 = bI (j.testBit a = true ∧ j.testBit b = true) := by
  rw [i32_31 (by omega), i32_31 (by omega), i32_shr (by omega) (by omega), i32_shr (by omega) (by omega), i32_and, i32_litN 1, i32_and, Nat.and_one_is_mod]
  have e : ((j >>> a) &&& (j >>> b)) % 2 = if j.testBit a = true ∧ j.testBit b = true then 1 else 0 := by
    have h0 : ((j >>> a) &&& (j >>> b)).testBit 0 = (j.testBit a && j.testBit b) := by
      rw [Nat.testBit_and, Nat.testBit_shiftRight, Nat.testBit_shiftRight]; simp
    rw [Nat.testBit_zero] at h0
    generalize (j >>> a) &&& (j >>> b) = X at *
    by_cases c : j.testBit a = true ∧ j.testBit b = true
    · rw [if_pos c]
      rw [c.1, c.2] at h0
      exact of_decide_eq_true h0
    · rw [if_neg c]
      have : ¬ X % 2 = 1 := fun q => c (by rw [decide_eq_true q] at h0; simpa using h0.symm)
      omega
  rw [e]
  unfold bI
  split <;> rfl
theorem x_togL (hW : WF y) (hX : RX y beasts meals seats laws inForce tr mh te cases rs ju vo) {a b : Nat} (ha : a < 8) (hb : b < 8) {w : Int} (hw : w = 0 ∨ w = 1) : ∀ (d f k : Nat), (k : Int) + d = y 11 → d < f → fX2_together_L6 Fu f cases ju vo (i32 (a : Int)) (i32 (b : Int)) (i32 w) (i32 ((tgt y a b w k : Nat) : Int)) (i32 (k : Int)) = some (i32 ((tgt y a b w (y 11).toNat : Nat) : Int)) := by
  have h11 := hW.2.2.2.2.2.2.1
  have ec := hX.2.2.2.2.2.2.2.2.1
  intro d
  induction d with
  | zero =>
    intro f k hk hf
    obtain ⟨f, rfl⟩ : ∃ f', f = f' + 1 := ⟨f - 1, by omega⟩
    rw [fX2_together_L6, if_pos (by rw [ec, i32_le (by omega) (by omega) (by omega) (by omega)]; omega), show (y 11).toNat = k by omega]
  | succ d ih =>
    intro f k hk hf
    obtain ⟨f, rfl⟩ : ∃ f', f = f' + 1 := ⟨f - 1, by omega⟩
    have h := hW.case (k := k) (by omega)
    obtain ⟨c1, c2, c3⟩ := hX.2.2.2.2.2.2.2.2.2 k (by omega)
    rw [h.2.1] at c2
    rw [h.2.2.1] at c3
    have go := ih f (k + 1) (by omega) (by omega)
    have et : tgt y a b w (k + 1) = tgt y a b w k + (if ((jb y k).testBit a = true ∧ (jb y k).testBit b = true) ∧ (w = 0 ∨ (vb y k).testBit a = (vb y k).testBit b) then 1 else 0) := rfl
    rw [fX2_together_L6, if_neg (by rw [ec, i32_le (by omega) (by omega) (by omega) (by omega)]; omega), gd_ok (by omega) (by omega) (by omega), gd_ok (by omega) (by omega) (by omega)]
    unfold fX2_together_L45 fX2_together_L77 fX2_together_L93
    rw [gd_ok (by omega) (by omega) (by omega), gd_ok (by omega) (by omega) (by omega), i32_nat (by omega) (by omega), Int.toNat_natCast, c2, c3, bit_two h.2.2.2.1 ha hb, i32_bit (by omega) (by omega), i32_bit (by omega) (by omega), i32_p1, i32_p1]
    have eqb : (i32 (if (vb y k).testBit a then 1 else 0) = i32 (if (vb y k).testBit b then 1 else 0)) ↔ (vb y k).testBit a = (vb y k).testBit b := by
      cases (vb y k).testBit a <;> cases (vb y k).testBit b <;> decide
    by_cases cj : (jb y k).testBit a = true ∧ (jb y k).testBit b = true
    · rw [if_pos (by rw [bI_1]; exact cj)]
      by_cases cv : (vb y k).testBit a = (vb y k).testBit b
      · rw [if_pos (eqb.mpr cv), if_neg (by decide), if_neg (by decide)]
        rw [if_pos ⟨cj, Or.inr cv⟩] at et
        rw [et] at go; exact go
      · rw [if_neg (fun q => cv (eqb.mp q)), if_neg (by decide), if_pos rfl]
        rcases hw with rfl | rfl
        · rw [if_pos (show i32 0 = 0 from rfl)]
          rw [if_pos ⟨cj, Or.inl rfl⟩] at et
          rw [et] at go; exact go
        · rw [if_neg (by decide)]
          rw [if_neg (fun q => by rcases q.2 with q | q; · omega
                                  · exact cv q)] at et
          rw [et] at go; exact go
    · rw [if_neg (by rw [bI_1]; exact cj), gd_ok (by omega) (by omega) (by omega), gd_ok (by omega) (by omega) (by omega)]
      rw [if_neg (fun q => cj q.1)] at et
      rw [et] at go
      by_cases cv : (vb y k).testBit a = (vb y k).testBit b
      · rw [if_pos (eqb.mpr cv), if_pos rfl]; exact go
      · rw [if_neg (fun q => cv (eqb.mp q)), if_pos rfl]; exact go
theorem v_togL (hM : RM y row) (hW : WF y) {th : Int32} {a b : Nat} (ha : a < 8) (hb : b < 8) {w : Int} (hw : w = 0 ∨ w = 1) : ∀ (d f k : Nat), (k : Int) + d = y 11 → d < f → fX12_agree_L47 Fu f th row (i32 (a : Int)) (i32 (b : Int)) (i32 w) (i32 ((tgt y a b w k : Nat) : Int)) (i32 (k : Int)) = some (i32 ((tgt y a b w (y 11).toNat : Nat) : Int), th) := by
  have h11 := hW.2.2.2.2.2.2.1
  intro d
  induction d with
  | zero =>
    intro f k hk hf
    obtain ⟨f, rfl⟩ : ∃ f', f = f' + 1 := ⟨f - 1, by omega⟩
    rw [fX12_agree_L47, gd9 (by decide) (by decide), i32_nn9 (by decide), hM 11 (by omega), if_pos (by rw [i32_le (by omega) (by omega) (by omega) (by omega)]; omega), show (y 11).toNat = k by omega]
  | succ d ih =>
    intro f k hk hf
    obtain ⟨f, rfl⟩ : ∃ f', f = f' + 1 := ⟨f - 1, by omega⟩
    have h := hW.case (k := k) (by omega)
    have go := ih f (k + 1) (by omega) (by omega)
    have et : tgt y a b w (k + 1) = tgt y a b w k + (if ((jb y k).testBit a = true ∧ (jb y k).testBit b = true) ∧ (w = 0 ∨ (vb y k).testBit a = (vb y k).testBit b) then 1 else 0) := rfl
    rw [fX12_agree_L47, gd9 (by decide) (by decide), i32_nn9 (by decide), hM 11 (by omega), if_neg (by rw [i32_le (by omega) (by omega) (by omega) (by omega)]; omega)]
    rw [show (110 : Int32) + 3 * i32 (k : Int) = i32 ((110 + 3 * k : Nat) : Int) by rw [i32_litN 110, i32_litN 3, i32_mul, i32_add]; congr 1 <;> omega]
    rw [show i32 ((110 + 3 * k : Nat) : Int) + 1 = i32 ((111 + 3 * k : Nat) : Int) by rw [i32_litN 1, i32_add]; congr 1; omega, show i32 ((110 + 3 * k : Nat) : Int) + 2 = i32 ((112 + 3 * k : Nat) : Int) by rw [i32_litN 2, i32_add]; congr 1; omega]
    rw [gd_ok (by omega) (by omega) (by omega), gd_ok (by omega) (by omega) (by omega), i32_nat (by omega) (by omega), i32_nat (by omega) (by omega), Int.toNat_natCast, Int.toNat_natCast, hM _ (by omega), hM _ (by omega), h.2.1, h.2.2.1, v_is (by omega) (by omega), v_is (by omega) (by omega), Option.bind_some, Option.bind_some]
    have eqb : (bI ((vb y k).testBit a = true) = bI ((vb y k).testBit b = true)) ↔ (vb y k).testBit a = (vb y k).testBit b := by
      cases (vb y k).testBit a <;> cases (vb y k).testBit b <;> decide
    have e0 : i32 ((tgt y a b w k : Nat) : Int) + 0 = i32 ((tgt y a b w k : Nat) : Int) := by rw [i32_litN 0, i32_add]; congr 1 <;> omega
    have h111 : ∀ s0 : Int32, (s0 = 1 ∧ (vb y k).testBit a = (vb y k).testBit b ∨ s0 = 0 ∧ ¬ (vb y k).testBit a = (vb y k).testBit b) → fX12_agree_L111 Fu (fX12_agree_L47 Fu f) th row (i32 (a : Int)) (i32 (b : Int)) (i32 w) (i32 ((tgt y a b w k : Nat) : Int)) (i32 (k : Int)) (i32 (jb y k : Int)) s0 = some (i32 ((tgt y a b w (y 11).toNat : Nat) : Int), th) := by
      intro s0 hs
      unfold fX12_agree_L111 fX12_agree_L146
      rw [v_is (by omega) (by omega), v_is (by omega) (by omega), Option.bind_some, i32_p1, i32_p1, e0]
      by_cases ca : (jb y k).testBit a = true
      · rw [if_neg (show ¬ bI ((jb y k).testBit a = true) = 0 by rw [bI_0]; exact fun q => q ca), Option.bind_some]
        by_cases cb : (jb y k).testBit b = true
        · rw [if_neg (show ¬ bI ((jb y k).testBit b = true) = 0 by rw [bI_0]; exact fun q => q cb)]
          rcases hw with rfl | rfl
          · rw [if_pos ⟨⟨ca, cb⟩, Or.inl rfl⟩] at et
            rw [et] at go
            rw [if_pos (show i32 0 = 0 from rfl)]; exact go
          · rw [if_neg (show ¬ i32 1 = 0 by decide)]
            rcases hs with ⟨rfl, cv⟩ | ⟨rfl, cv⟩
            · rw [if_pos ⟨⟨ca, cb⟩, Or.inr cv⟩] at et
              rw [et] at go
              rw [if_neg (by decide)]; exact go
            · rw [if_neg (fun q => by rcases q.2 with q | q; · omega
                                      · exact cv q)] at et
              rw [et] at go
              rw [if_pos rfl]; exact go
        · rw [if_neg (fun q => cb q.1.2)] at et
          rw [et] at go
          rw [if_pos (show bI ((jb y k).testBit b = true) = 0 by rw [bI_0]; exact cb)]; exact go
      · rw [if_neg (fun q => ca q.1.1)] at et
        rw [et] at go
        rw [if_pos (show bI ((jb y k).testBit a = true) = 0 by rw [bI_0]; exact ca)]; exact go
    by_cases cv : (vb y k).testBit a = (vb y k).testBit b
    · rw [if_pos (eqb.mpr cv)]; exact h111 1 (Or.inl ⟨rfl, cv⟩)
    · rw [if_neg (fun q => cv (eqb.mp q))]; exact h111 0 (Or.inr ⟨rfl, cv⟩)
def agreeS (y : Nat → Int) (a b w : Int) : Int := if (0 ≤ a ∧ a ≤ 7) ∧ (0 ≤ b ∧ b ≤ 7) ∧ (0 ≤ w ∧ w ≤ 1) then (tgt y a.toNat b.toNat w (y 11).toNat : Int) else -1
theorem m_agree (hFu : 6000 ≤ Fu) (hM : RM y row) (hW : WF y) {th : Int32} {a b w : Int} (a1 : -2147483648 ≤ a) (a2 : a ≤ 2147483647) (b1 : -2147483648 ≤ b) (b2 : b ≤ 2147483647) (w1 : -2147483648 ≤ w) (w2 : w ≤ 2147483647) :
    Rt (fX12_agree Fu th row (i32 a) (i32 b) (i32 w)) (fun r => r.1 = i32 (agreeS y a b w)) := by
  have h11 := hW.2.2.2.2.2.2.1
  unfold fX12_agree agreeS
  simp (disch := omega) only [i32_64, i64_lit, v_in]
  refine Rt.eqb rfl ?_
  by_cases ca : 0 ≤ a ∧ a ≤ 7
  · refine Rt.iff (by rw [bI_0]; exact fun q => q ca) (Rt.eqb rfl ?_)
    by_cases cb : 0 ≤ b ∧ b ≤ 7
    · refine Rt.iff (by rw [bI_0]; exact fun q => q cb) (Rt.eqb rfl ?_)
      by_cases cw : 0 ≤ w ∧ w ≤ 1
      · refine Rt.iff (by rw [bI_0]; exact fun q => q cw) ?_
        rw [if_pos ⟨ca, cb, cw⟩]
        obtain ⟨a, rfl⟩ := Int.eq_ofNat_of_zero_le ca.1
        obtain ⟨b, rfl⟩ := Int.eq_ofNat_of_zero_le cb.1
        exact Rt.of (v_togL hM hW (by omega) (by omega) (by omega) (y 11).toNat Fu 0 (by omega) (by omega)) rfl
      · refine Rt.ift (by rw [bI_0]; exact cw) ?_
        rw [if_neg (fun q => cw q.2.2)]; exact Rt.ret rfl
    · refine Rt.ift (by rw [bI_0]; exact cb) ?_
      rw [if_neg (fun q => cb q.2.1)]; exact Rt.ret rfl
  · refine Rt.ift (by rw [bI_0]; exact ca) ?_
    rw [if_neg (fun q => ca q.1)]; exact Rt.ret rfl
theorem c_agree (hFu : 6000 ≤ Fu) (hW : WF y) (hX : RX y beasts meals seats laws inForce tr mh te cases rs ju vo) {a b w : Int} (a1 : -2147483648 ≤ a) (a2 : a ≤ 2147483647) (b1 : -2147483648 ≤ b) (b2 : b ≤ 2147483647) (w1 : -2147483648 ≤ w) (w2 : w ≤ 2147483647) :
    Rt (fX11_agree Fu cases ju vo (i32 a) (i32 b) (i32 w)) (fun r => r = i32 (agreeS y a b w)) := by
  have h11 := hW.2.2.2.2.2.2.1
  have eN : ¬ ((0 ≤ a ∧ a ≤ 7) ∧ (0 ≤ b ∧ b ≤ 7) ∧ (0 ≤ w ∧ w ≤ 1)) → agreeS y a b w = -1 := fun q => if_neg q
  have eY : ((0 ≤ a ∧ a ≤ 7) ∧ (0 ≤ b ∧ b ≤ 7) ∧ (0 ≤ w ∧ w ≤ 1)) → agreeS y a b w = (tgt y a.toNat b.toNat w (y 11).toNat : Int) := fun q => if_pos q
  unfold fX11_agree fX11_agree_L24 fX11_agree_L25 fX11_agree_L60
  rw [x_isEither w w1 w2]
  simp (disch := omega) only [i32_lit, i32_lt, i32_le, i32_eq]
  by_cases ca : 0 ≤ a ∧ a ≤ 7
  · refine Rt.iff (by omega) (Rt.iff (by omega) ?_)
    by_cases cb : 0 ≤ b ∧ b ≤ 7
    · refine Rt.iff (by omega) (Rt.iff (by omega) (Rt.eqb rfl ?_))
      by_cases cw : 0 ≤ w ∧ w ≤ 1
      · refine Rt.iff (by rw [bI_0']; exact fun q => q cw) ?_
        rw [eY ⟨ca, cb, cw⟩]
        obtain ⟨a, rfl⟩ := Int.eq_ofNat_of_zero_le ca.1
        obtain ⟨b, rfl⟩ := Int.eq_ofNat_of_zero_le cb.1
        by_cases c1 : w = 1
        · subst c1
          refine Rt.ift rfl ?_
          have : fX2_together Fu cases ju vo (i32 (a : Int)) (i32 (b : Int)) (i32 1) = some _ := x_togL hW hX (by omega) (by omega) (Or.inr rfl) (y 11).toNat Fu 0 (by omega) (by omega)
          rw [this]; exact Rt.ret rfl
        · obtain rfl : w = 0 := by omega
          refine Rt.iff (by decide) ?_
          have : fX2_together Fu cases ju vo (i32 (a : Int)) (i32 (b : Int)) (i32 0) = some _ := x_togL hW hX (by omega) (by omega) (Or.inl rfl) (y 11).toNat Fu 0 (by omega) (by omega)
          rw [this]; exact Rt.ret rfl
      · refine Rt.ift (by rw [bI_0']; exact cw) ?_
        rw [eN (fun q => cw q.2.2)]; exact Rt.ret rfl
    · rw [eN (fun q => cb q.2.1)]
      refine Rt.ite (fun _ => Rt.ret rfl) (fun c => Rt.ift (by omega) (Rt.ret rfl))
  · rw [eN (fun q => ca q.1)]
    refine Rt.ite (fun _ => Rt.ret rfl) (fun c => Rt.ift (by omega) (Rt.ret rfl))
/-! trust -/
def Rg (y : Nat → Int) (b : Nat) : Nat := tms y 0 b (-1) (y 11).toNat
def Wg (y : Nat → Int) (b : Nat) : Nat := tms y 1 b (-1) (y 11).toNat
def ahd (y : Nat → Int) (a b : Nat) : Prop := (Rg y b + 1) * (Rg y a + Wg y a + 2) < (Rg y a + 1) * (Rg y b + Wg y b + 2) ∨ (Rg y b + 1) * (Rg y a + Wg y a + 2) = (Rg y a + 1) * (Rg y b + Wg y b + 2) ∧ a < b
theorem RW_le (hW : WF y) (b : Nat) : Rg y b ≤ 20 ∧ Wg y b ≤ 20 := by
  have h11 := hW.2.2.2.2.2.2.1
  have := tms_le y 0 b (-1) (y 11).toNat
  have := tms_le y 1 b (-1) (y 11).toNat
  unfold Rg Wg
  omega
theorem x_ahead (hFu : 6000 ≤ Fu) (hW : WF y) (hX : RX y beasts meals seats laws inForce tr mh te cases rs ju vo) {a b : Nat} (ha : a < 8) (hb : b < 8) [Decidable (ahd y a b)] : fX2_isAhead Fu cases rs ju vo (i32 (a : Int)) (i32 (b : Int)) = some (bI (ahd y a b)) := by
  have ra := RW_le hW a
  have rb := RW_le hW b
  have e1 : fX2_times Fu cases rs ju vo (i32 (a : Int)) 0 (-1 : Int32) = some (i32 ((Rg y a : Nat) : Int)) := by
    have h := x_times (w := 0) (but := -1) hFu hW hX (by omega) ha (by omega) (by omega)
    exact h
  have e2 : fX2_times Fu cases rs ju vo (i32 (b : Int)) 0 (-1 : Int32) = some (i32 ((Rg y b : Nat) : Int)) := by
    have h := x_times (w := 0) (but := -1) hFu hW hX (by omega) hb (by omega) (by omega)
    exact h
  have e3 : fX2_times Fu cases rs ju vo (i32 (a : Int)) 1 (-1 : Int32) = some (i32 ((Wg y a : Nat) : Int)) := by
    have h := x_times (w := 1) (but := -1) hFu hW hX (by omega) ha (by omega) (by omega)
    exact h
  have e4 : fX2_times Fu cases rs ju vo (i32 (b : Int)) 1 (-1 : Int32) = some (i32 ((Wg y b : Nat) : Int)) := by
    have h := x_times (w := 1) (but := -1) hFu hW hX (by omega) hb (by omega) (by omega)
    exact h
  unfold fX2_isAhead fX2_isAhead_L79
  rw [e1, e2, e3, e4]
  simp only [Option.bind_some, i32_lit, i32_add, i32_mul, i32_sub]
  have p1 : ((Rg y a : Int) + 1) * ((Rg y b : Int) + 1 + (Wg y b : Int) + 1) = (((Rg y a + 1) * (Rg y b + Wg y b + 2) : Nat) : Int) := by
    rw [show (Rg y b : Int) + 1 + (Wg y b : Int) + 1 = ((Rg y b + Wg y b + 2 : Nat) : Int) by omega, show (Rg y a : Int) + 1 = ((Rg y a + 1 : Nat) : Int) by omega, ← Int.natCast_mul]
  have p2 : ((Rg y b : Int) + 1) * ((Rg y a : Int) + 1 + (Wg y a : Int) + 1) = (((Rg y b + 1) * (Rg y a + Wg y a + 2) : Nat) : Int) := by
    rw [show (Rg y a : Int) + 1 + (Wg y a : Int) + 1 = ((Rg y a + Wg y a + 2 : Nat) : Int) by omega, show (Rg y b : Int) + 1 = ((Rg y b + 1 : Nat) : Int) by omega, ← Int.natCast_mul]
  rw [p1, p2]
  have m1 : (Rg y a + 1) * (Rg y b + Wg y b + 2) ≤ 21 * 42 := Nat.mul_le_mul (by omega) (by omega)
  have m2 : (Rg y b + 1) * (Rg y a + Wg y a + 2) ≤ 21 * 42 := Nat.mul_le_mul (by omega) (by omega)
  unfold bI
  have ed : ahd y a b ↔ ((Rg y b + 1) * (Rg y a + Wg y a + 2) < (Rg y a + 1) * (Rg y b + Wg y b + 2) ∨ (Rg y b + 1) * (Rg y a + Wg y a + 2) = (Rg y a + 1) * (Rg y b + Wg y b + 2) ∧ a < b) := Iff.rfl
  simp (disch := omega) only [i32_lt, i32_eq, i32_le]
  generalize (Rg y a + 1) * (Rg y b + Wg y b + 2) = P at *
  generalize (Rg y b + 1) * (Rg y a + Wg y a + 2) = Q at *
  by_cases c : ahd y a b
  · rw [if_pos c]
    have c' := ed.mp c
    by_cases c1 : (0 : Int) < (P : Int) - (Q : Int)
    · rw [if_pos c1]; rfl
    · rw [if_neg c1, if_pos (show (P : Int) - (Q : Int) = 0 by omega), if_neg (show ¬ (b : Int) ≤ (a : Int) by omega)]; rfl
  · rw [if_neg c]
    have c' := fun q => c (ed.mpr q)
    rw [if_neg (show ¬ (0 : Int) < (P : Int) - (Q : Int) from fun q => c' (Or.inl (by omega)))]
    by_cases c2 : (P : Int) - (Q : Int) = 0
    · rw [if_pos c2, if_pos (show (b : Int) ≤ (a : Int) from by
        apply Int.le_of_not_gt
        intro q
        exact c' (Or.inr ⟨by omega, by omega⟩))]; rfl
    · rw [if_neg c2]; rfl
theorem v_ahead (hFu : 6000 ≤ Fu) (hM : RM y row) (hW : WF y) {a b : Nat} (ha : a < 8) (hb : b < 8) [Decidable (ahd y a b)] : fX12_isAhead Fu row (-1 : Int32) (i32 (a : Int)) (i32 (b : Int)) = some (bI (ahd y a b)) := by
  have ra := RW_le hW a
  have rb := RW_le hW b
  have e1 : fX12_rights Fu row (-1 : Int32) (i32 (a : Int)) = some (i32 ((Rg y a : Nat) : Int)) := by
    have h := v_rights (but := -1) hFu hM hW ha (by omega) (by omega)
    exact h
  have e2 : fX12_rights Fu row (-1 : Int32) (i32 (b : Int)) = some (i32 ((Rg y b : Nat) : Int)) := by
    have h := v_rights (but := -1) hFu hM hW hb (by omega) (by omega)
    exact h
  have e3 : fX12_wrongs Fu row (-1 : Int32) (i32 (a : Int)) = some (i32 ((Wg y a : Nat) : Int)) := by
    have h := v_wrongs (but := -1) hFu hM hW ha (by omega) (by omega)
    exact h
  have e4 : fX12_wrongs Fu row (-1 : Int32) (i32 (b : Int)) = some (i32 ((Wg y b : Nat) : Int)) := by
    have h := v_wrongs (but := -1) hFu hM hW hb (by omega) (by omega)
    exact h
  unfold fX12_isAhead fX12_isAhead_L66
  rw [e1, e2, e3, e4]
  simp only [Option.bind_some, i32_lit, i32_add, i32_mul]
  have p1 : ((Rg y a : Int) + 1) * ((Rg y b : Int) + (Wg y b : Int) + 2) = (((Rg y a + 1) * (Rg y b + Wg y b + 2) : Nat) : Int) := by
    rw [show (Rg y b : Int) + (Wg y b : Int) + 2 = ((Rg y b + Wg y b + 2 : Nat) : Int) by omega, show (Rg y a : Int) + 1 = ((Rg y a + 1 : Nat) : Int) by omega, ← Int.natCast_mul]
  have p2 : ((Rg y b : Int) + 1) * ((Rg y a : Int) + (Wg y a : Int) + 2) = (((Rg y b + 1) * (Rg y a + Wg y a + 2) : Nat) : Int) := by
    rw [show (Rg y a : Int) + (Wg y a : Int) + 2 = ((Rg y a + Wg y a + 2 : Nat) : Int) by omega, show (Rg y b : Int) + 1 = ((Rg y b + 1 : Nat) : Int) by omega, ← Int.natCast_mul]
  rw [p1, p2]
  have m1 : (Rg y a + 1) * (Rg y b + Wg y b + 2) ≤ 21 * 42 := Nat.mul_le_mul (by omega) (by omega)
  have m2 : (Rg y b + 1) * (Rg y a + Wg y a + 2) ≤ 21 * 42 := Nat.mul_le_mul (by omega) (by omega)
  unfold bI
  have ed : ahd y a b ↔ ((Rg y b + 1) * (Rg y a + Wg y a + 2) < (Rg y a + 1) * (Rg y b + Wg y b + 2) ∨ (Rg y b + 1) * (Rg y a + Wg y a + 2) = (Rg y a + 1) * (Rg y b + Wg y b + 2) ∧ a < b) := Iff.rfl
  simp (disch := omega) only [i32_lt, i32_eq, i32_le]
  generalize (Rg y a + 1) * (Rg y b + Wg y b + 2) = P at *
  generalize (Rg y b + 1) * (Rg y a + Wg y a + 2) = Q at *
  by_cases c : ahd y a b
  · rw [if_pos c]
    have c' := ed.mp c
    by_cases c1 : (Q : Int) < (P : Int)
    · rw [if_pos c1]; rfl
    · rw [if_neg c1, if_pos (show (P : Int) = (Q : Int) by omega), if_neg (show ¬ (b : Int) ≤ (a : Int) by omega)]; rfl
  · rw [if_neg c]
    have c' := fun q => c (ed.mpr q)
    rw [if_neg (show ¬ (Q : Int) < (P : Int) from fun q => c' (Or.inl (by omega)))]
    by_cases c2 : (P : Int) = (Q : Int)
    · rw [if_pos c2, if_pos (show (b : Int) ≤ (a : Int) from by
        apply Int.le_of_not_gt
        intro q
        exact c' (Or.inr ⟨by omega, by omega⟩))]; rfl
    · rw [if_neg c2]; rfl
theorem ahd_self {b : Nat} : ¬ ahd y b b := by unfold ahd; omega
noncomputable def cntA (y : Nat → Int) (b : Nat) : Nat → Nat
  | 0 => 0
  | o + 1 => cntA y b o + (@ite Nat (ahd y o b) (Classical.propDecidable _) 1 0)
noncomputable def trS (y : Nat → Int) (i : Int) : Nat → Nat → Int
  | _, 0 => -1
  | b, d + 1 => if (cntA y b (y 0).toNat : Int) = i then (b : Int) else trS y i (b + 1) d
theorem cntA_le (b : Nat) : ∀ n, cntA y b n ≤ n := by
  intro n
  induction n with
  | zero => exact Nat.le_refl 0
  | succ n ih => show cntA y b n + (@ite Nat (ahd y n b) (Classical.propDecidable _) 1 0) ≤ n + 1; split <;> omega
theorem x_trL18 (hFu : 6000 ≤ Fu) (hW : WF y) (hX : RX y beasts meals seats laws inForce tr mh te cases rs ju vo) {b : Nat} (hb : (b : Int) < y 0) {i : Int} (i1 : -2147483648 ≤ i) (i2 : i ≤ 2147483647) {k2 : _} {P : Int32 → Prop} (h1 : (cntA y b (y 0).toNat : Int) = i → P (i32 (b : Int))) (h2 : ¬ (cntA y b (y 0).toNat : Int) = i → Rt (k2 beasts cases rs ju vo (i32 i) (i32 ((b + 1 : Nat) : Int))) P) :
    ∀ (d f o : Nat), (o : Int) + d = y 0 → d < f → Rt (fX11_trusted_L18 Fu k2 f beasts cases rs ju vo (i32 i) (i32 (b : Int)) (i32 ((cntA y b o : Nat) : Int)) (i32 (o : Int))) P := by
  have h0 := hW.1
  have eb := hX.1
  intro d
  induction d with
  | zero =>
    intro f o ho hf
    obtain ⟨f, rfl⟩ : ∃ f', f = f' + 1 := ⟨f - 1, by omega⟩
    have cl := cntA_le (y := y) b o
    rw [fX11_trusted_L18]
    refine Rt.ift (by rw [eb, i32_le (by omega) (by omega) (by omega) (by omega)]; omega) ?_
    rw [show (y 0).toNat = o by omega] at h1 h2
    rw [i32_p1]
    by_cases c : (cntA y b o : Int) = i
    · exact Rt.ift (by rw [c]) (Rt.ret (h1 c))
    · exact Rt.iff (by rw [i32_eq (by omega) (by omega) (by omega) (by omega)]; exact c) (h2 c)
  | succ d ih =>
    intro f o ho hf
    obtain ⟨f, rfl⟩ : ∃ f', f = f' + 1 := ⟨f - 1, by omega⟩
    have := Classical.propDecidable (ahd y o b)
    rw [fX11_trusted_L18]
    refine Rt.iff (by rw [eb, i32_le (by omega) (by omega) (by omega) (by omega)]; omega) ?_
    rw [x_ahead hFu hW hX (show o < 8 by omega) (show b < 8 by omega), i32_p1, i32_p1]
    refine Rt.eqb rfl ?_
    have go := ih f (o + 1) (by omega) (by omega)
    have et : cntA y b (o + 1) = cntA y b o + (@ite Nat (ahd y o b) (Classical.propDecidable _) 1 0) := rfl
    by_cases c : ahd y o b
    · rw [if_pos c] at et
      rw [et] at go
      exact Rt.iff (by rw [bI_0]; exact fun q => q c) go
    · rw [if_neg c] at et
      rw [et] at go
      exact Rt.ift (by rw [bI_0]; exact c) go
theorem c_trL (hFu : 6000 ≤ Fu) (hW : WF y) (hX : RX y beasts meals seats laws inForce tr mh te cases rs ju vo) {i : Int} (i1 : -2147483648 ≤ i) (i2 : i ≤ 2147483647) : ∀ (d f b : Nat), (b : Int) + d = y 0 → d < f → Rt (fX11_trusted_L2 Fu f beasts cases rs ju vo (i32 i) (i32 (b : Int))) (fun r => r = i32 (trS y i b d)) := by
  have h0 := hW.1
  have eb := hX.1
  intro d
  induction d with
  | zero =>
    intro f b hb hf
    obtain ⟨f, rfl⟩ : ∃ f', f = f' + 1 := ⟨f - 1, by omega⟩
    rw [fX11_trusted_L2]
    exact Rt.ift (by rw [eb, i32_le (by omega) (by omega) (by omega) (by omega)]; omega) (Rt.ret rfl)
  | succ d ih =>
    intro f b hb hf
    obtain ⟨f, rfl⟩ : ∃ f', f = f' + 1 := ⟨f - 1, by omega⟩
    rw [fX11_trusted_L2]
    refine Rt.iff (by rw [eb, i32_le (by omega) (by omega) (by omega) (by omega)]; omega) ?_
    have et : trS y i b (d + 1) = if (cntA y b (y 0).toNat : Int) = i then (b : Int) else trS y i (b + 1) d := rfl
    refine x_trL18 hFu hW hX (by omega) i1 i2 (fun c => ?_) (fun c => ?_) (y 0).toNat Fu 0 (by omega) (by omega)
    · rw [et, if_pos c]
    · rw [et, if_neg c]; exact ih f (b + 1) (by omega) (by omega)
theorem c_trusted (hFu : 6000 ≤ Fu) (hW : WF y) (hX : RX y beasts meals seats laws inForce tr mh te cases rs ju vo) {i : Int} (i1 : -2147483648 ≤ i) (i2 : i ≤ 2147483647) : Rt (fX11_trusted Fu beasts cases rs ju vo (i32 i)) (fun r => r = i32 (trS y i 0 (y 0).toNat)) := by
  have h0 := hW.1
  exact c_trL hFu hW hX i1 i2 (y 0).toNat Fu 0 (by omega) (by omega)
theorem v_trL22 (hFu : 6000 ≤ Fu) (hM : RM y row) (hW : WF y) {th : Int32} {b : Nat} (hb : (b : Int) < y 0) {i : Int} (i1 : -2147483648 ≤ i) (i2 : i ≤ 2147483647) {k7 : _} {P : Int32 × Int32 → Prop} (h1 : (cntA y b (y 0).toNat : Int) = i → P (i32 (b : Int), th)) (h2 : ¬ (cntA y b (y 0).toNat : Int) = i → Rt (k7 th row (-1 : Int32) (i32 i) (i32 ((b + 1 : Nat) : Int))) P) :
    ∀ (d f o : Nat), (o : Int) + d = y 0 → d < f → Rt (fX12_trusted_L22 Fu k7 f th row (-1 : Int32) (i32 i) (i32 (b : Int)) (i32 ((cntA y b o : Nat) : Int)) (i32 (o : Int))) P := by
  have h0 := hW.1
  intro d
  induction d with
  | zero =>
    intro f o ho hf
    obtain ⟨f, rfl⟩ : ∃ f', f = f' + 1 := ⟨f - 1, by omega⟩
    have cl := cntA_le (y := y) b o
    rw [fX12_trusted_L22, gd9 (by decide) (by decide), i32_0, hM 0 (by omega)]
    refine Rt.ift (by rw [i32_le (by omega) (by omega) (by omega) (by omega)]; omega) ?_
    rw [show (y 0).toNat = o by omega] at h1 h2
    rw [i32_p1]
    by_cases c : (cntA y b o : Int) = i
    · exact Rt.ift (by rw [c]) (Rt.ret (h1 c))
    · exact Rt.iff (by rw [i32_eq (by omega) (by omega) (by omega) (by omega)]; exact c) (h2 c)
  | succ d ih =>
    intro f o ho hf
    obtain ⟨f, rfl⟩ : ∃ f', f = f' + 1 := ⟨f - 1, by omega⟩
    have := Classical.propDecidable (ahd y o b)
    rw [fX12_trusted_L22, gd9 (by decide) (by decide), i32_0, hM 0 (by omega)]
    refine Rt.iff (by rw [i32_le (by omega) (by omega) (by omega) (by omega)]; omega) ?_
    rw [v_ahead hFu hM hW (show o < 8 by omega) (show b < 8 by omega)]
    unfold fX12_trusted_L54
    have e0 : i32 ((cntA y b o : Nat) : Int) + 0 = i32 ((cntA y b o : Nat) : Int) := by rw [i32_litN 0, i32_add]; congr 1 <;> omega
    rw [e0, i32_p1, i32_p1]
    have go := ih f (o + 1) (by omega) (by omega)
    have et : cntA y b (o + 1) = cntA y b o + (@ite Nat (ahd y o b) (Classical.propDecidable _) 1 0) := rfl
    by_cases co : o = b
    · have c : ¬ ahd y o b := by rw [co]; exact ahd_self
      rw [if_neg c] at et
      rw [et] at go
      exact Rt.ift (by rw [co]) go
    · refine Rt.iff (by rw [i32_eq (by omega) (by omega) (by omega) (by omega)]; omega) (Rt.eqb rfl ?_)
      by_cases c : ahd y o b
      · rw [if_pos c] at et
        rw [et] at go
        exact Rt.iff (by rw [bI_0]; exact fun q => q c) go
      · rw [if_neg c] at et
        rw [et] at go
        exact Rt.ift (by rw [bI_0]; exact c) go
theorem m_trL (hFu : 6000 ≤ Fu) (hM : RM y row) (hW : WF y) {th : Int32} {i : Int} (i1 : -2147483648 ≤ i) (i2 : i ≤ 2147483647) : ∀ (d f b : Nat), (b : Int) + d = y 0 → d < f → Rt (fX12_trusted_L7 Fu f th row (-1 : Int32) (i32 i) (i32 (b : Int))) (fun r => r.1 = i32 (trS y i b d)) := by
  have h0 := hW.1
  intro d
  induction d with
  | zero =>
    intro f b hb hf
    obtain ⟨f, rfl⟩ : ∃ f', f = f' + 1 := ⟨f - 1, by omega⟩
    rw [fX12_trusted_L7, gd9 (by decide) (by decide), i32_0, hM 0 (by omega)]
    exact Rt.ift (by rw [i32_le (by omega) (by omega) (by omega) (by omega)]; omega) (Rt.ret rfl)
  | succ d ih =>
    intro f b hb hf
    obtain ⟨f, rfl⟩ : ∃ f', f = f' + 1 := ⟨f - 1, by omega⟩
    rw [fX12_trusted_L7, gd9 (by decide) (by decide), i32_0, hM 0 (by omega)]
    refine Rt.iff (by rw [i32_le (by omega) (by omega) (by omega) (by omega)]; omega) ?_
    have et : trS y i b (d + 1) = if (cntA y b (y 0).toNat : Int) = i then (b : Int) else trS y i (b + 1) d := rfl
    refine v_trL22 hFu hM hW (by omega) i1 i2 (fun c => ?_) (fun c => ?_) (y 0).toNat Fu 0 (by omega) (by omega)
    · rw [et, if_pos c]
    · rw [et, if_neg c]; exact ih f (b + 1) (by omega) (by omega)
theorem m_trusted (hFu : 6000 ≤ Fu) (hM : RM y row) (hW : WF y) {th : Int32} {i : Int} (i1 : -2147483648 ≤ i) (i2 : i ≤ 2147483647) : Rt (fX12_trusted Fu th row (-1 : Int32) (i32 i)) (fun r => r.1 = i32 (trS y i 0 (y 0).toNat)) := by
  have h0 := hW.1
  exact m_trL hFu hM hW i1 i2 (y 0).toNat Fu 0 (by omega) (by omega)
end CASES2
