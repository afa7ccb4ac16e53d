def bI (p : Prop) [Decidable p] : Int32 := if p then 1 else 0
theorem bI_0 (p : Prop) [Decidable p] : (bI p = 0) = ¬ p := by
  unfold bI; by_cases h : p <;> simp [h]
theorem bI_1 (p : Prop) [Decidable p] : (bI p = 1) = p := by
  unfold bI; by_cases h : p <;> simp [h]
theorem bI_0' (p : Prop) [Decidable p] : (bI p = i32 0) = ¬ p := bI_0 p
theorem bI_1' (p : Prop) [Decidable p] : (bI p = i32 1) = p := bI_1 p
theorem gb_bI {α : Type} (p : Prop) [Decidable p] (k : Option α) : gb (bI p) k = k := by
  unfold bI gb; by_cases h : p <;> simp [h]
theorem bI_if (p : Prop) [Decidable p] : (if p then (some 1 : Option Int32) else some 0) = some (bI p) := by
  unfold bI; by_cases h : p <;> simp [h]
theorem v_in {v l h : Int} (a1 : -9223372036854775808 ≤ v) (a2 : v ≤ 9223372036854775807) (a3 : -9223372036854775808 ≤ l) (a4 : l ≤ 9223372036854775807) (a5 : -9223372036854775808 ≤ h) (a6 : h ≤ 9223372036854775807) : fX12_in (i64 v) (i64 l) (i64 h) = some (bI (l ≤ v ∧ v ≤ h)) := by
  unfold fX12_in fX12_in_L17 bI
  simp (disch := omega) only [i64_lt]
  by_cases h1 : v < l <;> by_cases h2 : h < v <;> simp [h1, h2] <;> omega
theorem v_isHour (z : Int) (a1 : -2147483648 ≤ z) (a2 : z ≤ 2147483647) : fX12_isHour (i32 z) = some (bI (0 ≤ z ∧ z ≤ 23)) := by
  unfold fX12_isHour
  simp (disch := omega) only [i32_64, i64_lit, v_in, Option.bind_some, gb_bI]
theorem x_isHour (z : Int) (a1 : -2147483648 ≤ z) (a2 : z ≤ 2147483647) : fX11_isHour (i32 z) = some (bI (0 ≤ z ∧ z ≤ 23)) := by
  unfold fX11_isHour fX11_isHour_L14 bI
  simp (disch := omega) only [i32_lit, i32_lt, i32_le]
  by_cases h1 : z < 0 <;> by_cases h2 : 24 ≤ z <;> simp [h1, h2] <;> omega
theorem v_isSide (z : Int) (a1 : -2147483648 ≤ z) (a2 : z ≤ 2147483647) : fX12_isSide (i32 z) = some (bI (0 ≤ z ∧ z ≤ 1)) := by
  unfold fX12_isSide
  simp (disch := omega) only [i32_64, i64_lit, v_in, Option.bind_some, gb_bI]
theorem x_isSide (z : Int) (a1 : -2147483648 ≤ z) (a2 : z ≤ 2147483647) : fX11_isSide (i32 z) = some (bI (0 ≤ z ∧ z ≤ 1)) := by
  unfold fX11_isSide bI
  simp (disch := omega) only [i32_lit, i32_eq]
  by_cases h1 : z = 0 <;> by_cases h2 : z = 1 <;> simp [h1, h2] <;> omega
theorem x_isEither (z : Int) (a1 : -2147483648 ≤ z) (a2 : z ≤ 2147483647) : fX11_isEither (i32 z) = some (bI (0 ≤ z ∧ z ≤ 1)) := x_isSide z a1 a2
theorem v_isBeast {row : Nat → Int32} {nB : Int} (h0 : row 0 = i32 nB) (b0 : 0 ≤ nB) (b1 : nB ≤ 8) (z : Int) (a1 : -2147483648 ≤ z) (a2 : z ≤ 2147483647) : fX12_isBeast row (i32 z) = some (bI (0 ≤ z ∧ z < nB)) := by
  unfold fX12_isBeast
  have e : (0 : Int32).toNatClampNeg = 0 := rfl
  rw [e, h0, i32_litN 0]
  simp (disch := omega) only [gd_ok, i32_64, i64_lit, i64_sub, v_in, Option.bind_some, gb_bI]
  unfold bI
  by_cases h1 : 0 ≤ z <;> by_cases h2 : z < nB <;> simp [h1, h2] <;> omega
theorem x_hasBeast {nB : Int} (b0 : 0 ≤ nB) (b1 : nB ≤ 8) (z : Int) (a1 : -2147483648 ≤ z) (a2 : z ≤ 2147483647) : fX10_hasBeast (i32 nB) (i32 z) = some (bI (0 ≤ z ∧ z < nB)) := by
  unfold fX10_hasBeast fX10_hasBeast_L16 bI
  simp (disch := omega) only [i32_lit, i32_lt, i32_le]
  by_cases h1 : z < 0 <;> by_cases h2 : nB ≤ z <;> simp [h1, h2] <;> omega
theorem v_ofBeast {row : Nat → Int32} {b w : Int} (b0 : 0 ≤ b) (b1 : b < 8) (w0 : 0 ≤ w) (w1 : w < 6) : fX12_ofBeast row (i32 b) (i32 w) = some (row (12 + 6 * b + w).toNat) := by
  unfold fX12_ofBeast
  simp (disch := omega) only [i32_lit, i32_mul, i32_add, gd_ok, i32_nat]
theorem x_trait {a : Nat → Int32} {b w : Int} (b0 : 0 ≤ b) (b1 : b < 8) (w0 : 0 ≤ w) (w1 : w < 6) : fX10_trait a (i32 b) (i32 w) = some (a (6 * b + w).toNat) := by
  unfold fX10_trait
  simp (disch := omega) only [i32_lit, i32_mul, i32_add, gd_ok, i32_nat]
  rw [Int.mul_comm b 6]
theorem x_setTrait {a : Nat → Int32} {v : Int32} {b w : Int} (b0 : 0 ≤ b) (b1 : b < 8) (w0 : 0 ≤ w) (w1 : w < 6) : fX10_setTrait a (i32 b) (i32 w) v = some (va_up a (6 * b + w).toNat v) := by
  unfold fX10_setTrait
  simp (disch := omega) only [i32_lit, i32_mul, i32_add, gd_ok, i32_nat]
  rw [Int.mul_comm b 6]
/-- the highest of a trait -/
def hiT (w : Int) : Int := if w = 0 then 9 else if w = 1 then 99 else if w = 5 then 3 else 9
theorem x_fits (w z : Int) (w1 : -2147483648 ≤ w) (w2 : w ≤ 2147483647) (a1 : -2147483648 ≤ z) (a2 : z ≤ 2147483647) : fX11_fitsTrait (i32 w) (i32 z) = some (bI (0 ≤ w ∧ w < 6 ∧ 0 ≤ z ∧ z ≤ hiT w)) := by
  by_cases hw : 0 ≤ w ∧ w < 6
  · have : w = 0 ∨ w = 1 ∨ w = 2 ∨ w = 3 ∨ w = 4 ∨ w = 5 := by omega
    rcases this with rfl | rfl | rfl | rfl | rfl | rfl <;>
    · unfold fX11_fitsTrait fX11_fitsTrait_L27 bI
      simp (disch := omega) only [i32_lit, i32_lt, i32_le, gd_ok, i32_nat, e_sX, hiT]
      by_cases h1 : z < 0
      · simp [h1]; omega
      · simp [h1]
        simp (disch := omega) only [i32_lit, i32_lt]
        split <;> simp <;> omega
  · unfold fX11_fitsTrait fX11_fitsTrait_L27 bI
    simp (disch := omega) only [i32_lit, i32_lt, i32_le]
    by_cases h1 : w < 0
    · simp [h1]; omega
    · have h2 : 6 ≤ w := by omega
      simp [h1, h2]; omega
theorem v_fits (w z : Int) (w1 : -2147483648 ≤ w) (w2 : w ≤ 2147483647) (a1 : -2147483648 ≤ z) (a2 : z ≤ 2147483647) : fX12_fits (i32 w) (i32 z) = some (bI (0 ≤ w ∧ w < 6 ∧ 0 ≤ z ∧ z ≤ hiT w)) := by
  unfold fX12_fits
  simp (disch := omega) only [i32_lit, i32_eq, i32_64, i64_lit, v_in, Option.bind_some, gb_bI]
  by_cases hw : 0 ≤ w ∧ w < 6
  · have : w = 0 ∨ w = 1 ∨ w = 2 ∨ w = 3 ∨ w = 4 ∨ w = 5 := by omega
    rcases this with rfl | rfl | rfl | rfl | rfl | rfl <;> simp [bI, hiT]
  · unfold bI
    rw [if_neg (by omega), if_neg (by omega), if_neg (by omega), if_neg (by omega), if_neg (by omega), if_neg (by omega), if_neg (by omega)]
    rfl
