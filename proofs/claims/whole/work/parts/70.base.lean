/-! ===== numbers: a word as an integer ===== -/
def i32 (z : Int) : Int32 := Int32.ofInt z
def i64 (z : Int) : Int64 := Int64.ofInt z
theorem i32_self (x : Int32) : i32 x.toInt = x := Int32.ofInt_toInt x
theorem i64_self (x : Int64) : i64 x.toInt = x := Int64.ofInt_toInt x
theorem i32_add (a b : Int) : i32 a + i32 b = i32 (a + b) := (Int32.ofInt_add a b).symm
theorem i32_sub (a b : Int) : i32 a - i32 b = i32 (a - b) := (Int32.ofInt_sub a b).symm
theorem i32_mul (a b : Int) : i32 a * i32 b = i32 (a * b) := (Int32.ofInt_mul a b).symm
theorem i32_neg (a : Int) : - i32 a = i32 (-a) := (Int32.ofInt_neg a).symm
theorem i64_add (a b : Int) : i64 a + i64 b = i64 (a + b) := (Int64.ofInt_add a b).symm
theorem i64_sub (a b : Int) : i64 a - i64 b = i64 (a - b) := (Int64.ofInt_sub a b).symm
theorem i64_mul (a b : Int) : i64 a * i64 b = i64 (a * b) := (Int64.ofInt_mul a b).symm
theorem i64_neg (a : Int) : - i64 a = i64 (-a) := (Int64.ofInt_neg a).symm
theorem i32_litN (n : Nat) : (OfNat.ofNat n : Int32) = i32 ((n : Nat) : Int) := Int32.ofInt_eq_ofNat.symm
theorem i64_litN (n : Nat) : (OfNat.ofNat n : Int64) = i64 ((n : Nat) : Int) := Int64.ofInt_eq_ofNat.symm
theorem i32_lit (n : Nat) : (OfNat.ofNat n : Int32) = i32 (OfNat.ofNat n : Int) := i32_litN n
theorem i64_lit (n : Nat) : (OfNat.ofNat n : Int64) = i64 (OfNat.ofNat n : Int) := i64_litN n
theorem i32_int {a : Int} (h1 : -2147483648 ≤ a) (h2 : a ≤ 2147483647) : (i32 a).toInt = a := Int32.toInt_ofInt_of_le (by omega) (by omega)
theorem i64_int {a : Int} (h1 : -9223372036854775808 ≤ a) (h2 : a ≤ 9223372036854775807) : (i64 a).toInt = a := Int64.toInt_ofInt_of_le (by omega) (by omega)
theorem i32_lt {a b : Int} (h1 : -2147483648 ≤ a) (h2 : a ≤ 2147483647) (h3 : -2147483648 ≤ b) (h4 : b ≤ 2147483647) : (i32 a < i32 b) = (a < b) := by
  rw [Int32.lt_iff_toInt_lt, i32_int h1 h2, i32_int h3 h4]
theorem i32_le {a b : Int} (h1 : -2147483648 ≤ a) (h2 : a ≤ 2147483647) (h3 : -2147483648 ≤ b) (h4 : b ≤ 2147483647) : (i32 a ≤ i32 b) = (a ≤ b) := by
  rw [Int32.le_iff_toInt_le, i32_int h1 h2, i32_int h3 h4]
theorem i32_eq {a b : Int} (h1 : -2147483648 ≤ a) (h2 : a ≤ 2147483647) (h3 : -2147483648 ≤ b) (h4 : b ≤ 2147483647) : (i32 a = i32 b) = (a = b) := by
  rw [← Int32.toInt_inj, i32_int h1 h2, i32_int h3 h4]
theorem i64_lt {a b : Int} (h1 : -9223372036854775808 ≤ a) (h2 : a ≤ 9223372036854775807) (h3 : -9223372036854775808 ≤ b) (h4 : b ≤ 9223372036854775807) : (i64 a < i64 b) = (a < b) := by
  rw [Int64.lt_iff_toInt_lt, i64_int h1 h2, i64_int h3 h4]
theorem i64_le {a b : Int} (h1 : -9223372036854775808 ≤ a) (h2 : a ≤ 9223372036854775807) (h3 : -9223372036854775808 ≤ b) (h4 : b ≤ 9223372036854775807) : (i64 a ≤ i64 b) = (a ≤ b) := by
  rw [Int64.le_iff_toInt_le, i64_int h1 h2, i64_int h3 h4]
theorem i64_eq {a b : Int} (h1 : -9223372036854775808 ≤ a) (h2 : a ≤ 9223372036854775807) (h3 : -9223372036854775808 ≤ b) (h4 : b ≤ 9223372036854775807) : (i64 a = i64 b) = (a = b) := by
  rw [← Int64.toInt_inj, i64_int h1 h2, i64_int h3 h4]
theorem i32_nat {a : Int} (h1 : -2147483648 ≤ a) (h2 : a ≤ 2147483647) : (i32 a).toNatClampNeg = a.toNat := by
  show (i32 a).toInt.toNat = a.toNat
  rw [i32_int h1 h2]
theorem i32_64 {a : Int} (h1 : -2147483648 ≤ a) (h2 : a ≤ 2147483647) : (i32 a).toInt64 = i64 a := Int32.toInt64_ofInt h1 h2
theorem i64_32 (a : Int) : (i64 a).toInt32 = i32 a := Int64.toInt32_ofInt
theorem i32_div {a b : Int} (h1 : 0 ≤ a) (h2 : a ≤ 2147483647) (h3 : 0 ≤ b) (h4 : b ≤ 2147483647) : i32 a / i32 b = i32 (a / b) := by
  rw [← Int.tdiv_eq_ediv_of_nonneg h1]
  exact (Int32.ofInt_tdiv (show (-2147483648 : Int) ≤ a by omega) h2 (show (-2147483648 : Int) ≤ b by omega) h4).symm
theorem i32_mod {a b : Int} (h1 : 0 ≤ a) (h2 : a ≤ 2147483647) (h3 : 0 ≤ b) (h4 : b ≤ 2147483647) : i32 a % i32 b = i32 (a % b) := by
  rw [← Int.tmod_eq_emod_of_nonneg h1]
  exact (Int32.ofInt_tmod (show (-2147483648 : Int) ≤ a by omega) h2 (show (-2147483648 : Int) ≤ b by omega) h4).symm
theorem i64_div {a b : Int} (h1 : 0 ≤ a) (h2 : a ≤ 9223372036854775807) (h3 : 0 ≤ b) (h4 : b ≤ 9223372036854775807) : i64 a / i64 b = i64 (a / b) := by
  rw [← Int.tdiv_eq_ediv_of_nonneg h1]
  exact (Int64.ofInt_tdiv (show (-9223372036854775808 : Int) ≤ a by omega) h2 (show (-9223372036854775808 : Int) ≤ b by omega) h4).symm
theorem i64_mod {a b : Int} (h1 : 0 ≤ a) (h2 : a ≤ 9223372036854775807) (h3 : 0 ≤ b) (h4 : b ≤ 9223372036854775807) : i64 a % i64 b = i64 (a % b) := by
  rw [← Int.tmod_eq_emod_of_nonneg h1]
  exact (Int64.ofInt_tmod (show (-9223372036854775808 : Int) ≤ a by omega) h2 (show (-9223372036854775808 : Int) ≤ b by omega) h4).symm
/-- a word between two numbers -/
theorem i32_of {x : Int32} {lo hi : Int} (h1 : i32 lo ≤ x) (h2 : x ≤ i32 hi) (a1 : -2147483648 ≤ lo) (a2 : lo ≤ 2147483647) (a3 : -2147483648 ≤ hi) (a4 : hi ≤ 2147483647) : ∃ z : Int, lo ≤ z ∧ z ≤ hi ∧ x = i32 z := by
  refine ⟨x.toInt, ?_, ?_, (i32_self x).symm⟩
  · rw [← i32_self x, i32_le a1 a2 (by have := x.le_toInt; omega) (by have := x.toInt_lt; omega)] at h1; exact h1
  · rw [← i32_self x, i32_le (by have := x.le_toInt; omega) (by have := x.toInt_lt; omega) a3 a4] at h2; exact h2
theorem i32_any (x : Int32) : ∃ z : Int, -2147483648 ≤ z ∧ z ≤ 2147483647 ∧ x = i32 z := ⟨x.toInt, by have := x.le_toInt; omega, by have := x.toInt_lt; omega, (i32_self x).symm⟩
theorem i64_any (x : Int64) : ∃ z : Int, -9223372036854775808 ≤ z ∧ z ≤ 9223372036854775807 ∧ x = i64 z := ⟨x.toInt, by have := x.le_toInt; omega, by have := x.toInt_lt; omega, (i64_self x).symm⟩
theorem gd_ok {α : Type} {a : Int} {n : Nat} {k : Option α} (h1 : 0 ≤ a) (h2 : a < n) (h3 : a ≤ 2147483647) : gd (i32 a) n k = k := by
  have e1 : ¬ (i32 a < 0) := by
    rw [i32_litN 0, i32_lt (by omega) h3 (by omega) (by omega)]; omega
  unfold gd
  rw [if_neg]
  rw [i32_nat (by omega) h3]
  intro h
  rcases h with h | h
  · exact e1 h
  · omega
theorem gz_ok {α : Type} {a : Int} {k : Option α} (h0 : a ≠ 0) (h1 : -2147483648 ≤ a) (h2 : a ≤ 2147483647) : gz (i32 a) k = k := by
  unfold gz
  rw [if_neg]
  rw [i32_litN 0, i32_eq h1 h2 (by omega) (by omega)]
  exact h0
theorem gzl_ok {α : Type} {a : Int} {k : Option α} (h0 : a ≠ 0) (h1 : -9223372036854775808 ≤ a) (h2 : a ≤ 9223372036854775807) : gzl (i64 a) k = k := by
  unfold gzl
  rw [if_neg]
  rw [i64_litN 0, i64_eq h1 h2 (by omega) (by omega)]
  exact h0
theorem gb_0 {α : Type} {k : Option α} : gb 0 k = k := if_pos (Or.inl rfl)
theorem gb_1 {α : Type} {k : Option α} : gb 1 k = k := if_pos (Or.inr rfl)
theorem va_up_at {α : Type} (f : Nat → α) (k : Nat) (v : α) : va_up f k v k = v := if_pos rfl
