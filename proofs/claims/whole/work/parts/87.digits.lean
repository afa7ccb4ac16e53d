/-! ===== long numbers by digits ===== -/
def dv (g : Nat → Int) (B : Int) : Nat → Int
  | 0 => 0
  | n + 1 => dv g B n + g n * B ^ n
theorem dv_ext {g g' : Nat → Int} {B : Int} {n : Nat} (h : ∀ k, k < n → g k = g' k) : dv g B n = dv g' B n := by
  induction n with
  | zero => rfl
  | succ n ih =>
    show dv g B n + g n * B ^ n = dv g' B n + g' n * B ^ n
    rw [ih (fun k hk => h k (by omega)), h n (by omega)]
def hvR (g : Nat → Int) (B : Int) : Nat → Nat → Int
  | _, 0 => 0
  | i, m + 1 => g i + B * hvR g B (i + 1) m
theorem dv_hv (g : Nat → Int) (B : Int) : ∀ (m i : Nat), dv g B (i + m) = dv g B i + B ^ i * hvR g B i m := by
  intro m
  induction m with
  | zero => intro i; show dv g B i = dv g B i + B ^ i * 0; grind
  | succ m ih =>
    intro i
    have e := ih (i + 1)
    rw [show i + (m + 1) = i + 1 + m by omega, e]
    show dv g B i + g i * B ^ i + B ^ (i + 1) * hvR g B (i + 1) m = dv g B i + B ^ i * (g i + B * hvR g B (i + 1) m)
    rw [Int.pow_succ]
    grind
theorem powB {B : Int} (hB : 2 ≤ B) (n : Nat) : 1 ≤ B ^ n := by
  have : 0 < B ^ n := Int.pow_pos (by omega)
  omega
theorem dv_lt {g : Nat → Int} {B : Int} (hB : 2 ≤ B) {n : Nat} (h : ∀ k, k < n → 0 ≤ g k ∧ g k < B) : 0 ≤ dv g B n ∧ dv g B n < B ^ n := by
  induction n with
  | zero => exact ⟨Int.le_refl 0, by show (0 : Int) < B ^ 0; rw [Int.pow_zero]; omega⟩
  | succ n ih =>
    have i := ih (fun k hk => h k (by omega))
    have q := h n (by omega)
    have p := powB hB n
    have m1 : 0 ≤ g n * B ^ n := Int.mul_nonneg q.1 (by omega)
    have m2 : g n * B ^ n ≤ (B - 1) * B ^ n := Int.mul_le_mul_of_nonneg_right (by omega) (by omega)
    show 0 ≤ dv g B n + g n * B ^ n ∧ dv g B n + g n * B ^ n < B ^ (n + 1)
    have e : B ^ (n + 1) = (B - 1) * B ^ n + B ^ n := by rw [Int.pow_succ]; grind
    omega
theorem hv_div {g : Nat → Int} {B : Int} (hB : 2 ≤ B) {i m : Nat} (h : ∀ k, k < i + m → 0 ≤ g k ∧ g k < B) : hvR g B i m = dv g B (i + m) / B ^ i := by
  have a := dv_lt hB (n := i) (fun k hk => h k (by omega))
  have p := powB hB i
  rw [dv_hv, Int.mul_comm, Int.add_mul_ediv_right _ _ (by omega), Int.ediv_eq_zero_of_lt a.1 a.2]
  omega
/-- a row of digits that is a number -/
def RN (B : Int) (n : Nat) (N : Int) (g : Nat → Int) : Prop := (∀ k, k < n → 0 ≤ g k ∧ g k < B) ∧ dv g B n = N
theorem RN.nn {B N : Int} {n : Nat} {g : Nat → Int} (hB : 2 ≤ B) (h : RN B n N g) : 0 ≤ N ∧ N < B ^ n := by
  have := dv_lt hB h.1
  rw [h.2] at this; exact this
/-! one step of a product with carry -/
theorem mul_step {g g0 : Nat → Int} {B f c : Int} {i : Nat} (hB : 2 ≤ B) (e : dv g B i + c * B ^ i = f * dv g0 B i) {p : Int} (hp : p = g0 i * f + c) : dv (va_up g i (p % B)) B (i + 1) + p / B * B ^ (i + 1) = f * dv g0 B (i + 1) := by
  have e1 : dv (va_up g i (p % B)) B i = dv g B i := dv_ext (fun k hk => va_up_ne _ _ (by omega))
  show dv (va_up g i (p % B)) B i + va_up g i (p % B) i * B ^ i + p / B * B ^ (i + 1) = f * (dv g0 B i + g0 i * B ^ i)
  have e2 : B * (p / B) + p % B = p := Int.mul_ediv_add_emod p B
  rw [e1, va_up_at, Int.pow_succ]
  have e3 : p % B * B ^ i + p / B * (B ^ i * B) = p * B ^ i := by
    have : p % B * B ^ i + p / B * (B ^ i * B) = (B * (p / B) + p % B) * B ^ i := by grind
    rw [this, e2]
  grind
theorem add_step {g g0 u : Nat → Int} {B c : Int} {i : Nat} (hB : 2 ≤ B) (e : dv g B i + c * B ^ i = dv g0 B i + dv u B i) {p : Int} (hp : p = g0 i + u i + c) : dv (va_up g i (p % B)) B (i + 1) + p / B * B ^ (i + 1) = dv g0 B (i + 1) + dv u B (i + 1) := by
  have e1 : dv (va_up g i (p % B)) B i = dv g B i := dv_ext (fun k hk => va_up_ne _ _ (by omega))
  show dv (va_up g i (p % B)) B i + va_up g i (p % B) i * B ^ i + p / B * B ^ (i + 1) = dv g0 B i + g0 i * B ^ i + (dv u B i + u i * B ^ i)
  have e2 : B * (p / B) + p % B = p := Int.mul_ediv_add_emod p B
  rw [e1, va_up_at, Int.pow_succ]
  have e3 : p % B * B ^ i + p / B * (B ^ i * B) = p * B ^ i := by
    have : p % B * B ^ i + p / B * (B ^ i * B) = (B * (p / B) + p % B) * B ^ i := by grind
    rw [this, e2]
  grind
theorem carry_0 {v c P X : Int} (h0 : 0 ≤ v) (hc : 0 ≤ c) (hP : 1 ≤ P) (e : v + c * P = X) (hX : X < P) : v = X := by
  by_cases h : c = 0
  · subst h; omega
  · have : 1 * P ≤ c * P := Int.mul_le_mul_of_nonneg_right (by omega) (by omega)
    omega
/-! the class's: 48 digits of a hundred -/
def RH (N : Int) (a : Nat → Int64) : Prop := ∃ g, RN 100 48 N g ∧ ∀ k, k < 48 → a k = i64 (g k)
theorem i64_rem {p : Int} (h0 : 0 ≤ p) (h1 : p ≤ 9223372036854775807) : i64 p - i64 p / 100 * 100 = i64 (p % 100) := by
  rw [i64_litN 100, i64_div h0 h1 (by omega) (by omega), i64_mul, i64_sub]; congr 1; omega
theorem i64_quo {p : Int} (h0 : 0 ≤ p) (h1 : p ≤ 9223372036854775807) : i64 p / 100 = i64 (p / 100) := by
  rw [i64_litN 100, i64_div h0 h1 (by omega) (by omega)]; rfl
theorem x_becL {Fu : Nat} : ∀ (d f i : Nat) (a : Nat → Int64) (g : Nat → Int) (c N : Int), i + d = 48 → d < f → 0 ≤ c → c ≤ 1000000 → (∀ k, k < i → a k = i64 (g k) ∧ 0 ≤ g k ∧ g k < 100) → dv g 100 i + c * 100 ^ i = N → N < 100 ^ 48 → Rt (fX4_become_L5 Fu f a (i64 c) (i32 (i : Int))) (fun r => RH N r) := by
  intro d
  induction d with
  | zero =>
    intro f i a g c N hi hf c0 c1 h1 h2 hN
    obtain ⟨f, rfl⟩ : ∃ f', f = f' + 1 := ⟨f - 1, by omega⟩
    obtain rfl : i = 48 := by omega
    rw [fX4_become_L5, if_pos (by decide)]
    have a1 := dv_lt (B := 100) (by omega) (n := 48) (fun k hk => (h1 k hk).2)
    have a2 := carry_0 a1.1 c0 (powB (by omega) 48) h2 hN
    exact Rt.ret ⟨g, ⟨fun k hk => (h1 k hk).2, a2⟩, fun k hk => (h1 k hk).1⟩
  | succ d ih =>
    intro f i a g c N hi hf c0 c1 h1 h2 hN
    obtain ⟨f, rfl⟩ : ∃ f', f = f' + 1 := ⟨f - 1, by omega⟩
    rw [fX4_become_L5, if_neg (by rw [i32_litN 48, i32_le (by omega) (by omega) (by omega) (by omega)]; omega), gzl_in (by decide), gd_ok (by omega) (by omega) (by omega), gzl_in (by decide), i64_rem c0 (by omega), i64_quo c0 (by omega), i32_nat (by omega) (by omega), Int.toNat_natCast, i32_p1]
    refine ih f (i + 1) _ (va_up g i (c % 100)) (c / 100) N (by omega) (by omega) (by omega) (by omega) (fun k hk => ?_) ?_ hN
    · by_cases e : k = i
      · subst e; rw [va_up_at, va_up_at]; exact ⟨rfl, by omega, by omega⟩
      · rw [va_up_ne _ _ e, va_up_ne _ _ e]; exact h1 k (by omega)
    · show dv (va_up g i (c % 100)) 100 i + va_up g i (c % 100) i * 100 ^ i + c / 100 * 100 ^ (i + 1) = N
      rw [dv_ext (g' := g) (fun k hk => va_up_ne _ _ (by omega)), va_up_at, Int.pow_succ, ← h2]
      have e2 : 100 * (c / 100) + c % 100 = c := Int.mul_ediv_add_emod c 100
      have : c % 100 * 100 ^ i + c / 100 * (100 ^ i * 100) = (100 * (c / 100) + c % 100) * 100 ^ i := by grind
      rw [e2] at this
      omega
theorem x_become {Fu : Nat} (hFu : 6000 ≤ Fu) {a : Nat → Int64} {N : Int} (h0 : 0 ≤ N) (h1 : N ≤ 1000000) : Rt (fX4_become Fu a (i64 N)) (fun r => RH N r) := by
  refine x_becL 48 Fu 0 a (fun _ => 0) N N (by omega) (by omega) h0 h1 (fun k hk => by omega) ?_ ?_
  · show (0 : Int) + N * 100 ^ 0 = N; rw [Int.pow_zero]; omega
  · have : (1000001 : Int) ≤ 100 ^ 48 := by decide
    omega
theorem x_mulL {Fu : Nat} {v : Int} (f0 : 0 ≤ v) (f1 : v ≤ 10000000000000000) {g0 : Nat → Int} (hg0 : ∀ k, k < 48 → 0 ≤ g0 k ∧ g0 k < 100) (hN : v * dv g0 100 48 < 100 ^ 48) : ∀ (d f i : Nat) (a : Nat → Int64) (g : Nat → Int) (c : Int), i + d = 48 → d < f → 0 ≤ c → c ≤ v → (∀ k, k < 48 → a k = i64 (g k)) → (∀ k, k < i → 0 ≤ g k ∧ g k < 100) → (∀ k, i ≤ k → g k = g0 k) → dv g 100 i + c * 100 ^ i = v * dv g0 100 i → Rt (fX4_multiply_L5 Fu f a (i64 v) (i64 c) (i32 (i : Int))) (fun r => RH (v * dv g0 100 48) r) := by
  intro d
  induction d with
  | zero =>
    intro f i a g c hi hf c0 c1 h1 h2 h3 h4
    obtain ⟨f, rfl⟩ : ∃ f', f = f' + 1 := ⟨f - 1, by omega⟩
    obtain rfl : i = 48 := by omega
    rw [fX4_multiply_L5, if_pos (by decide)]
    have a1 := dv_lt (B := 100) (by omega) (n := 48) h2
    have a2 := carry_0 a1.1 c0 (powB (by omega) 48) h4 hN
    exact Rt.ret ⟨g, ⟨h2, a2⟩, h1⟩
  | succ d ih =>
    intro f i a g c hi hf c0 c1 h1 h2 h3 h4
    obtain ⟨f, rfl⟩ : ∃ f', f = f' + 1 := ⟨f - 1, by omega⟩
    have q := hg0 i (by omega)
    have m0 : 0 ≤ g0 i * v := Int.mul_nonneg q.1 f0
    have m1 : g0 i * v ≤ 99 * v := Int.mul_le_mul_of_nonneg_right (by omega) f0
    rw [fX4_multiply_L5, if_neg (by rw [i32_litN 48, i32_le (by omega) (by omega) (by omega) (by omega)]; omega), gzl_in (by decide), gd_ok (by omega) (by omega) (by omega), gd_ok (by omega) (by omega) (by omega), gzl_in (by decide), i32_nat (by omega) (by omega), Int.toNat_natCast, h1 i (by omega), h3 i (by omega), i64_mul, i64_add, i64_rem (by omega) (by omega), i64_quo (by omega) (by omega), i32_p1]
    refine ih f (i + 1) _ (va_up g i ((g0 i * v + c) % 100)) ((g0 i * v + c) / 100) (by omega) (by omega) (by omega) (by omega) (fun k hk => ?_) (fun k hk => ?_) (fun k hk => ?_) (mul_step (by omega) h4 rfl)
    · by_cases e : k = i
      · subst e; rw [va_up_at, va_up_at]
      · rw [va_up_ne _ _ e, va_up_ne _ _ e]; exact h1 k hk
    · by_cases e : k = i
      · subst e; rw [va_up_at]; omega
      · rw [va_up_ne _ _ e]; exact h2 k (by omega)
    · rw [va_up_ne _ _ (by omega)]; exact h3 k (by omega)
theorem x_multiply {Fu : Nat} (hFu : 6000 ≤ Fu) {v N : Int} (f0 : 0 ≤ v) (f1 : v ≤ 10000000000000000) {a : Nat → Int64} (h : RH N a) (hN : N * v < 100 ^ 48) : Rt (fX4_multiply Fu a (i64 v)) (fun r => RH (N * v) r) := by
  obtain ⟨g, ⟨g1, g2⟩, g3⟩ := h
  rw [Int.mul_comm, ← g2] at hN
  rw [Int.mul_comm, ← g2]
  exact x_mulL f0 f1 g1 hN 48 Fu 0 a g 0 (by omega) (by omega) (by omega) f0 g3 (fun k hk => by omega) (fun k hk => rfl) (by show (0 : Int) + 0 * 100 ^ 0 = v * 0; omega)
theorem x_incL {Fu : Nat} {g0 u : Nat → Int} (hg0 : ∀ k, k < 48 → 0 ≤ g0 k ∧ g0 k < 100) (hu : ∀ k, k < 48 → 0 ≤ u k ∧ u k < 100) (hN : dv g0 100 48 + dv u 100 48 < 100 ^ 48) {b : Nat → Int64} (hb : ∀ k, k < 48 → b k = i64 (u k)) : ∀ (d f i : Nat) (a : Nat → Int64) (g : Nat → Int) (c : Int), i + d = 48 → d < f → 0 ≤ c → c ≤ 1 → (∀ k, k < 48 → a k = i64 (g k)) → (∀ k, k < i → 0 ≤ g k ∧ g k < 100) → (∀ k, i ≤ k → g k = g0 k) → dv g 100 i + c * 100 ^ i = dv g0 100 i + dv u 100 i → Rt (fX4_increase_L5 Fu f a b (i64 c) (i32 (i : Int))) (fun r => RH (dv g0 100 48 + dv u 100 48) r) := by
  intro d
  induction d with
  | zero =>
    intro f i a g c hi hf c0 c1 h1 h2 h3 h4
    obtain ⟨f, rfl⟩ : ∃ f', f = f' + 1 := ⟨f - 1, by omega⟩
    obtain rfl : i = 48 := by omega
    rw [fX4_increase_L5, if_pos (by decide)]
    have a1 := dv_lt (B := 100) (by omega) (n := 48) h2
    have a2 := carry_0 a1.1 c0 (powB (by omega) 48) h4 hN
    exact Rt.ret ⟨g, ⟨h2, a2⟩, h1⟩
  | succ d ih =>
    intro f i a g c hi hf c0 c1 h1 h2 h3 h4
    obtain ⟨f, rfl⟩ : ∃ f', f = f' + 1 := ⟨f - 1, by omega⟩
    have q := hg0 i (by omega)
    have qu := hu i (by omega)
    rw [fX4_increase_L5, if_neg (by rw [i32_litN 48, i32_le (by omega) (by omega) (by omega) (by omega)]; omega), gzl_in (by decide), gzl_in (by decide), gd_ok (by omega) (by omega) (by omega), gd_ok (by omega) (by omega) (by omega), gd_ok (by omega) (by omega) (by omega), i32_nat (by omega) (by omega), Int.toNat_natCast, h1 i (by omega), h3 i (by omega), hb i (by omega), i64_add, i64_add, i64_rem (by omega) (by omega), i64_quo (by omega) (by omega), i32_p1]
    refine ih f (i + 1) _ (va_up g i ((g0 i + u i + c) % 100)) ((g0 i + u i + c) / 100) (by omega) (by omega) (by omega) (by omega) (fun k hk => ?_) (fun k hk => ?_) (fun k hk => ?_) (add_step (by omega) h4 rfl)
    · by_cases e : k = i
      · subst e; rw [va_up_at, va_up_at]
      · rw [va_up_ne _ _ e, va_up_ne _ _ e]; exact h1 k hk
    · by_cases e : k = i
      · subst e; rw [va_up_at]; omega
      · rw [va_up_ne _ _ e]; exact h2 k (by omega)
    · rw [va_up_ne _ _ (by omega)]; exact h3 k (by omega)
theorem x_increase {Fu : Nat} (hFu : 6000 ≤ Fu) {N M : Int} {a b : Nat → Int64} (h : RH N a) (h2 : RH M b) (hN : N + M < 100 ^ 48) : Rt (fX4_increase Fu a b) (fun r => RH (N + M) r) := by
  obtain ⟨g, ⟨g1, g2⟩, g3⟩ := h
  obtain ⟨u, ⟨u1, u2⟩, u3⟩ := h2
  rw [← g2, ← u2] at hN
  rw [← g2, ← u2]
  exact x_incL g1 u1 hN u3 48 Fu 0 a g 0 (by omega) (by omega) (by omega) (by omega) g3 (fun k hk => by omega) (fun k hk => rfl) (by show (0 : Int) + 0 * 100 ^ 0 = 0 + 0; omega)
