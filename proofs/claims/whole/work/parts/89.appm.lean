/-! ===== appeals of the reference: 100 digits of ten ===== -/
def RD (N : Int) (a : Nat → Int32) : Prop := ∃ g, RN 10 100 N g ∧ ∀ k, k < 100 → a k = i32 (g k)
theorem i64_rem10 {p : Int} (h0 : 0 ≤ p) (h1 : p ≤ 9223372036854775807) : (i64 p - i64 p / 10 * 10).toInt32 = i32 (p % 10) := by
  rw [i64_litN 10, i64_div h0 h1 (by omega) (by omega), i64_mul, i64_sub, i64_32]; congr 1; omega
theorem i64_quo10 {p : Int} (h0 : 0 ≤ p) (h1 : p ≤ 9223372036854775807) : i64 p / 10 = i64 (p / 10) := by
  rw [i64_litN 10, i64_div h0 h1 (by omega) (by omega)]; rfl
theorem i32_rem10 {p : Int} (h0 : 0 ≤ p) (h1 : p ≤ 2147483647) : i32 p - i32 p / 10 * 10 = i32 (p % 10) := by
  rw [i32_litN 10, i32_div h0 h1 (by omega) (by omega), i32_mul, i32_sub]; congr 1; omega
theorem i32_quo10 {p : Int} (h0 : 0 ≤ p) (h1 : p ≤ 2147483647) : i32 p / 10 = i32 (p / 10) := by
  rw [i32_litN 10, i32_div h0 h1 (by omega) (by omega)]; rfl
theorem v_timesL {Fu : Nat} {v : Int} (f0 : 0 ≤ v) (f1 : v ≤ 10000000000000000) {g0 : Nat → Int} (hg0 : ∀ k, k < 100 → 0 ≤ g0 k ∧ g0 k < 10) (hN : v * dv g0 10 100 < 10 ^ 100) : ∀ (d f i : Nat) (a : Nat → Int32) (g : Nat → Int) (c : Int), i + d = 100 → d < f → 0 ≤ c → c ≤ v → (∀ k, k < 100 → a k = i32 (g k)) → (∀ k, k < i → 0 ≤ g k ∧ g k < 10) → (∀ k, i ≤ k → g k = g0 k) → dv g 10 i + c * 10 ^ i = v * dv g0 10 i → Rt (fX12_times_L5 Fu f a (i64 v) (i64 c) (i32 (i : Int))) (fun r => RD (v * dv g0 10 100) r) := by
  intro d
  induction d with
  | zero =>
    intro f i a g c hi hf c0 c1 h1 h2 h3 h4
    obtain ⟨f, rfl⟩ : ∃ f', f = f' + 1 := ⟨f - 1, by omega⟩
    obtain rfl : i = 100 := by omega
    rw [fX12_times_L5, if_pos (by decide)]
    have a1 := dv_lt (B := 10) (by omega) (n := 100) h2
    have a2 := carry_0 a1.1 c0 (powB (by omega) 100) h4 hN
    exact Rt.ret ⟨g, ⟨h2, a2⟩, h1⟩
  | succ d ih =>
    intro f i a g c hi hf c0 c1 h1 h2 h3 h4
    obtain ⟨f, rfl⟩ : ∃ f', f = f' + 1 := ⟨f - 1, by omega⟩
    have q := hg0 i (by omega)
    have m0 : 0 ≤ g0 i * v := Int.mul_nonneg q.1 f0
    have m1 : g0 i * v ≤ 9 * v := Int.mul_le_mul_of_nonneg_right (by omega) f0
    rw [fX12_times_L5, if_neg (by rw [i32_litN 100, i32_le (by omega) (by omega) (by omega) (by omega)]; omega), gzl_in (by decide), gd_ok (by omega) (by omega) (by omega), gd_ok (by omega) (by omega) (by omega), gzl_in (by decide), i32_nat (by omega) (by omega), Int.toNat_natCast, h1 i (by omega), h3 i (by omega), i32_64 (by omega) (by omega), i64_mul, i64_add, i64_rem10 (by omega) (by omega), i64_quo10 (by omega) (by omega), i32_p1]
    refine ih f (i + 1) _ (va_up g i ((g0 i * v + c) % 10)) ((g0 i * v + c) / 10) (by omega) (by omega) (by omega) (by omega) (fun k hk => ?_) (fun k hk => ?_) (fun k hk => ?_) (mul_step (by omega) h4 rfl)
    · by_cases e : k = i
      · subst e; rw [va_up_at, va_up_at]
      · rw [va_up_ne _ _ e, va_up_ne _ _ e]; exact h1 k hk
    · by_cases e : k = i
      · subst e; rw [va_up_at]; omega
      · rw [va_up_ne _ _ e]; exact h2 k (by omega)
    · rw [va_up_ne _ _ (by omega)]; exact h3 k (by omega)
theorem v_times {Fu : Nat} (hFu : 6000 ≤ Fu) {v N : Int} (f0 : 0 ≤ v) (f1 : v ≤ 10000000000000000) {a : Nat → Int32} (h : RD N a) (hN : N * v < 10 ^ 100) : Rt (fX12_times Fu a (i64 v)) (fun r => RD (N * v) r) := by
  obtain ⟨g, ⟨g1, g2⟩, g3⟩ := h
  rw [Int.mul_comm, ← g2] at hN
  rw [Int.mul_comm, ← g2]
  exact v_timesL f0 f1 g1 hN 100 Fu 0 a g 0 (by omega) (by omega) (by omega) f0 g3 (fun k hk => by omega) (fun k hk => rfl) (by show (0 : Int) + 0 * 10 ^ 0 = v * 0; omega)
theorem v_addL {Fu : Nat} {g0 u : Nat → Int} (hg0 : ∀ k, k < 100 → 0 ≤ g0 k ∧ g0 k < 10) (hu : ∀ k, k < 100 → 0 ≤ u k ∧ u k < 10) (hN : dv g0 10 100 + dv u 10 100 < 10 ^ 100) {b : Nat → Int32} (hb : ∀ k, k < 100 → b k = i32 (u k)) : ∀ (d f i : Nat) (a : Nat → Int32) (g : Nat → Int) (c : Int), i + d = 100 → d < f → 0 ≤ c → c ≤ 1 → (∀ k, k < 100 → a k = i32 (g k)) → (∀ k, k < i → 0 ≤ g k ∧ g k < 10) → (∀ k, i ≤ k → g k = g0 k) → dv g 10 i + c * 10 ^ i = dv g0 10 i + dv u 10 i → Rt (fX12_add_L4 Fu f b a (i32 c) (i32 (i : Int))) (fun r => RD (dv g0 10 100 + dv u 10 100) r) := by
  intro d
  induction d with
  | zero =>
    intro f i a g c hi hf c0 c1 h1 h2 h3 h4
    obtain ⟨f, rfl⟩ : ∃ f', f = f' + 1 := ⟨f - 1, by omega⟩
    obtain rfl : i = 100 := by omega
    rw [fX12_add_L4, if_pos (by decide)]
    have a1 := dv_lt (B := 10) (by omega) (n := 100) h2
    have a2 := carry_0 a1.1 c0 (powB (by omega) 100) h4 hN
    exact Rt.ret ⟨g, ⟨h2, a2⟩, h1⟩
  | succ d ih =>
    intro f i a g c hi hf c0 c1 h1 h2 h3 h4
    obtain ⟨f, rfl⟩ : ∃ f', f = f' + 1 := ⟨f - 1, by omega⟩
    have q := hg0 i (by omega)
    have qu := hu i (by omega)
    rw [fX12_add_L4, if_neg (by rw [i32_litN 100, i32_le (by omega) (by omega) (by omega) (by omega)]; omega), gz_in (by decide), gz_in (by decide), gd_ok (by omega) (by omega) (by omega), gd_ok (by omega) (by omega) (by omega), gd_ok (by omega) (by omega) (by omega), i32_nat (by omega) (by omega), Int.toNat_natCast, h1 i (by omega), h3 i (by omega), hb i (by omega), i32_add, i32_add, i32_rem10 (by omega) (by omega), i32_quo10 (by omega) (by omega), i32_p1]
    refine ih f (i + 1) _ (va_up g i ((g0 i + u i + c) % 10)) ((g0 i + u i + c) / 10) (by omega) (by omega) (by omega) (by omega) (fun k hk => ?_) (fun k hk => ?_) (fun k hk => ?_) (add_step (by omega) h4 rfl)
    · by_cases e : k = i
      · subst e; rw [va_up_at, va_up_at]
      · rw [va_up_ne _ _ e, va_up_ne _ _ e]; exact h1 k hk
    · by_cases e : k = i
      · subst e; rw [va_up_at]; omega
      · rw [va_up_ne _ _ e]; exact h2 k (by omega)
    · rw [va_up_ne _ _ (by omega)]; exact h3 k (by omega)
theorem v_add {Fu : Nat} (hFu : 6000 ≤ Fu) {N M : Int} {a b : Nat → Int32} (h : RD N a) (h2 : RD M b) (hN : N + M < 10 ^ 100) : Rt (fX12_add Fu b a) (fun r => RD (N + M) r) := by
  obtain ⟨g, ⟨g1, g2⟩, g3⟩ := h
  obtain ⟨u, ⟨u1, u2⟩, u3⟩ := h2
  rw [← g2, ← u2] at hN
  rw [← g2, ← u2]
  exact v_addL g1 u1 hN u3 100 Fu 0 a g 0 (by omega) (by omega) (by omega) (by omega) g3 (fun k hk => by omega) (fun k hk => rfl) (by show (0 : Int) + 0 * 10 ^ 0 = 0 + 0; omega)
theorem dv_zero {g : Nat → Int} {B : Int} {n : Nat} (h : ∀ k, k < n → g k = 0) : dv g B n = 0 := by
  induction n with
  | zero => rfl
  | succ n ih =>
    show dv g B n + g n * B ^ n = 0
    rw [ih (fun k hk => h k (by omega)), h n (by omega)]; omega
theorem RD_0 {a : Nat → Int32} (h : ∀ k, k < 100 → a k = 0) : RD 0 a := ⟨fun _ => 0, ⟨fun k _ => ⟨Int.le_refl 0, (show (0 : Int) < 10 by decide)⟩, dv_zero (fun k _ => rfl)⟩, h⟩
theorem RD_1 {a : Nat → Int32} (h0 : a 0 = 1) (h : ∀ k, 0 < k → k < 100 → a k = 0) : RD 1 a := by
  refine ⟨fun k => if k = 0 then 1 else 0, ⟨fun k _ => by show 0 ≤ (if k = 0 then (1 : Int) else 0) ∧ (if k = 0 then (1 : Int) else 0) < 10; split <;> omega, ?_⟩, fun k hk => ?_⟩
  · have := dv_hv (fun k => if k = 0 then (1 : Int) else 0) 10 99 1
    have z : hvR (fun k => if k = 0 then (1 : Int) else 0) 10 1 99 = 0 := by
      have zz : ∀ m i, 0 < i → hvR (fun k => if k = 0 then (1 : Int) else 0) 10 i m = 0 := by
        intro m
        induction m with
        | zero => intro i _; rfl
        | succ m ih =>
          intro i hi
          show (if i = 0 then (1 : Int) else 0) + 10 * hvR _ 10 (i + 1) m = 0
          rw [ih (i + 1) (by omega), if_neg (by omega)]; rfl
      exact zz 99 1 (by omega)
    rw [z] at this
    rw [show (100 : Nat) = 1 + 99 from rfl, this]
    rfl
  · by_cases c : k = 0
    · subst c; exact h0
    · show a k = i32 (if k = 0 then 1 else 0)
      rw [if_neg c]; exact h k (by omega) hk
section APM
variable {y : Nat → Int} {row : Nat → Int32} {Fu : Nat} {th lw : Int32} {set rs : Nat → Int64} {br : Int32} {val sum : Int64} {ch : Nat → Int32} {vs : Nat → Int64}
theorem v_app207 {fg al0 : Nat → Int32} {g : Nat → Int} (ha : ∀ k, k < 100 → al0 k = i32 (g k)) {s n : Nat} (hs : s ≤ 5) (hn : n ≤ 8) : ∀ (d f k : Nat), k = 2 * n * s + d → k ≤ 100 → d < f → Rt (fX12_appeal_L207 Fu f th row lw set rs br val sum ch vs fg al0 (i32 (s : Int)) (i32 (n : Int)) (i32 (hvR g 10 k (100 - k))) (i32 ((k : Int) - 1))) (fun r => r.1 = i32 (hvR g 10 (2 * n * s) (100 - 2 * n * s))) := by
  have t40 : n * s ≤ 8 * 5 := Nat.mul_le_mul hn hs
  have e2 : (2 : Int32) * i32 (n : Int) * i32 (s : Int) = i32 ((2 * n * s : Nat) : Int) := by
    rw [i32_litN 2, i32_mul, i32_mul]; congr 1
  have t80 : 2 * n * s ≤ 80 := by rw [Nat.mul_assoc]; omega
  generalize 2 * n * s = e at *
  intro d
  induction d with
  | zero =>
    intro f k hk h9 hf
    obtain ⟨f, rfl⟩ : ∃ f', f = f' + 1 := ⟨f - 1, by omega⟩
    obtain rfl : k = e := by omega
    rw [fX12_appeal_L207, e2, if_pos (by rw [i32_lt (by omega) (by omega) (by omega) (by omega)]; omega)]
    exact Rt.ret rfl
  | succ d ih =>
    intro f k hk h9 hf
    obtain ⟨f, rfl⟩ : ∃ f', f = f' + 1 := ⟨f - 1, by omega⟩
    obtain ⟨k, rfl⟩ : ∃ k', k = k' + 1 := ⟨k - 1, by omega⟩
    rw [fX12_appeal_L207, e2, show ((k + 1 : Nat) : Int) - 1 = (k : Int) by omega, if_neg (by rw [i32_lt (by omega) (by omega) (by omega) (by omega)]; omega), gd_ok (by omega) (by omega) (by omega), i32_nat (by omega) (by omega), Int.toNat_natCast, ha k (by omega), i32_litN 10, i32_mul, i32_add, show i32 (k : Int) + (-1 : Int32) = i32 ((k : Int) - 1) by rw [show (-1 : Int32) = i32 (-1) from rfl, i32_add]; rfl]
    have := ih f k (by omega) (by omega) (by omega)
    rw [show 100 - k = (100 - (k + 1)) + 1 by omega] at this
    rw [show ((10 : Nat) : Int) * hvR g 10 (k + 1) (100 - (k + 1)) + g k = hvR g 10 k (100 - (k + 1) + 1) by show (10 : Int) * _ + g k = g k + 10 * hvR g 10 (k + 1) (100 - (k + 1)); omega]
    exact this
theorem v_app207' {fg al0 : Nat → Int32} {M : Int} (ha : RD M al0) {s n : Nat} (hs : s ≤ 5) (hn : n ≤ 8) (hFu : 6000 ≤ Fu) : Rt (fX12_appeal_L207 Fu Fu th row lw set rs br val sum ch vs fg al0 (i32 (s : Int)) (i32 (n : Int)) 0 99) (fun r => r.1 = i32 (M / 100 ^ (n * s))) := by
  obtain ⟨g, ⟨g1, g2⟩, g3⟩ := ha
  have t40 : n * s ≤ 8 * 5 := Nat.mul_le_mul hn hs
  have t80 : 2 * n * s ≤ 80 := by rw [Nat.mul_assoc]; omega
  have h := v_app207 (Fu := Fu) (th := th) (row := row) (lw := lw) (set := set) (rs := rs) (br := br) (val := val) (sum := sum) (ch := ch) (vs := vs) (fg := fg) g3 hs hn (100 - 2 * n * s) Fu 100 (by omega) (by omega) (by omega)
  refine h.mono (fun r hr => ?_)
  rw [hr, hv_div (by omega) (fun k hk => g1 k (by omega)), show 2 * n * s + (100 - 2 * n * s) = 100 by omega, g2, Nat.mul_assoc, Int.pow_mul]
  rfl
theorem v_app145 (hFu : 6000 ≤ Fu) {sz : Int32} {w l S W : Int} {s k : Nat} (w0 : 0 ≤ w) (w1 : w ≤ 10000000000000000) (l0 : 0 ≤ l) (l1 : l ≤ 10000000000000000) (W0 : 0 ≤ W) (W1 : W ≤ 10) (S0 : 0 ≤ S) (S1 : S ≤ 10 ^ 95) (hs : s ≤ 5) (hk : k ≤ s) {al0 : Nat → Int32} (hal : RD S al0) {k91 : _} {P : _ → Prop}
    (hc : ∀ (fg b : Nat → Int32), RD (S + pr w l k (1000000 * W) s) b → Rt (k91 th row lw set rs br val sum ch vs fg b (i32 (s : Int)) sz (i64 w) (i64 l) (i64 (W * k / (s - k + 1))) (i32 ((k : Int) - 1))) P) :
    ∀ (d f j : Nat) (fg : Nat → Int32), j + d = s → d < f → RD (pr w l k (1000000 * W) j) fg → Rt (fX12_appeal_L145 Fu k91 f th row lw set rs br val sum ch vs fg al0 (i32 (s : Int)) sz (i64 w) (i64 l) (i64 W) (i32 (k : Int)) (i32 (j : Int))) P := by
  have big : ∀ j, j ≤ 5 → pr w l k (1000000 * W) j ≤ 10 ^ 90 := by
    intro j hj
    have := (pr_rng (k := k) (M := 10000000) w0 w1 l0 l1 (show 0 ≤ 1000000 * W by omega) (by omega) j).2
    have h5 : j = 0 ∨ j = 1 ∨ j = 2 ∨ j = 3 ∨ j = 4 ∨ j = 5 := by omega
    have b : (10000000 : Int) * 10000000000000000 ^ j ≤ 10 ^ 90 := by
      rcases h5 with rfl | rfl | rfl | rfl | rfl | rfl <;> decide
    omega
  have c45 : (10 : Int) ^ 95 + 10 ^ 90 < 10 ^ 100 := by decide
  have c44 : (10 : Int) ^ 90 < 10 ^ 100 := by decide
  intro d
  induction d with
  | zero =>
    intro f j fg hj hf hR
    obtain ⟨f, rfl⟩ : ∃ f', f = f' + 1 := ⟨f - 1, by omega⟩
    obtain rfl : j = s := by omega
    rw [fX12_appeal_L145, if_pos (Int32.le_refl _)]
    have b := big j (by omega)
    refine Rt.bind (v_add hFu hal hR (by omega)) (fun r hr => ?_)
    have wk0 : 0 ≤ W * (k : Int) := Int.mul_nonneg W0 (by omega)
    have wk1 : W * (k : Int) ≤ 10 * 5 := Int.mul_le_mul W1 (by omega) (by omega) (by omega)
    rw [show i32 (k : Int) + (-1 : Int32) = i32 ((k : Int) - 1) by rw [show (-1 : Int32) = i32 (-1) from rfl, i32_add]; rfl, i32_litN 1, i32_sub, i32_add, i32_64 (by omega) (by omega), i32_64 (by omega) (by omega), gzl_ok (show ((j : Int) - (k : Int) + ((1 : Nat) : Int)) ≠ 0 by omega) (by omega) (by omega), i64_mul, i64_div wk0 (by omega) (by omega) (by omega)]
    exact hc fg r hr
  | succ d ih =>
    intro f j fg hj hf hR
    obtain ⟨f, rfl⟩ : ∃ f', f = f' + 1 := ⟨f - 1, by omega⟩
    rw [fX12_appeal_L145, if_neg (by rw [i32_le (by omega) (by omega) (by omega) (by omega)]; omega)]
    unfold fX12_appeal_L165
    rw [i32_p1]
    have b := big (j + 1) (by omega)
    have e : pr w l k (1000000 * W) (j + 1) = pr w l k (1000000 * W) j * (if j < k then w else l) := rfl
    by_cases c : k ≤ j
    · rw [if_neg (show ¬ j < k by omega)] at e
      refine Rt.ift (by rw [i32_le (by omega) (by omega) (by omega) (by omega)]; omega) ?_
      refine Rt.bind (v_times hFu l0 l1 hR (by rw [← e]; omega)) (fun r hr => ih f (j + 1) r (by omega) (by omega) ?_)
      rw [e]; exact hr
    · rw [if_pos (show j < k by omega)] at e
      refine Rt.iff (by rw [i32_le (by omega) (by omega) (by omega) (by omega)]; omega) ?_
      refine Rt.bind (v_times hFu w0 w1 hR (by rw [← e]; omega)) (fun r hr => ih f (j + 1) r (by omega) (by omega) ?_)
      rw [e]; exact hr
theorem v_app102 (hFu : 6000 ≤ Fu) {sz : Int32} {w l S W : Int} {s k : Nat} (w0 : 0 ≤ w) (w1 : w ≤ 10000000000000000) (l0 : 0 ≤ l) (l1 : l ≤ 10000000000000000) (W0 : 0 ≤ W) (W1 : W ≤ 10) (S0 : 0 ≤ S) (S1 : S ≤ 10 ^ 95) (hs : s ≤ 5) (hk : k ≤ s) {al0 : Nat → Int32} (hal : RD S al0) {k91 : _} {P : _ → Prop}
    (hc : ∀ (fg b : Nat → Int32), RD (S + pr w l k (1000000 * W) s) b → Rt (k91 th row lw set rs br val sum ch vs fg b (i32 (s : Int)) sz (i64 w) (i64 l) (i64 (W * k / (s - k + 1))) (i32 ((k : Int) - 1))) P) :
    ∀ (d f j : Nat) (fg : Nat → Int32), j + d = 100 → d < f → (0 < j → fg 0 = 1) → (∀ i, 0 < i → i < j → fg i = 0) → Rt (fX12_appeal_L102 Fu k91 f th row lw set rs br val sum ch vs fg al0 (i32 (s : Int)) sz (i64 w) (i64 l) (i64 W) (i32 (k : Int)) (i32 (j : Int))) P := by
  intro d
  induction d with
  | zero =>
    intro f j fg hj hf h1 h2
    obtain ⟨f, rfl⟩ : ∃ f', f = f' + 1 := ⟨f - 1, by omega⟩
    obtain rfl : j = 100 := by omega
    rw [fX12_appeal_L102, if_pos (by decide), i64_litN 1000000, i64_mul]
    have c : (10000000 : Int) < 10 ^ 100 := by decide
    refine Rt.bind (v_times hFu (N := 1) (v := 1000000 * W) (by omega) (by omega) (RD_1 (h1 (by omega)) (fun i i1 i2 => h2 i i1 i2)) (by omega)) (fun r hr => ?_)
    rw [Int.one_mul] at hr
    exact v_app145 hFu w0 w1 l0 l1 W0 W1 S0 S1 hs hk hal hc s Fu 0 r (by omega) (by omega) hr
  | succ d ih =>
    intro f j fg hj hf h1 h2
    obtain ⟨f, rfl⟩ : ∃ f', f = f' + 1 := ⟨f - 1, by omega⟩
    rw [fX12_appeal_L102, if_neg (by rw [i32_litN 100, i32_le (by omega) (by omega) (by omega) (by omega)]; omega)]
    unfold fX12_appeal_L125
    rw [gd_ok (by omega) (by omega) (by omega), gd_ok (by omega) (by omega) (by omega), i32_nat (by omega) (by omega), Int.toNat_natCast, i32_p1]
    by_cases c : j = 0
    · subst c
      refine Rt.ift rfl ?_
      refine ih f 1 _ (by omega) (by omega) (fun _ => va_up_at _ _ _) (fun i i1 i2 => by omega)
    · refine Rt.iff (by rw [i32_litN 0, i32_eq (by omega) (by omega) (by omega) (by omega)]; omega) ?_
      refine ih f (j + 1) _ (by omega) (by omega) (fun _ => ?_) (fun i i1 i2 => ?_)
      · rw [va_up_ne _ _ (by omega)]; exact h1 (by omega)
      · by_cases e : i = j
        · subst e; exact va_up_at _ _ _
        · rw [va_up_ne _ _ e]; exact h2 i i1 (by omega)
theorem v_app91 (hFu : 6000 ≤ Fu) {sz : Int32} {w l S W : Int} {s k : Nat} (w0 : 0 ≤ w) (w1 : w ≤ 10000000000000000) (l0 : 0 ≤ l) (l1 : l ≤ 10000000000000000) (W0 : 0 ≤ W) (W1 : W ≤ 10) (S0 : 0 ≤ S) (S1 : S ≤ 10 ^ 95) (hs : s ≤ 5) (hk : k ≤ s) (h2k : s < 2 * k) {f : Nat} {fg al0 : Nat → Int32} (hal : RD S al0) {P : _ → Prop}
    (hc : ∀ (fg b : Nat → Int32), RD (S + pr w l k (1000000 * W) s) b → Rt (fX12_appeal_L91 Fu f th row lw set rs br val sum ch vs fg b (i32 (s : Int)) sz (i64 w) (i64 l) (i64 (W * k / (s - k + 1))) (i32 ((k : Int) - 1))) P) :
    Rt (fX12_appeal_L91 Fu (f + 1) th row lw set rs br val sum ch vs fg al0 (i32 (s : Int)) sz (i64 w) (i64 l) (i64 W) (i32 (k : Int))) P := by
  rw [fX12_appeal_L91, if_neg (by rw [i32_litN 2, i32_mul, i32_le (by omega) (by omega) (by omega) (by omega)]; omega)]
  exact v_app102 hFu w0 w1 l0 l1 W0 W1 S0 S1 hs hk hal hc 100 Fu 0 fg (by omega) (by omega) (fun q => by omega) (fun i i1 i2 => by omega)
theorem v_app64 (hFu : 6000 ≤ Fu) {sz s : Int32} {w l : Int64} {fg : Nat → Int32} {P : _ → Prop} (hc : ∀ b : Nat → Int32, RD 0 b → Rt (fX12_appeal_L91 Fu Fu th row lw set rs br val sum ch vs fg b s sz w l 1 s) P) :
    ∀ (d f j : Nat) (al0 : Nat → Int32), j + d = 100 → d < f → (∀ i, i < j → al0 i = 0) → Rt (fX12_appeal_L64 Fu f th row lw set rs br val sum ch vs fg al0 s sz w l (i32 (j : Int))) P := by
  intro d
  induction d with
  | zero =>
    intro f j al0 hj hf h
    obtain ⟨f, rfl⟩ : ∃ f', f = f' + 1 := ⟨f - 1, by omega⟩
    obtain rfl : j = 100 := by omega
    rw [fX12_appeal_L64, if_pos (by decide)]
    exact hc al0 (RD_0 h)
  | succ d ih =>
    intro f j al0 hj hf h
    obtain ⟨f, rfl⟩ : ∃ f', f = f' + 1 := ⟨f - 1, by omega⟩
    rw [fX12_appeal_L64, if_neg (by rw [i32_litN 100, i32_le (by omega) (by omega) (by omega) (by omega)]; omega), gd_ok (by omega) (by omega) (by omega), i32_nat (by omega) (by omega), Int.toNat_natCast, i32_p1]
    refine ih f (j + 1) _ (by omega) (by omega) (fun i hi => ?_)
    by_cases e : i = j
    · subst e; exact va_up_at _ _ _
    · rw [va_up_ne _ _ e]; exact h i (by omega)
theorem m_appeal (hFu : 6000 ≤ Fu) {LO : Option LwS} (hM : RM y row) (hW : WF y) (hO : MO y LO) {fg al0 : Nat → Int32} {v : Int} (v1 : -2147483648 ≤ v) (v2 : v ≤ 2147483647) :
    Rt (fX12_appeal Fu th row lw set rs br val sum ch vs fg al0 (i32 v)) (fun r => r.1 = i32 (if v = 1 ∨ v = 3 ∨ v = 5 then appS (al (bl y LO (y 6).toNat) (y 5).toNat) (100 ^ bcn (y 4).toNat 8 - al (bl y LO (y 6).toNat) (y 5).toNat) (bcn (y 4).toNat 8) v.toNat else -1)) := by
  obtain ⟨s, n, e4, e0, hn, hs1, hs, hb⟩ := hW.seats
  have h5 := hW.quota
  have r4 : row (4 : Int32).toNatClampNeg = i32 (y 4) := hM 4 (by omega)
  have eb : fX12_bits Fu (i32 (y 4)) = some (i32 ((bcn (y 4).toNat 8 : Nat) : Int)) := by rw [e4, Int.toNat_natCast]; exact v_bits hFu hs
  have bf := bl_fact (y := y) (LO := LO) (h := (y 6).toNat)
  have a := al_le (q := (y 5).toNat) bf.1 bf.2
  have len : (bl y LO (y 6).toNat).length = bcn (y 4).toNat 8 := cl_cnt _ _ 8
  rw [len] at a
  have p2 := pow100 (n := bcn (y 4).toNat 8) (bcn_le _ 8)
  have bl8 := bcn_le (y 4).toNat 8
  have l22 : ∀ s : Nat, s = 1 ∨ s = 3 ∨ s = 5 → Rt (fX12_appeal_L22 Fu 0 row lw set rs br val sum ch vs fg al0 (i32 (s : Int))) (fun r => r.1 = i32 (appS (al (bl y LO (y 6).toNat) (y 5).toNat) (100 ^ bcn (y 4).toNat 8 - al (bl y LO (y 6).toNat) (y 5).toNat) (bcn (y 4).toNat 8) s)) := by
    intro s hs3
    unfold fX12_appeal_L22
    refine Rt.bind (v_layNow hFu hM hW hO) (fun r hr => ?_)
    rw [gd9 (by decide) (by decide), r4, eb]
    refine Rt.eqb rfl ?_
    rw [gd9 (by decide) (by decide), v_quota hM, show y 5 = (((y 5).toNat : Nat) : Int) by omega]
    refine Rt.eqb rfl ?_
    refine Rt.bind (v_wins0 hFu hM hW hr (by omega)) (fun r2 hr2 => ?_)
    rw [hr2.1, Int.toNat_natCast, v_power hFu (by omega)]
    refine Rt.eqb rfl ?_
    rw [i64_sub]
    generalize al (bl y LO (y 6).toNat) (y 5).toNat = w at *
    have wl0 : 0 ≤ 100 ^ bcn (y 4).toNat 8 - w := by omega
    have wl1 : 100 ^ bcn (y 4).toNat 8 - w ≤ 10000000000000000 := by omega
    have w1 : w ≤ 10000000000000000 := by omega
    generalize 100 ^ bcn (y 4).toNat 8 - w = l at *
    have big : ∀ (k : Nat) (W : Int), 0 ≤ W → W ≤ 10 → 0 ≤ pr w l k (1000000 * W) s ∧ pr w l k (1000000 * W) s ≤ 10 ^ 90 := by
      intro k W W0 W1
      have q := pr_rng (k := k) (M := 10000000) a.1 w1 wl0 wl1 (show 0 ≤ 1000000 * W by omega) (by omega) s
      have b : (10000000 : Int) * 10000000000000000 ^ s ≤ 10 ^ 90 := by
        rcases hs3 with rfl | rfl | rfl <;> decide
      omega
    have c45 : (10 : Int) ^ 90 + 10 ^ 90 + 10 ^ 90 ≤ 10 ^ 95 := by decide
    have c0 : (0 : Int) ≤ 10 ^ 95 := by decide
    refine v_app64 hFu (fun b hb0 => ?_) 100 Fu 0 al0 (by omega) (by omega) (fun i hi => by omega)
    obtain ⟨f, rfl⟩ : ∃ f', Fu = f' + 8 := ⟨Fu - 8, by omega⟩
    unfold appS
    rw [show (1 : Int64) = i64 1 from rfl]
    rcases hs3 with rfl | rfl | rfl
    · refine v_app91 (s := 1) (k := 1) (W := 1) hFu a.1 w1 wl0 wl1 (by omega) (by omega) (Int.le_refl 0) c0 (by omega) (by omega) (by omega) hb0 (fun fg b hb => ?_)
      rw [fX12_appeal_L91, if_pos (by decide)]
      have e : apN w l 1 * 1000000 = 0 + pr w l 1 (1000000 * 1) 1 := by show 1 * w * 1000000 = 0 + 1000000 * 1 * w; grind
      rw [e]
      exact v_app207' hb (by omega) bl8 hFu
    · have g3 := big 3 1 (by omega) (by omega)
      refine v_app91 (s := 3) (k := 3) (W := 1) hFu a.1 w1 wl0 wl1 (by omega) (by omega) (Int.le_refl 0) c0 (by omega) (by omega) (by omega) hb0 (fun fg b hb => ?_)
      refine v_app91 (s := 3) (k := 2) (W := 3) hFu a.1 w1 wl0 wl1 (by omega) (by omega) (by omega) (by omega) (by omega) (by omega) (by omega) hb (fun fg b hb => ?_)
      rw [fX12_appeal_L91, if_pos (by decide)]
      have e : apN w l 3 * 1000000 = 0 + pr w l 3 (1000000 * 1) 3 + pr w l 2 (1000000 * 3) 3 := by show (0 + 3 * w * w * l + 1 * w * w * w) * 1000000 = 0 + 1000000 * 1 * w * w * w + 1000000 * 3 * w * w * l; grind
      rw [e]
      exact v_app207' hb (by omega) bl8 hFu
    · have g5 := big 5 1 (by omega) (by omega)
      have g4 := big 4 5 (by omega) (by omega)
      refine v_app91 (s := 5) (k := 5) (W := 1) hFu a.1 w1 wl0 wl1 (by omega) (by omega) (Int.le_refl 0) c0 (by omega) (by omega) (by omega) hb0 (fun fg b hb => ?_)
      refine v_app91 (s := 5) (k := 4) (W := 5) hFu a.1 w1 wl0 wl1 (by omega) (by omega) (by omega) (by omega) (by omega) (by omega) (by omega) hb (fun fg b hb => ?_)
      refine v_app91 (s := 5) (k := 3) (W := 10) hFu a.1 w1 wl0 wl1 (by omega) (by omega) (by omega) (by omega) (by omega) (by omega) (by omega) hb (fun fg b hb => ?_)
      rw [fX12_appeal_L91, if_pos (by decide)]
      have e : apN w l 5 * 1000000 = 0 + pr w l 5 (1000000 * 1) 5 + pr w l 4 (1000000 * 5) 5 + pr w l 3 (1000000 * 10) 5 := by show (0 + 10 * w * w * w * l * l + 5 * w * w * w * w * l + 1 * w * w * w * w * w) * 1000000 = 0 + 1000000 * 1 * w * w * w * w * w + 1000000 * 5 * w * w * w * w * l + 1000000 * 10 * w * w * w * l * l; grind
      rw [e]
      exact v_app207' hb (by omega) bl8 hFu
  unfold fX12_appeal
  by_cases q1 : v = 1
  · subst q1; rw [if_pos (show (1 : Int) = 1 ∨ (1 : Int) = 3 ∨ (1 : Int) = 5 by omega)]; exact Rt.ift rfl (l22 1 (by omega))
  by_cases q3 : v = 3
  · subst q3; rw [if_pos (show (3 : Int) = 1 ∨ (3 : Int) = 3 ∨ (3 : Int) = 5 by omega)]; exact Rt.iff (by decide) (Rt.ift rfl (l22 3 (by omega)))
  by_cases q5 : v = 5
  · subst q5; rw [if_pos (show (5 : Int) = 1 ∨ (5 : Int) = 3 ∨ (5 : Int) = 5 by omega)]; exact Rt.iff (by decide) (Rt.iff (by decide) (Rt.ift rfl (l22 5 (by omega))))
  rw [if_neg (show ¬ (v = 1 ∨ v = 3 ∨ v = 5) by omega)]
  exact Rt.iff (by rw [i32_litN 1, i32_eq (by omega) (by omega) (by omega) (by omega)]; exact q1) (Rt.iff (by rw [i32_litN 3, i32_eq (by omega) (by omega) (by omega) (by omega)]; exact q3) (Rt.iff (by rw [i32_litN 5, i32_eq (by omega) (by omega) (by omega) (by omega)]; exact q5) (Rt.ret rfl)))
end APM
