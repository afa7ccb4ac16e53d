/-! ===== appeals ===== -/
def pr (w l : Int) (k : Nat) (W : Int) : Nat → Int
  | 0 => W
  | j + 1 => pr w l k W j * (if j < k then w else l)
theorem pr_rng {w l W M : Int} {k : Nat} (w0 : 0 ≤ w) (w1 : w ≤ 10000000000000000) (l0 : 0 ≤ l) (l1 : l ≤ 10000000000000000) (W0 : 0 ≤ W) (W1 : W ≤ M) : ∀ j, 0 ≤ pr w l k W j ∧ pr w l k W j ≤ M * 10000000000000000 ^ j := by
  intro j
  induction j with
  | zero => exact ⟨W0, by show W ≤ M * 10000000000000000 ^ 0; rw [Int.pow_zero]; omega⟩
  | succ j ih =>
    have h : 0 ≤ (if j < k then w else l) ∧ (if j < k then w else l) ≤ 10000000000000000 := by split <;> omega
    refine ⟨Int.mul_nonneg ih.1 h.1, ?_⟩
    show pr w l k W j * (if j < k then w else l) ≤ _
    have := Int.mul_le_mul ih.2 h.2 h.1 (by omega)
    rw [Int.pow_succ, ← Int.mul_assoc]; exact this
/-- what all that SIDE 0 wins by is, of a hundred by itself so often -/
def apN (w l : Int) (s : Nat) : Int := if s = 1 then pr w l 1 1 1 else if s = 3 then 0 + pr w l 2 3 3 + pr w l 3 1 3 else 0 + pr w l 3 10 5 + pr w l 4 5 5 + pr w l 5 1 5
def appS (w l : Int) (n s : Nat) : Int := apN w l s * 1000000 / 100 ^ (n * s)
theorem apN_le {w l P : Int} {s : Nat} (hs : s = 1 ∨ s = 3 ∨ s = 5) (w0 : 0 ≤ w) (l0 : 0 ≤ l) (e : w + l = P) : 0 ≤ apN w l s ∧ apN w l s ≤ P ^ s := by
  have a1 : 0 ≤ w * l := Int.mul_nonneg w0 l0
  have ww : 0 ≤ w * w := Int.mul_nonneg w0 w0
  have ll : 0 ≤ l * l := Int.mul_nonneg l0 l0
  subst e
  rcases hs with rfl | rfl | rfl
  · have : apN w l 1 = w := by show (1 : Int) * w = w; omega
    rw [this, Int.pow_one]; omega
  · have e1 : apN w l 3 = w * w * w + 3 * (w * w * l) := by show (0 : Int) + 3 * w * w * l + 1 * w * w * w = _; grind
    have e2 : (w + l) ^ 3 = w * w * w + 3 * (w * w * l) + (3 * (l * l * w) + l * l * l) := by grind
    have b1 : 0 ≤ w * w * w := Int.mul_nonneg ww w0
    have b2 : 0 ≤ w * w * l := Int.mul_nonneg ww l0
    have b3 : 0 ≤ l * l * w := Int.mul_nonneg ll w0
    have b4 : 0 ≤ l * l * l := Int.mul_nonneg ll l0
    rw [e1, e2]; omega
  · have e1 : apN w l 5 = 10 * (w * w * w * (l * l)) + 5 * (w * w * (w * w) * l) + w * w * (w * w) * w := by show (0 : Int) + 10 * w * w * w * l * l + 5 * w * w * w * w * l + 1 * w * w * w * w * w = _; grind
    have e2 : (w + l) ^ 5 = 10 * (w * w * w * (l * l)) + 5 * (w * w * (w * w) * l) + w * w * (w * w) * w + (10 * (l * l * l * (w * w)) + 5 * (l * l * (l * l) * w) + l * l * (l * l) * l) := by grind
    have w3 : 0 ≤ w * w * w := Int.mul_nonneg ww w0
    have l3 : 0 ≤ l * l * l := Int.mul_nonneg ll l0
    have w4 : 0 ≤ w * w * (w * w) := Int.mul_nonneg ww ww
    have l4 : 0 ≤ l * l * (l * l) := Int.mul_nonneg ll ll
    have b1 := Int.mul_nonneg w3 ll
    have b2 := Int.mul_nonneg w4 l0
    have b3 := Int.mul_nonneg w4 w0
    have b4 := Int.mul_nonneg l3 ww
    have b5 := Int.mul_nonneg l4 w0
    have b6 := Int.mul_nonneg l4 l0
    rw [e1, e2]; omega
/-- the four digits that tell millionths -/
def dg4 (g : Nat → Int) (t : Nat) (j : Nat) : Int := if t + j < 3 then 0 else g (t + j - 3)
theorem x_millionths {Fu : Nat} (hFu : 6000 ≤ Fu) {t : Nat} (ht : t ≤ 40) {g : Nat → Int} {a : Nat → Int64} (ha : ∀ k, k < 48 → a k = i64 (g k)) : fX4_millionths Fu a (i32 (t : Int)) = some (i32 (((dg4 g t 3 * 100 + dg4 g t 2) * 100 + dg4 g t 1) * 100 + dg4 g t 0)) := by
  have step : ∀ (f j : Nat) (m : Int), j ≤ 3 → fX4_millionths_L4 Fu (f + 1) a (i32 (t : Int)) (i32 m) (i32 ((t : Int) + j - 3)) = fX4_millionths_L4 Fu f a (i32 (t : Int)) (i32 (m * 100 + dg4 g t j)) (i32 ((t : Int) + j - 4)) := by
    intro f j m hj
    rw [fX4_millionths_L4]
    unfold fX4_millionths_L35
    simp (disch := omega) only [i32_lit, i32_sub, i32_neg, i32_add, i32_mul, i32_lt, i32_le]
    rw [if_neg (show ¬ (t : Int) + (j : Int) - 3 < (t : Int) - 3 by omega), show (t : Int) + (j : Int) - 3 + -1 = (t : Int) + (j : Int) - 4 by omega]
    unfold dg4
    by_cases c : t + j < 3
    · rw [if_pos (show (t : Int) + (j : Int) - 3 < 0 by omega), if_pos c]
    · rw [if_neg (show ¬ (t : Int) + (j : Int) - 3 < 0 by omega), if_neg c, if_neg (show ¬ (48 : Int) ≤ (t : Int) + (j : Int) - 3 by omega), gd_ok (by omega) (by omega) (by omega), i32_nat (by omega) (by omega), show ((t : Int) + (j : Int) - 3).toNat = t + j - 3 by omega, ha _ (by omega), i64_32, i32_add]
  obtain ⟨f, rfl⟩ : ∃ f', Fu = f' + 5 := ⟨Fu - 5, by omega⟩
  unfold fX4_millionths
  have s3 := step (f + 4) 3 0 (by omega)
  have s2 := step (f + 3) 2 (0 * 100 + dg4 g t 3) (by omega)
  have s1 := step (f + 2) 1 ((0 * 100 + dg4 g t 3) * 100 + dg4 g t 2) (by omega)
  have s0 := step (f + 1) 0 (((0 * 100 + dg4 g t 3) * 100 + dg4 g t 2) * 100 + dg4 g t 1) (by omega)
  rw [show (t : Int) + ((3 : Nat) : Int) - 3 = t by omega, show (t : Int) + ((3 : Nat) : Int) - 4 = (t : Int) + ((2 : Nat) : Int) - 3 by omega] at s3
  rw [show (t : Int) + ((2 : Nat) : Int) - 4 = (t : Int) + ((1 : Nat) : Int) - 3 by omega] at s2
  rw [show (t : Int) + ((1 : Nat) : Int) - 4 = (t : Int) + ((0 : Nat) : Int) - 3 by omega] at s1
  refine s3.trans (s2.trans (s1.trans (s0.trans ?_)))
  rw [fX4_millionths_L4, if_pos (by rw [i32_litN 3, i32_sub, i32_lt (by omega) (by omega) (by omega) (by omega)]; omega)]
  congr 2
  omega
theorem mill_val {t : Nat} (ht : t ≤ 40) {g : Nat → Int} {N : Int} (hR : RN 100 48 N g) (hN : N ≤ 100 ^ t) : ((dg4 g t 3 * 100 + dg4 g t 2) * 100 + dg4 g t 1) * 100 + dg4 g t 0 = N * 1000000 / 100 ^ t := by
  obtain ⟨h1, h2⟩ := hR
  have p0 := powB (B := 100) (by omega) t
  have eN : dv g 100 (t + 1) = N := by
    have e := dv_hv g 100 (47 - t) (t + 1)
    rw [show t + 1 + (47 - t) = 48 by omega, h2] at e
    have a := dv_lt (B := 100) (by omega) (n := t + 1) (fun k hk => h1 k (by omega))
    have nn : 0 ≤ hvR g 100 (t + 1) (47 - t) := by
      rw [hv_div (by omega) (fun k hk => h1 k (by omega))]
      have b := dv_lt (B := 100) (by omega) (n := t + 1 + (47 - t)) (fun k hk => h1 k (by omega))
      exact Int.ediv_nonneg b.1 (by have := powB (B := 100) (by omega) (t + 1); omega)
    have pp : (100 : Int) ^ (t + 1) = 100 ^ t * 100 := Int.pow_succ ..
    rw [Int.mul_comm] at e
    exact carry_0 a.1 nn (powB (by omega) (t + 1)) e.symm (by omega)
  have a := dv_lt (B := 100) (by omega) (n := t + 1) (fun k hk => h1 k (by omega))
  by_cases c : 3 ≤ t
  · obtain ⟨r, rfl⟩ : ∃ r, t = r + 3 := ⟨t - 3, by omega⟩
    have e4 : ((dg4 g (r + 3) 3 * 100 + dg4 g (r + 3) 2) * 100 + dg4 g (r + 3) 1) * 100 + dg4 g (r + 3) 0 = hvR g 100 r 4 := by
      unfold dg4
      rw [if_neg (by omega), if_neg (by omega), if_neg (by omega), if_neg (by omega)]
      show _ = g r + 100 * (g (r + 1) + 100 * (g (r + 1 + 1) + 100 * (g (r + 1 + 1 + 1) + 100 * 0)))
      rw [show r + 3 + 3 - 3 = r + 1 + 1 + 1 by omega, show r + 3 + 2 - 3 = r + 1 + 1 by omega, show r + 3 + 1 - 3 = r + 1 by omega, show r + 3 + 0 - 3 = r by omega]
      omega
    rw [e4, hv_div (by omega) (fun k hk => h1 k (by omega)), show r + 4 = r + 3 + 1 by omega, eN]
    have e5 : (100 : Int) ^ (r + 3) = 100 ^ r * 1000000 := by rw [Int.pow_add]; rfl
    rw [e5, Int.mul_ediv_mul_of_pos_left _ _ (by omega)]
  · have : t = 0 ∨ t = 1 ∨ t = 2 := by omega
    rcases this with rfl | rfl | rfl
    · have e : dv g 100 (0 + 1) = g 0 := by show (0 : Int) + g 0 * 100 ^ 0 = g 0; rw [Int.pow_zero]; omega
      rw [e] at eN
      show (((g 0 * 100 + 0) * 100 + 0) * 100 + 0 : Int) = _
      rw [Int.pow_zero, Int.ediv_one]; omega
    · have e : dv g 100 (1 + 1) = g 0 + 100 * g 1 := by show (0 : Int) + g 0 * 100 ^ 0 + g 1 * 100 ^ 1 = _; rw [Int.pow_zero, Int.pow_one]; omega
      rw [e] at eN
      show (((g 1 * 100 + g 0) * 100 + 0) * 100 + 0 : Int) = _
      rw [Int.pow_one]; omega
    · have e : dv g 100 (2 + 1) = g 0 + 100 * g 1 + 10000 * g 2 := by show (0 : Int) + g 0 * 100 ^ 0 + g 1 * 100 ^ 1 + g 2 * 100 ^ 2 = _; rw [Int.pow_zero, Int.pow_one, show (100 : Int) ^ 2 = 10000 from rfl]; omega
      rw [e] at eN
      show (((g 2 * 100 + g 1) * 100 + g 0) * 100 + 0 : Int) = _
      rw [show (100 : Int) ^ 2 = 10000 from rfl]; omega
theorem x_ways {Fu : Nat} (hFu : 6000 ≤ Fu) : fX11_ways Fu (i32 ((1 : Nat) : Int)) (i32 ((1 : Nat) : Int)) = some (i32 1) ∧ fX11_ways Fu (i32 ((3 : Nat) : Int)) (i32 ((2 : Nat) : Int)) = some (i32 3) ∧ fX11_ways Fu (i32 ((3 : Nat) : Int)) (i32 ((3 : Nat) : Int)) = some (i32 1) ∧ fX11_ways Fu (i32 ((5 : Nat) : Int)) (i32 ((3 : Nat) : Int)) = some (i32 10) ∧ fX11_ways Fu (i32 ((5 : Nat) : Int)) (i32 ((4 : Nat) : Int)) = some (i32 5) ∧ fX11_ways Fu (i32 ((5 : Nat) : Int)) (i32 ((5 : Nat) : Int)) = some (i32 1) := by
  obtain ⟨f, rfl⟩ : ∃ f', Fu = f' + 8 := ⟨Fu - 8, by omega⟩
  exact ⟨rfl, rfl, rfl, rfl, rfl, rfl⟩
section APX
variable {y : Nat → Int} {row : Nat → Int32} {beasts meals seats laws inForce cases : Int32} {tr mh te rs ju vo : Nat → Int32}
theorem x_app105_N {Fu : Nat} (hFu : 6000 ≤ Fu) {a5 : Nat → Option Nat} {a38 : Nat → Int32} {vot : Int32} {ways : Nat → Int64} {sz : Int32} {w l S W : Int} {s k : Nat} (w0 : 0 ≤ w) (w1 : w ≤ 10000000000000000) (l0 : 0 ≤ l) (l1 : l ≤ 10000000000000000) (W0 : 0 ≤ W) (W1 : W ≤ 10) (S0 : 0 ≤ S) (S1 : S ≤ 100 ^ 45) (hs : s ≤ 5) (hk : k ≤ 5) {a75 : Nat → Int64} (h75 : RH S a75) {k82 : _} {P : _ → Prop}
    (hc : ∀ (b75 b77 : Nat → Int64), RH (S + pr w l k W s) b75 → Rt (k82 beasts seats laws inForce tr mh te a5 a38 vot ways b75 b77 (i32 (s : Int)) sz (i64 w) (i64 l) (i32 ((k + 1 : Nat) : Int))) P) :
    ∀ (d f j : Nat) (a77 : Nat → Int64), j + d = s → d < f → RH (pr w l k W j) a77 → Rt (fX11_appeal_N_L105 Fu k82 f beasts seats laws inForce tr mh te a5 a38 vot ways a75 a77 (i32 (s : Int)) sz (i64 w) (i64 l) (i32 (k : Int)) (i32 (j : Int))) P := by
  have big : ∀ j, j ≤ 5 → pr w l k W j ≤ 100 ^ 44 := by
    intro j hj
    have := (pr_rng (k := k) w0 w1 l0 l1 W0 W1 j).2
    have h5 : j = 0 ∨ j = 1 ∨ j = 2 ∨ j = 3 ∨ j = 4 ∨ j = 5 := by omega
    have b : (10 : Int) * 10000000000000000 ^ j ≤ 100 ^ 44 := by
      rcases h5 with rfl | rfl | rfl | rfl | rfl | rfl <;> decide
    omega
  have c45 : (100 : Int) ^ 45 + 100 ^ 44 < 100 ^ 48 := by decide
  have c44 : (100 : Int) ^ 44 < 100 ^ 48 := by decide
  intro d
  induction d with
  | zero =>
    intro f j a77 hj hf hR
    obtain ⟨f, rfl⟩ : ∃ f', f = f' + 1 := ⟨f - 1, by omega⟩
    obtain rfl : j = s := by omega
    rw [fX11_appeal_N_L105, if_pos (Int32.le_refl _), i32_p1]
    have b := big j (by omega)
    refine Rt.bind (x_increase hFu h75 hR (by omega)) (fun r hr => hc r a77 hr)
  | succ d ih =>
    intro f j a77 hj hf hR
    obtain ⟨f, rfl⟩ : ∃ f', f = f' + 1 := ⟨f - 1, by omega⟩
    rw [fX11_appeal_N_L105, if_neg (by rw [i32_le (by omega) (by omega) (by omega) (by omega)]; omega)]
    unfold fX11_appeal_N_L128
    rw [i32_p1]
    have b := big (j + 1) (by omega)
    have e : pr w l k W (j + 1) = pr w l k W j * (if j < k then w else l) := rfl
    by_cases c : k ≤ j
    · rw [if_neg (show ¬ j < k by omega)] at e
      refine Rt.ift (by rw [i32_le (by omega) (by omega) (by omega) (by omega)]; omega) ?_
      refine Rt.bind (x_multiply hFu l0 l1 hR (by rw [← e]; omega)) (fun r hr => ih f (j + 1) r (by omega) (by omega) ?_)
      rw [e]; exact hr
    · rw [if_pos (show j < k by omega)] at e
      refine Rt.iff (by rw [i32_le (by omega) (by omega) (by omega) (by omega)]; omega) ?_
      refine Rt.bind (x_multiply hFu w0 w1 hR (by rw [← e]; omega)) (fun r hr => ih f (j + 1) r (by omega) (by omega) ?_)
      rw [e]; exact hr
theorem x_app82_N {Fu : Nat} (hFu : 6000 ≤ Fu) {a5 : Nat → Option Nat} {a38 : Nat → Int32} {vot : Int32} {ways : Nat → Int64} {sz : Int32} {w l S W : Int} {s k : Nat} (w0 : 0 ≤ w) (w1 : w ≤ 10000000000000000) (l0 : 0 ≤ l) (l1 : l ≤ 10000000000000000) (W0 : 0 ≤ W) (W1 : W ≤ 10) (S0 : 0 ≤ S) (S1 : S ≤ 100 ^ 45) (hs : s ≤ 5) (hk : k ≤ s) (hW : fX11_ways Fu (i32 (s : Int)) (i32 (k : Int)) = some (i32 W)) {f : Nat} {a75 a77 : Nat → Int64} (h75 : RH S a75) {P : _ → Prop}
    (hc : ∀ (b75 b77 : Nat → Int64), RH (S + pr w l k W s) b75 → Rt (fX11_appeal_N_L82 Fu f beasts seats laws inForce tr mh te a5 a38 vot ways b75 b77 (i32 (s : Int)) sz (i64 w) (i64 l) (i32 ((k + 1 : Nat) : Int))) P) :
    Rt (fX11_appeal_N_L82 Fu (f + 1) beasts seats laws inForce tr mh te a5 a38 vot ways a75 a77 (i32 (s : Int)) sz (i64 w) (i64 l) (i32 (k : Int))) P := by
  rw [fX11_appeal_N_L82, if_neg (by rw [i32_lt (by omega) (by omega) (by omega) (by omega)]; omega), hW]
  refine Rt.eqb rfl ?_
  rw [i32_64 (by omega) (by omega)]
  refine Rt.bind (x_become hFu W0 (by omega)) (fun r hr => ?_)
  exact x_app105_N hFu w0 w1 l0 l1 W0 W1 S0 S1 hs (by omega) h75 hc s Fu 0 r (by omega) (by omega) hr
theorem x_app82e_N {Fu : Nat} (hFu : 6000 ≤ Fu) {a5 : Nat → Option Nat} {a38 : Nat → Int32} {vot : Int32} {ways : Nat → Int64} {w l N : Int} {s n : Nat} (hs : s ≤ 5) (hn : n ≤ 8) {f : Nat} {a75 a77 : Nat → Int64} (h75 : RH N a75) (hN : N ≤ 100 ^ (n * s)) :
    Rt (fX11_appeal_N_L82 Fu (f + 1) beasts seats laws inForce tr mh te a5 a38 vot ways a75 a77 (i32 (s : Int)) (i32 (n : Int)) (i64 w) (i64 l) (i32 ((s + 1 : Nat) : Int))) (fun r => r.1 = i32 (N * 1000000 / 100 ^ (n * s))) := by
  obtain ⟨g, hg, ha⟩ := h75
  have t40 : n * s ≤ 8 * 5 := Nat.mul_le_mul hn hs
  rw [fX11_appeal_N_L82, if_pos (by rw [i32_lt (by omega) (by omega) (by omega) (by omega)]; omega), i32_mul, show (n : Int) * (s : Int) = ((n * s : Nat) : Int) by rw [Int.natCast_mul], x_millionths hFu (by omega) ha, mill_val (by omega) hg hN]
  exact Rt.ret rfl
theorem c_appeal_N {Fu : Nat} (hFu : 6000 ≤ Fu) {LO : Option LwS} {a5 : Nat → Option Nat} (hW : WF y) (hX : RX y beasts meals seats laws inForce tr mh te cases rs ju vo) (hH : HN y LO) (a38 : Nat → Int32) (vot : Int32) (ways : Nat → Int64) (a75 a77 : Nat → Int64) {v : Int} (v1 : -2147483648 ≤ v) (v2 : v ≤ 2147483647) :
    Rt (fX11_appeal_N Fu beasts seats laws inForce tr mh te a5 a38 vot ways a75 a77 (i32 v)) (fun r => r.1 = i32 (if v = 1 ∨ v = 3 ∨ v = 5 then appS (al (bl y LO (y 6).toNat) (y 5).toNat) (100 ^ bcn (y 4).toNat 8 - al (bl y LO (y 6).toNat) (y 5).toNat) (bcn (y 4).toNat 8) v.toNat else -1)) := by
  obtain ⟨s, n, e4, e0, hn, hs1, hs, hb⟩ := hW.seats
  have h5 := hW.quota
  have h6 := hW.hour
  have t1 : te (1 : Int32).toNatClampNeg = i32 (((y 6).toNat : Nat) : Int) := by rw [show (((y 6).toNat : Nat) : Int) = y 6 by omega]; exact hX.2.2.2.2.2.2.1 1 (by omega)
  have t0 : te (0 : Int32).toNatClampNeg = i32 (((y 5).toNat : Nat) : Int) := by rw [show (((y 5).toNat : Nat) : Int) = y 5 by omega]; exact hX.2.2.2.2.2.2.1 0 (by omega)
  have eb : fJ6_bitCount_0f7a4 seats = some (i32 ((bcn (y 4).toNat 8 : Nat) : Int)) := by rw [hX.2.2.1, e4, Int.toNat_natCast]; exact x_bitCount ⟨s, hs⟩
  have bf := bl_fact (y := y) (LO := LO) (h := (y 6).toNat)
  have a := al_le (q := (y 5).toNat) bf.1 bf.2
  have len : (bl y LO (y 6).toNat).length = bcn (y 4).toNat 8 := cl_cnt _ _ 8
  rw [len] at a
  have p2 := pow100 (n := bcn (y 4).toNat 8) (bcn_le _ 8)
  have bl8 := bcn_le (y 4).toNat 8
  have l17 : ∀ s : Nat, s = 1 ∨ s = 3 ∨ s = 5 → Rt (fX11_appeal_N_L17 Fu beasts seats laws inForce tr mh te a5 a38 vot ways a75 a77 (i32 (s : Int))) (fun r => r.1 = i32 (appS (al (bl y LO (y 6).toNat) (y 5).toNat) (100 ^ bcn (y 4).toNat 8 - al (bl y LO (y 6).toNat) (y 5).toNat) (bcn (y 4).toNat 8) s)) := by
    intro s hs3
    unfold fX11_appeal_N_L17
    rw [eb]
    refine Rt.eqb rfl ?_
    rw [gd9 (by decide) (by decide), t1]
    refine Rt.bind (x_tally0_N hFu hW hX hH (by omega) a38 vot ways) (fun r hr => ?_)
    rw [gd9 (by decide) (by decide), t0, x_atLeast hFu hr (by omega)]
    refine Rt.eqb rfl ?_
    rw [x_power hFu (bcn_le _ 8)]
    refine Rt.eqb rfl ?_
    refine Rt.bind (x_become hFu (N := 0) (by omega) (by omega)) (fun r0 hr0 => ?_)
    rw [gz_in (by decide), i64_sub]
    generalize al (bl y LO (y 6).toNat) (y 5).toNat = w at *
    have an := apN_le (P := 100 ^ bcn (y 4).toNat 8) hs3 a.1 (show 0 ≤ 100 ^ bcn (y 4).toNat 8 - w by omega) (by omega)
    have wl := x_ways hFu
    have epow : ((100 : Int) ^ bcn (y 4).toNat 8) ^ s = 100 ^ (bcn (y 4).toNat 8 * s) := by rw [Int.pow_mul]
    rw [epow] at an
    have big : ∀ (k : Nat) (W : Int), 0 ≤ W → W ≤ 10 → 0 ≤ pr w (100 ^ bcn (y 4).toNat 8 - w) k W s ∧ pr w (100 ^ bcn (y 4).toNat 8 - w) k W s ≤ 100 ^ 44 := by
      intro k W W0 W1
      have q := pr_rng (k := k) a.1 (show w ≤ 10000000000000000 by omega) (show 0 ≤ 100 ^ bcn (y 4).toNat 8 - w by omega) (show 100 ^ bcn (y 4).toNat 8 - w ≤ 10000000000000000 by omega) W0 W1 s
      have b : (10 : Int) * 10000000000000000 ^ s ≤ 100 ^ 44 := by
        rcases hs3 with rfl | rfl | rfl <;> decide
      omega
    have c45 : (100 : Int) ^ 44 + 100 ^ 44 + 100 ^ 44 ≤ 100 ^ 45 := by decide
    have c0 : (0 : Int) ≤ 100 ^ 45 := by decide
    obtain ⟨f, rfl⟩ : ∃ f', Fu = f' + 8 := ⟨Fu - 8, by omega⟩
    unfold appS
    rcases hs3 with rfl | rfl | rfl
    · rw [show i32 ((1 : Nat) : Int) / 2 + 1 = i32 ((1 : Nat) : Int) from rfl]
      refine x_app82_N hFu a.1 (by omega) (by omega) (by omega) (W := 1) (by omega) (by omega) (Int.le_refl 0) c0 (by omega) (by omega) wl.1 hr0 (fun b75 b77 h75 => ?_)
      refine x_app82e_N hFu (by omega) (bcn_le _ 8) (N := apN w (100 ^ bcn (y 4).toNat 8 - w) 1) ?_ an.2
      have e : apN w (100 ^ bcn (y 4).toNat 8 - w) 1 = 0 + pr w (100 ^ bcn (y 4).toNat 8 - w) 1 1 1 := by show pr w (100 ^ bcn (y 4).toNat 8 - w) 1 1 1 = _; omega
      rw [e]; exact h75
    · rw [show i32 ((3 : Nat) : Int) / 2 + 1 = i32 ((2 : Nat) : Int) from rfl]
      have g2 := big 2 3 (by omega) (by omega)
      refine x_app82_N hFu a.1 (by omega) (by omega) (by omega) (W := 3) (by omega) (by omega) (Int.le_refl 0) c0 (by omega) (by omega) wl.2.1 hr0 (fun b75 b77 h75 => ?_)
      refine x_app82_N hFu a.1 (by omega) (by omega) (by omega) (W := 1) (by omega) (by omega) (by omega) (by omega) (by omega) (by omega) wl.2.2.1 h75 (fun b75 b77 h75 => ?_)
      exact x_app82e_N hFu (by omega) (bcn_le _ 8) (N := apN w (100 ^ bcn (y 4).toNat 8 - w) 3) h75 an.2
    · rw [show i32 ((5 : Nat) : Int) / 2 + 1 = i32 ((3 : Nat) : Int) from rfl]
      have g3 := big 3 10 (by omega) (by omega)
      have g4 := big 4 5 (by omega) (by omega)
      refine x_app82_N hFu a.1 (by omega) (by omega) (by omega) (W := 10) (by omega) (by omega) (Int.le_refl 0) c0 (by omega) (by omega) wl.2.2.2.1 hr0 (fun b75 b77 h75 => ?_)
      refine x_app82_N hFu a.1 (by omega) (by omega) (by omega) (W := 5) (by omega) (by omega) (by omega) (by omega) (by omega) (by omega) wl.2.2.2.2.1 h75 (fun b75 b77 h75 => ?_)
      refine x_app82_N hFu a.1 (by omega) (by omega) (by omega) (W := 1) (by omega) (by omega) (by omega) (by omega) (by omega) (by omega) wl.2.2.2.2.2 h75 (fun b75 b77 h75 => ?_)
      exact x_app82e_N hFu (by omega) (bcn_le _ 8) (N := apN w (100 ^ bcn (y 4).toNat 8 - w) 5) h75 an.2
  unfold fX11_appeal_N
  by_cases q1 : v = 1
  · subst q1; rw [if_pos (show (1 : Int) = 1 ∨ (1 : Int) = 3 ∨ (1 : Int) = 5 by omega)]; exact Rt.ift rfl (l17 1 (by omega))
  by_cases q3 : v = 3
  · subst q3; rw [if_pos (show (3 : Int) = 1 ∨ (3 : Int) = 3 ∨ (3 : Int) = 5 by omega)]; exact Rt.iff (by decide) (Rt.ift rfl (l17 3 (by omega)))
  by_cases q5 : v = 5
  · subst q5; rw [if_pos (show (5 : Int) = 1 ∨ (5 : Int) = 3 ∨ (5 : Int) = 5 by omega)]; exact Rt.iff (by decide) (Rt.iff (by decide) (Rt.ift rfl (l17 5 (by omega))))
  rw [if_neg (show ¬ (v = 1 ∨ v = 3 ∨ v = 5) by omega)]
  exact Rt.iff (by rw [i32_litN 1, i32_eq (by omega) (by omega) (by omega) (by omega)]; exact q1) (Rt.iff (by rw [i32_litN 3, i32_eq (by omega) (by omega) (by omega) (by omega)]; exact q3) (Rt.iff (by rw [i32_litN 5, i32_eq (by omega) (by omega) (by omega) (by omega)]; exact q5) (Rt.ret rfl)))
theorem x_app105_L {Fu : Nat} (hFu : 6000 ≤ Fu) {nh nt ne ns bb q : Nat} {a5 : Nat → Option Nat} {aL1 aL2 aL3 aL4 : Nat → Int32} {ht : Int32} {an : Int64} {a38 : Nat → Int32} {a39 : Nat → Int64} {vot : Int32} {ways : Nat → Int64} {sz : Int32} {w l S W : Int} {s k : Nat} (w0 : 0 ≤ w) (w1 : w ≤ 10000000000000000) (l0 : 0 ≤ l) (l1 : l ≤ 10000000000000000) (W0 : 0 ≤ W) (W1 : W ≤ 10) (S0 : 0 ≤ S) (S1 : S ≤ 100 ^ 45) (hs : s ≤ 5) (hk : k ≤ 5) {a75 : Nat → Int64} (h75 : RH S a75) {k82 : _} {P : _ → Prop}
    (hc : ∀ (b75 b77 : Nat → Int64), RH (S + pr w l k W s) b75 → Rt (k82 beasts seats laws inForce tr mh te a5 ht an a38 a39 vot ways b75 b77 aL1 aL2 aL3 aL4 (i32 (s : Int)) sz (i64 w) (i64 l) (i32 ((k + 1 : Nat) : Int))) P) :
    ∀ (d f j : Nat) (a77 : Nat → Int64), j + d = s → d < f → RH (pr w l k W j) a77 → Rt (fX11_appeal_L_L105 Fu nh nt ne ns bb q k82 f beasts seats laws inForce tr mh te a5 ht an a38 a39 vot ways a75 a77 aL1 aL2 aL3 aL4 (i32 (s : Int)) sz (i64 w) (i64 l) (i32 (k : Int)) (i32 (j : Int))) P := by
  have big : ∀ j, j ≤ 5 → pr w l k W j ≤ 100 ^ 44 := by
    intro j hj
    have := (pr_rng (k := k) w0 w1 l0 l1 W0 W1 j).2
    have h5 : j = 0 ∨ j = 1 ∨ j = 2 ∨ j = 3 ∨ j = 4 ∨ j = 5 := by omega
    have b : (10 : Int) * 10000000000000000 ^ j ≤ 100 ^ 44 := by
      rcases h5 with rfl | rfl | rfl | rfl | rfl | rfl <;> decide
    omega
  have c45 : (100 : Int) ^ 45 + 100 ^ 44 < 100 ^ 48 := by decide
  have c44 : (100 : Int) ^ 44 < 100 ^ 48 := by decide
  intro d
  induction d with
  | zero =>
    intro f j a77 hj hf hR
    obtain ⟨f, rfl⟩ : ∃ f', f = f' + 1 := ⟨f - 1, by omega⟩
    obtain rfl : j = s := by omega
    rw [fX11_appeal_L_L105, if_pos (Int32.le_refl _), i32_p1]
    have b := big j (by omega)
    refine Rt.bind (x_increase hFu h75 hR (by omega)) (fun r hr => hc r a77 hr)
  | succ d ih =>
    intro f j a77 hj hf hR
    obtain ⟨f, rfl⟩ : ∃ f', f = f' + 1 := ⟨f - 1, by omega⟩
    rw [fX11_appeal_L_L105, if_neg (by rw [i32_le (by omega) (by omega) (by omega) (by omega)]; omega)]
    unfold fX11_appeal_L_L128
    rw [i32_p1]
    have b := big (j + 1) (by omega)
    have e : pr w l k W (j + 1) = pr w l k W j * (if j < k then w else l) := rfl
    by_cases c : k ≤ j
    · rw [if_neg (show ¬ j < k by omega)] at e
      refine Rt.ift (by rw [i32_le (by omega) (by omega) (by omega) (by omega)]; omega) ?_
      refine Rt.bind (x_multiply hFu l0 l1 hR (by rw [← e]; omega)) (fun r hr => ih f (j + 1) r (by omega) (by omega) ?_)
      rw [e]; exact hr
    · rw [if_pos (show j < k by omega)] at e
      refine Rt.iff (by rw [i32_le (by omega) (by omega) (by omega) (by omega)]; omega) ?_
      refine Rt.bind (x_multiply hFu w0 w1 hR (by rw [← e]; omega)) (fun r hr => ih f (j + 1) r (by omega) (by omega) ?_)
      rw [e]; exact hr
theorem x_app82_L {Fu : Nat} (hFu : 6000 ≤ Fu) {nh nt ne ns bb q : Nat} {a5 : Nat → Option Nat} {aL1 aL2 aL3 aL4 : Nat → Int32} {ht : Int32} {an : Int64} {a38 : Nat → Int32} {a39 : Nat → Int64} {vot : Int32} {ways : Nat → Int64} {sz : Int32} {w l S W : Int} {s k : Nat} (w0 : 0 ≤ w) (w1 : w ≤ 10000000000000000) (l0 : 0 ≤ l) (l1 : l ≤ 10000000000000000) (W0 : 0 ≤ W) (W1 : W ≤ 10) (S0 : 0 ≤ S) (S1 : S ≤ 100 ^ 45) (hs : s ≤ 5) (hk : k ≤ s) (hW : fX11_ways Fu (i32 (s : Int)) (i32 (k : Int)) = some (i32 W)) {f : Nat} {a75 a77 : Nat → Int64} (h75 : RH S a75) {P : _ → Prop}
    (hc : ∀ (b75 b77 : Nat → Int64), RH (S + pr w l k W s) b75 → Rt (fX11_appeal_L_L82 Fu nh nt ne ns bb q f beasts seats laws inForce tr mh te a5 ht an a38 a39 vot ways b75 b77 aL1 aL2 aL3 aL4 (i32 (s : Int)) sz (i64 w) (i64 l) (i32 ((k + 1 : Nat) : Int))) P) :
    Rt (fX11_appeal_L_L82 Fu nh nt ne ns bb q (f + 1) beasts seats laws inForce tr mh te a5 ht an a38 a39 vot ways a75 a77 aL1 aL2 aL3 aL4 (i32 (s : Int)) sz (i64 w) (i64 l) (i32 (k : Int))) P := by
  rw [fX11_appeal_L_L82, if_neg (by rw [i32_lt (by omega) (by omega) (by omega) (by omega)]; omega), hW]
  refine Rt.eqb rfl ?_
  rw [i32_64 (by omega) (by omega)]
  refine Rt.bind (x_become hFu W0 (by omega)) (fun r hr => ?_)
  exact x_app105_L hFu w0 w1 l0 l1 W0 W1 S0 S1 hs (by omega) h75 hc s Fu 0 r (by omega) (by omega) hr
theorem x_app82e_L {Fu : Nat} (hFu : 6000 ≤ Fu) {nh nt ne ns bb q : Nat} {a5 : Nat → Option Nat} {aL1 aL2 aL3 aL4 : Nat → Int32} {ht : Int32} {an : Int64} {a38 : Nat → Int32} {a39 : Nat → Int64} {vot : Int32} {ways : Nat → Int64} {w l N : Int} {s n : Nat} (hs : s ≤ 5) (hn : n ≤ 8) {f : Nat} {a75 a77 : Nat → Int64} (h75 : RH N a75) (hN : N ≤ 100 ^ (n * s)) :
    Rt (fX11_appeal_L_L82 Fu nh nt ne ns bb q (f + 1) beasts seats laws inForce tr mh te a5 ht an a38 a39 vot ways a75 a77 aL1 aL2 aL3 aL4 (i32 (s : Int)) (i32 (n : Int)) (i64 w) (i64 l) (i32 ((s + 1 : Nat) : Int))) (fun r => r.1 = i32 (N * 1000000 / 100 ^ (n * s))) := by
  obtain ⟨g, hg, ha⟩ := h75
  have t40 : n * s ≤ 8 * 5 := Nat.mul_le_mul hn hs
  rw [fX11_appeal_L_L82, if_pos (by rw [i32_lt (by omega) (by omega) (by omega) (by omega)]; omega), i32_mul, show (n : Int) * (s : Int) = ((n * s : Nat) : Int) by rw [Int.natCast_mul], x_millionths hFu (by omega) ha, mill_val (by omega) hg hN]
  exact Rt.ret rfl
theorem c_appeal_L {Fu : Nat} (hFu : 6000 ≤ Fu) {LO : Option LwS} {nh nt ne ns bb q : Nat} {a5 : Nat → Option Nat} {aL1 aL2 aL3 aL4 : Nat → Int32} (hW : WF y) (hX : RX y beasts meals seats laws inForce tr mh te cases rs ju vo) (hH : HL y LO nh nt ne ns bb q a5 aL1 aL2 aL3 aL4) (ht : Int32) (an : Int64) (a38 : Nat → Int32) (a39 : Nat → Int64) (vot : Int32) (ways : Nat → Int64) (a75 a77 : Nat → Int64) {v : Int} (v1 : -2147483648 ≤ v) (v2 : v ≤ 2147483647) :
    Rt (fX11_appeal_L Fu nh nt ne ns bb q beasts seats laws inForce tr mh te a5 ht an a38 a39 vot ways a75 a77 aL1 aL2 aL3 aL4 (i32 v)) (fun r => r.1 = i32 (if v = 1 ∨ v = 3 ∨ v = 5 then appS (al (bl y LO (y 6).toNat) (y 5).toNat) (100 ^ bcn (y 4).toNat 8 - al (bl y LO (y 6).toNat) (y 5).toNat) (bcn (y 4).toNat 8) v.toNat else -1)) := by
  obtain ⟨s, n, e4, e0, hn, hs1, hs, hb⟩ := hW.seats
  have h5 := hW.quota
  have h6 := hW.hour
  have t1 : te (1 : Int32).toNatClampNeg = i32 (((y 6).toNat : Nat) : Int) := by rw [show (((y 6).toNat : Nat) : Int) = y 6 by omega]; exact hX.2.2.2.2.2.2.1 1 (by omega)
  have t0 : te (0 : Int32).toNatClampNeg = i32 (((y 5).toNat : Nat) : Int) := by rw [show (((y 5).toNat : Nat) : Int) = y 5 by omega]; exact hX.2.2.2.2.2.2.1 0 (by omega)
  have eb : fJ6_bitCount_0f7a4 seats = some (i32 ((bcn (y 4).toNat 8 : Nat) : Int)) := by rw [hX.2.2.1, e4, Int.toNat_natCast]; exact x_bitCount ⟨s, hs⟩
  have bf := bl_fact (y := y) (LO := LO) (h := (y 6).toNat)
  have a := al_le (q := (y 5).toNat) bf.1 bf.2
  have len : (bl y LO (y 6).toNat).length = bcn (y 4).toNat 8 := cl_cnt _ _ 8
  rw [len] at a
  have p2 := pow100 (n := bcn (y 4).toNat 8) (bcn_le _ 8)
  have bl8 := bcn_le (y 4).toNat 8
  have l17 : ∀ s : Nat, s = 1 ∨ s = 3 ∨ s = 5 → Rt (fX11_appeal_L_L17 Fu nh nt ne ns bb q beasts seats laws inForce tr mh te a5 ht an a38 a39 vot ways a75 a77 aL1 aL2 aL3 aL4 (i32 (s : Int))) (fun r => r.1 = i32 (appS (al (bl y LO (y 6).toNat) (y 5).toNat) (100 ^ bcn (y 4).toNat 8 - al (bl y LO (y 6).toNat) (y 5).toNat) (bcn (y 4).toNat 8) s)) := by
    intro s hs3
    unfold fX11_appeal_L_L17
    rw [eb]
    refine Rt.eqb rfl ?_
    rw [gd9 (by decide) (by decide), t1]
    refine Rt.bind (x_tally0_L hFu hW hX hH (by omega) ht an a38 a39 vot ways) (fun r hr => ?_)
    rw [gd9 (by decide) (by decide), t0, x_atLeast hFu hr (by omega)]
    refine Rt.eqb rfl ?_
    rw [x_power hFu (bcn_le _ 8)]
    refine Rt.eqb rfl ?_
    refine Rt.bind (x_become hFu (N := 0) (by omega) (by omega)) (fun r0 hr0 => ?_)
    rw [gz_in (by decide), i64_sub]
    generalize al (bl y LO (y 6).toNat) (y 5).toNat = w at *
    have an := apN_le (P := 100 ^ bcn (y 4).toNat 8) hs3 a.1 (show 0 ≤ 100 ^ bcn (y 4).toNat 8 - w by omega) (by omega)
    have wl := x_ways hFu
    have epow : ((100 : Int) ^ bcn (y 4).toNat 8) ^ s = 100 ^ (bcn (y 4).toNat 8 * s) := by rw [Int.pow_mul]
    rw [epow] at an
    have big : ∀ (k : Nat) (W : Int), 0 ≤ W → W ≤ 10 → 0 ≤ pr w (100 ^ bcn (y 4).toNat 8 - w) k W s ∧ pr w (100 ^ bcn (y 4).toNat 8 - w) k W s ≤ 100 ^ 44 := by
      intro k W W0 W1
      have q := pr_rng (k := k) a.1 (show w ≤ 10000000000000000 by omega) (show 0 ≤ 100 ^ bcn (y 4).toNat 8 - w by omega) (show 100 ^ bcn (y 4).toNat 8 - w ≤ 10000000000000000 by omega) W0 W1 s
      have b : (10 : Int) * 10000000000000000 ^ s ≤ 100 ^ 44 := by
        rcases hs3 with rfl | rfl | rfl <;> decide
      omega
    have c45 : (100 : Int) ^ 44 + 100 ^ 44 + 100 ^ 44 ≤ 100 ^ 45 := by decide
    have c0 : (0 : Int) ≤ 100 ^ 45 := by decide
    obtain ⟨f, rfl⟩ : ∃ f', Fu = f' + 8 := ⟨Fu - 8, by omega⟩
    unfold appS
    rcases hs3 with rfl | rfl | rfl
    · rw [show i32 ((1 : Nat) : Int) / 2 + 1 = i32 ((1 : Nat) : Int) from rfl]
      refine x_app82_L hFu a.1 (by omega) (by omega) (by omega) (W := 1) (by omega) (by omega) (Int.le_refl 0) c0 (by omega) (by omega) wl.1 hr0 (fun b75 b77 h75 => ?_)
      refine x_app82e_L hFu (by omega) (bcn_le _ 8) (N := apN w (100 ^ bcn (y 4).toNat 8 - w) 1) ?_ an.2
      have e : apN w (100 ^ bcn (y 4).toNat 8 - w) 1 = 0 + pr w (100 ^ bcn (y 4).toNat 8 - w) 1 1 1 := by show pr w (100 ^ bcn (y 4).toNat 8 - w) 1 1 1 = _; omega
      rw [e]; exact h75
    · rw [show i32 ((3 : Nat) : Int) / 2 + 1 = i32 ((2 : Nat) : Int) from rfl]
      have g2 := big 2 3 (by omega) (by omega)
      refine x_app82_L hFu a.1 (by omega) (by omega) (by omega) (W := 3) (by omega) (by omega) (Int.le_refl 0) c0 (by omega) (by omega) wl.2.1 hr0 (fun b75 b77 h75 => ?_)
      refine x_app82_L hFu a.1 (by omega) (by omega) (by omega) (W := 1) (by omega) (by omega) (by omega) (by omega) (by omega) (by omega) wl.2.2.1 h75 (fun b75 b77 h75 => ?_)
      exact x_app82e_L hFu (by omega) (bcn_le _ 8) (N := apN w (100 ^ bcn (y 4).toNat 8 - w) 3) h75 an.2
    · rw [show i32 ((5 : Nat) : Int) / 2 + 1 = i32 ((3 : Nat) : Int) from rfl]
      have g3 := big 3 10 (by omega) (by omega)
      have g4 := big 4 5 (by omega) (by omega)
      refine x_app82_L hFu a.1 (by omega) (by omega) (by omega) (W := 10) (by omega) (by omega) (Int.le_refl 0) c0 (by omega) (by omega) wl.2.2.2.1 hr0 (fun b75 b77 h75 => ?_)
      refine x_app82_L hFu a.1 (by omega) (by omega) (by omega) (W := 5) (by omega) (by omega) (by omega) (by omega) (by omega) (by omega) wl.2.2.2.2.1 h75 (fun b75 b77 h75 => ?_)
      refine x_app82_L hFu a.1 (by omega) (by omega) (by omega) (W := 1) (by omega) (by omega) (by omega) (by omega) (by omega) (by omega) wl.2.2.2.2.2 h75 (fun b75 b77 h75 => ?_)
      exact x_app82e_L hFu (by omega) (bcn_le _ 8) (N := apN w (100 ^ bcn (y 4).toNat 8 - w) 5) h75 an.2
  unfold fX11_appeal_L
  by_cases q1 : v = 1
  · subst q1; rw [if_pos (show (1 : Int) = 1 ∨ (1 : Int) = 3 ∨ (1 : Int) = 5 by omega)]; exact Rt.ift rfl (l17 1 (by omega))
  by_cases q3 : v = 3
  · subst q3; rw [if_pos (show (3 : Int) = 1 ∨ (3 : Int) = 3 ∨ (3 : Int) = 5 by omega)]; exact Rt.iff (by decide) (Rt.ift rfl (l17 3 (by omega)))
  by_cases q5 : v = 5
  · subst q5; rw [if_pos (show (5 : Int) = 1 ∨ (5 : Int) = 3 ∨ (5 : Int) = 5 by omega)]; exact Rt.iff (by decide) (Rt.iff (by decide) (Rt.ift rfl (l17 5 (by omega))))
  rw [if_neg (show ¬ (v = 1 ∨ v = 3 ∨ v = 5) by omega)]
  exact Rt.iff (by rw [i32_litN 1, i32_eq (by omega) (by omega) (by omega) (by omega)]; exact q1) (Rt.iff (by rw [i32_litN 3, i32_eq (by omega) (by omega) (by omega) (by omega)]; exact q3) (Rt.iff (by rw [i32_litN 5, i32_eq (by omega) (by omega) (by omega) (by omega)]; exact q5) (Rt.ret rfl)))
end APX
