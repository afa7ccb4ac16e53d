/-! ===== the greatest common divisor ===== -/
theorem emod_sub (a b : Nat) : ((a : Int) - (a : Int) / (b : Int) * (b : Int)) = ((a % b : Nat) : Int) := by
  have h := Int.mul_ediv_add_emod (a : Int) (b : Int)
  rw [Int.natCast_emod, Int.mul_comm]
  omega
theorem i64_remN {a b : Nat} (ha : a < 4611686018427387904) (hb : b < 4611686018427387904) : i64 (a : Int) - i64 (a : Int) / i64 (b : Int) * i64 (b : Int) = i64 ((a % b : Nat) : Int) := by
  rw [i64_div (by omega) (by omega) (by omega) (by omega), i64_mul, i64_sub, emod_sub]
theorem gcd_step (a b : Nat) : Nat.gcd a b = Nat.gcd b (a % b) := by
  rw [Nat.gcd_comm a b, Nat.gcd_rec b a, Nat.gcd_comm]
theorem half_mod {b r : Nat} (hr : 0 < r) (h : r < b) : b % r < (b + 1) / 2 := by
  by_cases c : r ≤ b / 2
  · have := Nat.mod_lt b hr; omega
  · have e : b % r = b - r := by
      rw [Nat.mod_eq_sub_mod (by omega), Nat.mod_eq_of_lt (by omega)]
    omega
theorem x_gcdL {Fu : Nat} : ∀ (n a b k f : Nat), a < 4611686018427387904 → b < 4611686018427387904 → b < 2 ^ n → k + 2 * n ≤ 900 → 2 * n < f → fX3_commonDivisor_L9 Fu f (i64 (a : Int)) (i64 (b : Int)) (i32 (k : Int)) = some (i64 ((Nat.gcd a b : Nat) : Int)) := by
  have e0 : ∀ b : Nat, b < 4611686018427387904 → ((i64 (b : Int) = 0) ↔ b = 0) := by
    intro b hb
    rw [i64_litN 0, i64_eq (by omega) (by omega) (by omega) (by omega)]; omega
  intro n
  induction n with
  | zero =>
    intro a b k f ha hb hn hk hf
    obtain ⟨f, rfl⟩ : ∃ f', f = f' + 1 := ⟨f - 1, by omega⟩
    obtain rfl : b = 0 := by omega
    rw [fX3_commonDivisor_L9, if_neg (by rw [i32_litN 1000, i32_le (by omega) (by omega) (by omega) (by omega)]; omega), if_pos ((e0 0 (by omega)).mpr rfl), Nat.gcd_zero_right]
  | succ n ih =>
    intro a b k f ha hb hn hk hf
    obtain ⟨f, rfl⟩ : ∃ f', f = f' + 2 := ⟨f - 2, by omega⟩
    rw [show f + 2 = (f + 1) + 1 from rfl, fX3_commonDivisor_L9, if_neg (by rw [i32_litN 1000, i32_le (by omega) (by omega) (by omega) (by omega)]; omega)]
    by_cases cb : b = 0
    · rw [if_pos ((e0 b hb).mpr cb), cb, Nat.gcd_zero_right]
    · rw [if_neg (fun q => cb ((e0 b hb).mp q)), gzl_in (fun q => cb ((e0 b hb).mp q)), i64_remN ha hb, i32_p1]
      have hr : a % b < b := Nat.mod_lt a (by omega)
      rw [fX3_commonDivisor_L9, if_neg (by rw [i32_litN 1000, i32_le (by omega) (by omega) (by omega) (by omega)]; omega), gcd_step a b]
      by_cases cr : a % b = 0
      · rw [if_pos ((e0 _ (by omega)).mpr cr), cr, Nat.gcd_zero_right]
      · rw [if_neg (fun q => cr ((e0 _ (by omega)).mp q)), gzl_in (fun q => cr ((e0 _ (by omega)).mp q)), i64_remN hb (by omega), i32_p1, gcd_step b (a % b)]
        have hh := half_mod (b := b) (r := a % b) (by omega) hr
        have h2 : b % (a % b) < a % b := Nat.mod_lt b (by omega)
        rw [Nat.pow_succ] at hn
        exact ih (a % b) (b % (a % b)) (k + 1 + 1) f (by omega) (by omega) (by omega) (by omega) (by omega)
theorem x_gcd {Fu : Nat} (hFu : 6000 ≤ Fu) {a b : Nat} (ha : a < 4611686018427387904) (hb : b < 4611686018427387904) : fX3_commonDivisor Fu (i64 (a : Int)) (i64 (b : Int)) = some (i64 ((Nat.gcd a b : Nat) : Int)) :=
  x_gcdL 62 a b 0 Fu ha hb (by omega) (by omega) (by omega)
theorem v_gcdL {Fu : Nat} : ∀ (n a b f : Nat), a < 4611686018427387904 → b < 4611686018427387904 → b < 2 ^ n → 2 * n < f → fX12_common_L6 Fu f (i64 (a : Int)) (i64 (b : Int)) = some (i64 ((Nat.gcd a b : Nat) : Int)) := by
  have e0 : ∀ b : Nat, b < 4611686018427387904 → ((i64 (b : Int) = 0) ↔ b = 0) := by
    intro b hb
    rw [i64_litN 0, i64_eq (by omega) (by omega) (by omega) (by omega)]; omega
  intro n
  induction n with
  | zero =>
    intro a b f ha hb hn hf
    obtain ⟨f, rfl⟩ : ∃ f', f = f' + 1 := ⟨f - 1, by omega⟩
    obtain rfl : b = 0 := by omega
    rw [fX12_common_L6, if_pos ((e0 0 (by omega)).mpr rfl), Nat.gcd_zero_right]
  | succ n ih =>
    intro a b f ha hb hn hf
    obtain ⟨f, rfl⟩ : ∃ f', f = f' + 2 := ⟨f - 2, by omega⟩
    rw [show f + 2 = (f + 1) + 1 from rfl, fX12_common_L6]
    by_cases cb : b = 0
    · rw [if_pos ((e0 b hb).mpr cb), cb, Nat.gcd_zero_right]
    · rw [if_neg (fun q => cb ((e0 b hb).mp q)), gzl_in (fun q => cb ((e0 b hb).mp q)), i64_remN ha hb]
      have hr : a % b < b := Nat.mod_lt a (by omega)
      rw [fX12_common_L6, gcd_step a b]
      by_cases cr : a % b = 0
      · rw [if_pos ((e0 _ (by omega)).mpr cr), cr, Nat.gcd_zero_right]
      · rw [if_neg (fun q => cr ((e0 _ (by omega)).mp q)), gzl_in (fun q => cr ((e0 _ (by omega)).mp q)), i64_remN hb (by omega), gcd_step b (a % b)]
        have hh := half_mod (b := b) (r := a % b) (by omega) hr
        have h2 : b % (a % b) < a % b := Nat.mod_lt b (by omega)
        rw [Nat.pow_succ] at hn
        exact ih (a % b) (b % (a % b)) f (by omega) (by omega) (by omega) (by omega)
theorem v_gcd {Fu : Nat} (hFu : 6000 ≤ Fu) {a b : Nat} (ha : a < 4611686018427387904) (hb : b < 4611686018427387904) : fX12_common Fu (i64 (a : Int)) (i64 (b : Int)) = some (i64 ((Nat.gcd a b : Nat) : Int)) :=
  v_gcdL 62 a b Fu ha hb (by omega) (by omega)
/-! ===== what a verdict is worth ===== -/
def zS (y : Nat → Int) (bs vs : Nat) (but : Int) : Nat → Nat
  | 0 => (y 10).toNat
  | b + 1 => if bs.testBit b then zS y bs vs but b * (if vs.testBit b then tms y 0 b but (y 11).toNat + 1 else tms y 1 b but (y 11).toNat + 1) else zS y bs vs but b
def oS (y : Nat → Int) (bs vs : Nat) (but : Int) : Nat → Nat
  | 0 => 100 - (y 10).toNat
  | b + 1 => if bs.testBit b then oS y bs vs but b * (if vs.testBit b then tms y 1 b but (y 11).toNat + 1 else tms y 0 b but (y 11).toNat + 1) else oS y bs vs but b
section WEIGH
variable {y : Nat → Int} {row : Nat → Int32} {beasts meals seats laws inForce cases : Int32} {tr mh te rs ju vo : Nat → Int32} {Fu : Nat}
theorem WF.prior (hW : WF y) : 0 ≤ y 10 ∧ y 10 ≤ 100 := hW.term (t := 5) (by omega)
theorem tm21 (hW : WF y) {w b : Nat} {but : Int} : tms y w b but (y 11).toNat + 1 ≤ 21 := by
  have h11 := hW.2.2.2.2.2.2.1
  have := tms_le y w b but (y 11).toNat
  omega
theorem zo_le (hW : WF y) {bs vs : Nat} {but : Int} : ∀ b, zS y bs vs but b ≤ 100 * 21 ^ b ∧ oS y bs vs but b ≤ 100 * 21 ^ b ∧ 0 < zS y bs vs but b + oS y bs vs but b := by
  have hp := hW.prior
  have key : ∀ b, zS y bs vs but b ≤ 100 * 21 ^ b ∧ oS y bs vs but b ≤ 100 * 21 ^ b ∧ ((0 < (y 10).toNat → 0 < zS y bs vs but b) ∧ ((y 10).toNat = 0 → 0 < oS y bs vs but b)) := by
    intro b
    induction b with
    | zero =>
      refine ⟨by show (y 10).toNat ≤ 100 * 21 ^ 0; omega, by show 100 - (y 10).toNat ≤ 100 * 21 ^ 0; omega, fun h => h, fun h => by show 0 < 100 - (y 10).toNat; omega⟩
    | succ b ih =>
      have t0 := tm21 hW (w := 0) (b := b) (but := but)
      have t1 := tm21 hW (w := 1) (b := b) (but := but)
      have e : 100 * 21 ^ (b + 1) = (100 * 21 ^ b) * 21 := by rw [Nat.pow_succ, Nat.mul_assoc]
      unfold zS oS
      rw [e]
      by_cases c : bs.testBit b = true
      · rw [if_pos c, if_pos c]
        refine ⟨Nat.mul_le_mul ih.1 (by split <;> omega), Nat.mul_le_mul ih.2.1 (by split <;> omega), fun h => Nat.mul_pos (ih.2.2.1 h) (by split <;> omega), fun h => Nat.mul_pos (ih.2.2.2 h) (by split <;> omega)⟩
      · rw [if_neg c, if_neg c]
        exact ⟨by omega, by omega, ih.2.2⟩
  intro b
  have k := key b
  refine ⟨k.1, k.2.1, ?_⟩
  by_cases h : (y 10).toNat = 0
  · have := k.2.2.2 h; omega
  · have := k.2.2.1 (by omega); omega
/-- upper and lower number -/
def prU (y : Nat → Int) (bs vs : Nat) (but : Int) : Int := ((zS y bs vs but 8 / Nat.gcd (zS y bs vs but 8) (zS y bs vs but 8 + oS y bs vs but 8) : Nat) : Int)
def prD (y : Nat → Int) (bs vs : Nat) (but : Int) : Int := (((zS y bs vs but 8 + oS y bs vs but 8) / Nat.gcd (zS y bs vs but 8) (zS y bs vs but 8 + oS y bs vs but 8) : Nat) : Int)
theorem i64_divN {a b : Nat} (ha : a < 4611686018427387904) (hb : b < 4611686018427387904) : i64 (a : Int) / i64 (b : Int) = i64 ((a / b : Nat) : Int) := by
  rw [i64_div (by omega) (by omega) (by omega) (by omega), Int.natCast_ediv]
theorem x_weighL (hFu : 6000 ≤ Fu) (hW : WF y) (hX : RX y beasts meals seats laws inForce tr mh te cases rs ju vo) {bs vs : Nat} (hb : bs < 256) (hv : vs < 256) {but : Int} (b1 : -1 ≤ but) (b2 : but ≤ 20) {u l : Int64} : ∀ (d f b : Nat), b + d = 8 → d < f → fX3_weigh_L20 Fu f te cases rs ju vo u l (i32 (bs : Int)) (i32 (vs : Int)) (i32 but) (i64 ((zS y bs vs but b : Nat) : Int)) (i64 ((oS y bs vs but b : Nat) : Int)) (i32 (b : Int)) = some (i64 (prU y bs vs but), i64 (prD y bs vs but)) := by
  intro d
  induction d with
  | zero =>
    intro f b hb hf
    obtain ⟨f, rfl⟩ : ∃ f', f = f' + 1 := ⟨f - 1, by omega⟩
    obtain rfl : b = 8 := by omega
    have zo := zo_le hW (bs := bs) (vs := vs) (but := but) 8
    have p8 : 100 * 21 ^ 8 = 3782285936100 := by decide
    rw [p8] at zo
    have hg : 0 < Nat.gcd (zS y bs vs but 8) (zS y bs vs but 8 + oS y bs vs but 8) := Nat.gcd_pos_of_pos_right _ (by omega)
    have hg2 : Nat.gcd (zS y bs vs but 8) (zS y bs vs but 8 + oS y bs vs but 8) ≤ zS y bs vs but 8 + oS y bs vs but 8 := Nat.gcd_le_right _ (by omega)
    rw [fX3_weigh_L20, if_pos (by decide), i64_add, show ((zS y bs vs but 8 : Nat) : Int) + ((oS y bs vs but 8 : Nat) : Int) = ((zS y bs vs but 8 + oS y bs vs but 8 : Nat) : Int) by omega, x_gcd hFu (by omega) (by omega), Option.bind_some]
    have ei : (if i64 ((Nat.gcd (zS y bs vs but 8) (zS y bs vs but 8 + oS y bs vs but 8) : Nat) : Int) < 1 then (1 : Int64) else i64 ((Nat.gcd (zS y bs vs but 8) (zS y bs vs but 8 + oS y bs vs but 8) : Nat) : Int)) = i64 ((Nat.gcd (zS y bs vs but 8) (zS y bs vs but 8 + oS y bs vs but 8) : Nat) : Int) := by
      rw [if_neg (by rw [i64_litN 1, i64_lt (by omega) (by omega) (by omega) (by omega)]; omega)]
    rw [ei, gzl_ok (by omega) (by omega) (by omega), gzl_ok (by omega) (by omega) (by omega), i64_divN (by omega) (by omega), i64_divN (by omega) (by omega)]
    rfl
  | succ d ih =>
    intro f b hb hf
    obtain ⟨f, rfl⟩ : ∃ f', f = f' + 1 := ⟨f - 1, by omega⟩
    have t0 := tm21 hW (w := 0) (b := b) (but := but)
    have t1 := tm21 hW (w := 1) (b := b) (but := but)
    have e0 : fX2_times Fu cases rs ju vo (i32 (b : Int)) 0 (i32 but) = some (i32 ((tms y 0 b but (y 11).toNat : Nat) : Int)) := by
      have h := x_times (w := 0) (b := b) hFu hW hX (by omega) (by omega) b1 b2
      exact h
    have e1 : fX2_times Fu cases rs ju vo (i32 (b : Int)) 1 (i32 but) = some (i32 ((tms y 1 b but (y 11).toNat : Nat) : Int)) := by
      have h := x_times (w := 1) (b := b) hFu hW hX (by omega) (by omega) b1 b2
      exact h
    rw [fX3_weigh_L20, if_neg (by rw [i32_litN 8, i32_le (by omega) (by omega) (by omega) (by omega)]; omega), i32_bit (by omega) (by omega), i32_bit (by omega) (by omega), e0, e1, Option.bind_some, Option.bind_some]
    have go := ih f (b + 1) (by omega) (by omega)
    have ez : zS y bs vs but (b + 1) = if bs.testBit b then zS y bs vs but b * (if vs.testBit b then tms y 0 b but (y 11).toNat + 1 else tms y 1 b but (y 11).toNat + 1) else zS y bs vs but b := rfl
    have eo : oS y bs vs but (b + 1) = if bs.testBit b then oS y bs vs but b * (if vs.testBit b then tms y 1 b but (y 11).toNat + 1 else tms y 0 b but (y 11).toNat + 1) else oS y bs vs but b := rfl
    unfold fX3_weigh_L84 fX3_weigh_L102 fX3_weigh_L121
    rw [i32_p1, i32_p1, i32_p1, i32_64 (by omega) (by omega), i32_64 (by omega) (by omega), i64_mul, i64_mul, i64_mul, i64_mul]
    rw [← Int.natCast_mul, ← Int.natCast_mul, ← Int.natCast_mul, ← Int.natCast_mul]
    by_cases c : bs.testBit b = true
    · rw [if_pos c] at ez eo
      rw [if_pos c, if_pos (show i32 1 = 1 from rfl)]
      by_cases c2 : vs.testBit b = true
      · rw [if_pos c2] at ez eo
        rw [if_pos c2, if_pos (show i32 1 = 1 from rfl), if_neg (by decide), if_neg (by decide)]
        rw [ez, eo] at go; exact go
      · rw [if_neg c2] at ez eo
        rw [if_neg c2, if_neg (by decide), if_pos rfl, if_pos rfl]
        rw [ez, eo] at go; exact go
    · rw [if_neg c] at ez eo
      rw [if_neg c, if_neg (by decide)]
      rw [ez, eo] at go; exact go
theorem x_weigh (hFu : 6000 ≤ Fu) (hW : WF y) (hX : RX y beasts meals seats laws inForce tr mh te cases rs ju vo) {bs vs : Nat} (hb : bs < 256) (hv : vs < 256) {but : Int} (b1 : -1 ≤ but) (b2 : but ≤ 20) {u l : Int64} : fX3_weigh Fu te cases rs ju vo u l (i32 (bs : Int)) (i32 (vs : Int)) (i32 but) = some (i64 (prU y bs vs but), i64 (prD y bs vs but)) := by
  have hp := hW.prior
  have e5 : te (5 : Int32).toNatClampNeg = i32 (y 10) := hX.2.2.2.2.2.2.1 5 (by omega)
  unfold fX3_weigh
  rw [gd9 (by decide) (by decide), e5, i32_64 (by omega) (by omega), i64_litN 100, i64_sub]
  have go := x_weighL (u := u) (l := l) hFu hW hX hb hv b1 b2 8 Fu 0 (by omega) (by omega)
  rw [show ((zS y bs vs but 0 : Nat) : Int) = y 10 by show (((y 10).toNat : Nat) : Int) = y 10; omega, show ((oS y bs vs but 0 : Nat) : Int) = ((100 : Nat) : Int) - y 10 by show ((100 - (y 10).toNat : Nat) : Int) = _; omega] at go
  exact go
theorem v_proofL (hFu : 6000 ≤ Fu) (hM : RM y row) (hW : WF y) {bs vs : Nat} (hb : bs < 256) (hv : vs < 256) {but : Int} (b1 : -1 ≤ but) (b2 : but ≤ 20) {w : Int} (hw : w = 0 ∨ w = 1) : ∀ (d f b : Nat), b + d = 8 → d < f → fX12_proofOf_L21 Fu f row (i32 but) (i32 (bs : Int)) (i32 (vs : Int)) (i32 w) (i64 ((zS y bs vs but b : Nat) : Int)) (i64 ((oS y bs vs but b : Nat) : Int)) (i32 (b : Int)) = some (i64 (if w = 0 then prU y bs vs but else prD y bs vs but)) := by
  intro d
  induction d with
  | zero =>
    intro f b hb hf
    obtain ⟨f, rfl⟩ : ∃ f', f = f' + 1 := ⟨f - 1, by omega⟩
    obtain rfl : b = 8 := by omega
    have zo := zo_le hW (bs := bs) (vs := vs) (but := but) 8
    have p8 : 100 * 21 ^ 8 = 3782285936100 := by decide
    rw [p8] at zo
    have hg : 0 < Nat.gcd (zS y bs vs but 8) (zS y bs vs but 8 + oS y bs vs but 8) := Nat.gcd_pos_of_pos_right _ (by omega)
    have hg2 : Nat.gcd (zS y bs vs but 8) (zS y bs vs but 8 + oS y bs vs but 8) ≤ zS y bs vs but 8 + oS y bs vs but 8 := Nat.gcd_le_right _ (by omega)
    rw [fX12_proofOf_L21, if_pos (by decide), i64_add, show ((zS y bs vs but 8 : Nat) : Int) + ((oS y bs vs but 8 : Nat) : Int) = ((zS y bs vs but 8 + oS y bs vs but 8 : Nat) : Int) by omega, v_gcd hFu (by omega) (by omega), Option.bind_some, Nat.gcd_comm (zS y bs vs but 8 + oS y bs vs but 8)]
    rw [gzl_ok (by omega) (by omega) (by omega), gzl_ok (by omega) (by omega) (by omega), i64_divN (by omega) (by omega), i64_divN (by omega) (by omega)]
    rcases hw with rfl | rfl
    · rw [if_pos (show i32 0 = 0 from rfl)]; rfl
    · rw [if_neg (show ¬ i32 1 = 0 by decide)]; rfl
  | succ d ih =>
    intro f b hb hf
    obtain ⟨f, rfl⟩ : ∃ f', f = f' + 1 := ⟨f - 1, by omega⟩
    have t0 := tm21 hW (w := 0) (b := b) (but := but)
    have t1 := tm21 hW (w := 1) (b := b) (but := but)
    rw [fX12_proofOf_L21, if_neg (by rw [i32_litN 8, i32_le (by omega) (by omega) (by omega) (by omega)]; omega), v_is (by omega) (by omega), v_is (by omega) (by omega), v_rights hFu hM hW (by omega) b1 b2, v_wrongs hFu hM hW (by omega) b1 b2, Option.bind_some, Option.bind_some, Option.bind_some, Option.bind_some]
    have go := ih f (b + 1) (by omega) (by omega)
    have ez : zS y bs vs but (b + 1) = if bs.testBit b then zS y bs vs but b * (if vs.testBit b then tms y 0 b but (y 11).toNat + 1 else tms y 1 b but (y 11).toNat + 1) else zS y bs vs but b := rfl
    have eo : oS y bs vs but (b + 1) = if bs.testBit b then oS y bs vs but b * (if vs.testBit b then tms y 1 b but (y 11).toNat + 1 else tms y 0 b but (y 11).toNat + 1) else oS y bs vs but b := rfl
    unfold fX12_proofOf_L77 fX12_proofOf_L100
    rw [v_is (by omega) (by omega), Option.bind_some, Option.bind_some, i32_p1, i32_p1, i32_p1, i32_64 (by omega) (by omega), i32_64 (by omega) (by omega), i64_mul, i64_mul, i64_mul, i64_mul]
    rw [← Int.natCast_mul, ← Int.natCast_mul, ← Int.natCast_mul, ← Int.natCast_mul]
    by_cases c : bs.testBit b = true
    · rw [if_pos c] at ez eo
      rw [if_neg (show ¬ bI (bs.testBit b = true) = 0 by rw [bI_0]; exact fun q => q c)]
      by_cases c2 : vs.testBit b = true
      · rw [if_pos c2] at ez eo
        have n2 : ¬ bI (vs.testBit b = true) = 0 := by rw [bI_0]; exact fun q => q c2
        rw [if_neg n2, if_neg n2]
        rw [ez, eo] at go; exact go
      · rw [if_neg c2] at ez eo
        have n2 : bI (vs.testBit b = true) = 0 := by rw [bI_0]; exact c2
        rw [if_pos n2, if_pos n2]
        rw [ez, eo] at go; exact go
    · rw [if_neg c] at ez eo
      rw [if_pos (show bI (bs.testBit b = true) = 0 by rw [bI_0]; exact c)]
      rw [ez, eo] at go; exact go
theorem v_proofOf (hFu : 6000 ≤ Fu) (hM : RM y row) (hW : WF y) {bs vs : Nat} (hb : bs < 256) (hv : vs < 256) {but : Int} (b1 : -1 ≤ but) (b2 : but ≤ 20) {w : Int} (hw : w = 0 ∨ w = 1) : fX12_proofOf Fu row (i32 but) (i32 (bs : Int)) (i32 (vs : Int)) (i32 w) = some (i64 (if w = 0 then prU y bs vs but else prD y bs vs but)) := by
  have hp := hW.prior
  unfold fX12_proofOf
  rw [gd9 (by decide) (by decide), i32_nn9 (by decide), hM 10 (by omega), i32_64 (by omega) (by omega), i64_litN 100, i64_sub]
  have go := v_proofL hFu hM hW hb hv b1 b2 hw 8 Fu 0 (by omega) (by omega)
  rw [show ((zS y bs vs but 0 : Nat) : Int) = y 10 by show (((y 10).toNat : Nat) : Int) = y 10; omega, show ((oS y bs vs but 0 : Nat) : Int) = ((100 : Nat) : Int) - y 10 by show ((100 - (y 10).toNat : Nat) : Int) = _; omega] at go
  exact go
def proofS (y : Nat → Int) (b v w : Int) : Int := if (0 ≤ b ∧ b ≤ 255) ∧ (0 ≤ v ∧ v.toNat &&& b.toNat = v.toNat) ∧ (0 ≤ w ∧ w ≤ 1) then (if w = 0 then prU y b.toNat v.toNat (-1) else prD y b.toNat v.toNat (-1)) else -1
/-- votes that are of those -/
theorem sub_of {b v : Int} (b0 : 0 ≤ b) (b1 : b ≤ 255) (v1 : -2147483648 ≤ v) (v2 : v ≤ 2147483647) : (i32 v &&& (i32 b ^^^ (-1 : Int32)) = 0) ↔ (0 ≤ v ∧ v.toNat &&& b.toNat = v.toNat) := by
  obtain ⟨b, rfl⟩ := Int.eq_ofNat_of_zero_le b0
  rw [i32_nn]
  constructor
  · intro h
    obtain ⟨a, h1, h2, h3⟩ := i32_sub_of (by omega) h
    rw [i32_eq (by omega) (by omega) (by omega) (by omega)] at h3
    subst h3
    exact ⟨by omega, by rw [Int.toNat_natCast, Int.toNat_natCast]; exact h2⟩
  · rintro ⟨h1, h2⟩
    obtain ⟨v, rfl⟩ := Int.eq_ofNat_of_zero_le h1
    rw [Int.toNat_natCast, Int.toNat_natCast] at h2
    rw [i32_and, h2]
theorem and_le255 {b v : Int} (b1 : b ≤ 255) (h : v.toNat &&& b.toNat = v.toNat) : v ≤ 255 := by
  have : v.toNat &&& b.toNat ≤ b.toNat := Nat.and_le_right
  omega
theorem m_proof (hFu : 6000 ≤ Fu) (hM : RM y row) (hW : WF y) {th : Int32} {b v w : Int} (b1 : -2147483648 ≤ b) (b2 : b ≤ 2147483647) (v1 : -2147483648 ≤ v) (v2 : v ≤ 2147483647) (w1 : -2147483648 ≤ w) (w2 : w ≤ 2147483647) :
    Rt (fX12_proof Fu th row (-1 : Int32) (i32 b) (i32 v) (i32 w)) (fun r => r.1 = i64 (proofS y b v w)) := by
  have eN : ¬ ((0 ≤ b ∧ b ≤ 255) ∧ (0 ≤ v ∧ v.toNat &&& b.toNat = v.toNat) ∧ (0 ≤ w ∧ w ≤ 1)) → proofS y b v w = -1 := fun q => if_neg q
  have eY : ((0 ≤ b ∧ b ≤ 255) ∧ (0 ≤ v ∧ v.toNat &&& b.toNat = v.toNat) ∧ (0 ≤ w ∧ w ≤ 1)) → proofS y b v w = (if w = 0 then prU y b.toNat v.toNat (-1) else prD y b.toNat v.toNat (-1)) := fun q => if_pos q
  unfold fX12_proof
  simp (disch := omega) only [i32_64, i64_lit, v_in]
  refine Rt.eqb rfl ?_
  by_cases cb : 0 ≤ b ∧ b ≤ 255
  · refine Rt.iff (by rw [bI_0]; exact fun q => q cb) (Rt.eqb rfl ?_)
    have so := sub_of cb.1 cb.2 v1 v2
    by_cases cv : 0 ≤ v ∧ v ≤ 255
    · refine Rt.iff (by rw [bI_0]; exact fun q => q cv) ?_
      by_cases cs : 0 ≤ v ∧ v.toNat &&& b.toNat = v.toNat
      · refine Rt.ift (so.mpr cs) (Rt.eqb rfl ?_)
        by_cases cw : 0 ≤ w ∧ w ≤ 1
        · refine Rt.iff (by rw [bI_0]; exact fun q => q cw) ?_
          rw [eY ⟨cb, cs, cw⟩]
          obtain ⟨b, rfl⟩ := Int.eq_ofNat_of_zero_le cb.1
          obtain ⟨v, rfl⟩ := Int.eq_ofNat_of_zero_le cv.1
          have := v_proofOf hFu hM hW (bs := b) (vs := v) (by omega) (by omega) (but := -1) (by omega) (by omega) (w := w) (by omega)
          rw [show (-1 : Int32) = i32 (-1) from rfl, this]
          exact Rt.ret rfl
        · refine Rt.ift (by rw [bI_0]; exact cw) ?_
          rw [eN (fun q => cw q.2.2)]; exact Rt.ret rfl
      · refine Rt.iff (fun q => cs (so.mp q)) ?_
        rw [eN (fun q => cs q.2.1)]; exact Rt.ret rfl
    · refine Rt.ift (by rw [bI_0]; exact cv) ?_
      rw [eN (fun q => cv ⟨q.2.1.1, and_le255 cb.2 q.2.1.2⟩)]; exact Rt.ret rfl
  · refine Rt.ift (by rw [bI_0]; exact cb) ?_
    rw [eN (fun q => cb q.1)]; exact Rt.ret rfl
theorem x_canJudge {s b v : Int} (s1 : -2147483648 ≤ s) (s2 : s ≤ 2147483647) (b1 : -2147483648 ≤ b) (b2 : b ≤ 2147483647) (v1 : -2147483648 ≤ v) (v2 : v ≤ 2147483647) : fX11_canJudge (i32 s) (i32 b) (i32 v) = some (bI ((0 ≤ s ∧ s ≤ 1) ∧ (0 ≤ b ∧ b ≤ 255) ∧ (0 ≤ v ∧ v.toNat &&& b.toNat = v.toNat))) := by
  unfold fX11_canJudge fX11_canJudge_L30
  rw [x_isSide s s1 s2, Option.bind_some]
  unfold bI
  by_cases cs : 0 ≤ s ∧ s ≤ 1
  · rw [if_pos cs, if_neg (show ¬ (1 : Int32) = 0 by decide)]
    by_cases cb : 0 ≤ b ∧ b ≤ 255
    · have so := sub_of cb.1 cb.2 v1 v2
      rw [if_neg (by rw [i32_litN 0, i32_lt (by omega) (by omega) (by omega) (by omega)]; omega), if_neg (by rw [i32_litN 256, i32_le (by omega) (by omega) (by omega) (by omega)]; omega)]
      by_cases cv : 0 ≤ v ∧ v.toNat &&& b.toNat = v.toNat
      · rw [if_pos (so.mpr cv), if_pos ⟨cs, cb, cv⟩]
      · rw [if_neg (fun q => cv (so.mp q)), if_neg (show ¬ ((0 ≤ s ∧ s ≤ 1) ∧ (0 ≤ b ∧ b ≤ 255) ∧ (0 ≤ v ∧ v.toNat &&& b.toNat = v.toNat)) from fun q => cv q.2.2)]
    · rw [if_neg (show ¬ ((0 ≤ s ∧ s ≤ 1) ∧ (0 ≤ b ∧ b ≤ 255) ∧ (0 ≤ v ∧ v.toNat &&& b.toNat = v.toNat)) from fun q => cb q.2.1)]
      by_cases c : b < 0
      · rw [if_pos (by rw [i32_litN 0, i32_lt (by omega) (by omega) (by omega) (by omega)]; omega)]
      · rw [if_neg (by rw [i32_litN 0, i32_lt (by omega) (by omega) (by omega) (by omega)]; omega), if_pos (by rw [i32_litN 256, i32_le (by omega) (by omega) (by omega) (by omega)]; omega)]
  · rw [if_neg cs, if_pos rfl, if_neg (show ¬ ((0 ≤ s ∧ s ≤ 1) ∧ (0 ≤ b ∧ b ≤ 255) ∧ (0 ≤ v ∧ v.toNat &&& b.toNat = v.toNat)) from fun q => cs q.1)]
theorem c_proof (hFu : 6000 ≤ Fu) (hW : WF y) (hX : RX y beasts meals seats laws inForce tr mh te cases rs ju vo) {u l : Int64} {b v w : Int} (b1 : -2147483648 ≤ b) (b2 : b ≤ 2147483647) (v1 : -2147483648 ≤ v) (v2 : v ≤ 2147483647) (w1 : -2147483648 ≤ w) (w2 : w ≤ 2147483647) :
    Rt (fX11_proof Fu te cases rs ju vo u l (i32 b) (i32 v) (i32 w)) (fun r => r.1 = i64 (proofS y b v w)) := by
  have eN : ¬ ((0 ≤ b ∧ b ≤ 255) ∧ (0 ≤ v ∧ v.toNat &&& b.toNat = v.toNat) ∧ (0 ≤ w ∧ w ≤ 1)) → proofS y b v w = -1 := fun q => if_neg q
  have eY : ((0 ≤ b ∧ b ≤ 255) ∧ (0 ≤ v ∧ v.toNat &&& b.toNat = v.toNat) ∧ (0 ≤ w ∧ w ≤ 1)) → proofS y b v w = (if w = 0 then prU y b.toNat v.toNat (-1) else prD y b.toNat v.toNat (-1)) := fun q => if_pos q
  unfold fX11_proof
  rw [show (0 : Int32) = i32 0 from rfl, x_canJudge (s := 0) (by omega) (by omega) b1 b2 v1 v2, x_isEither w w1 w2]
  refine Rt.eqb rfl ?_
  by_cases c : (0 ≤ b ∧ b ≤ 255) ∧ (0 ≤ v ∧ v.toNat &&& b.toNat = v.toNat)
  · refine Rt.iff (by rw [bI_0']; exact fun q => q ⟨by omega, c⟩) (Rt.eqb rfl ?_)
    by_cases cw : 0 ≤ w ∧ w ≤ 1
    · refine Rt.iff (by rw [bI_0']; exact fun q => q cw) ?_
      rw [eY ⟨c.1, c.2, cw⟩]
      have v255 := and_le255 c.1.2 c.2.2
      obtain ⟨b, rfl⟩ := Int.eq_ofNat_of_zero_le c.1.1
      obtain ⟨v, rfl⟩ := Int.eq_ofNat_of_zero_le c.2.1
      have := x_weigh (u := u) (l := l) hFu hW hX (bs := b) (vs := v) (by omega) (by omega) (but := -1) (by omega) (by omega)
      rw [show (-1 : Int32) = i32 (-1) from rfl, this]
      refine Rt.eqb rfl ?_
      by_cases c0 : w = 0
      · subst c0; exact Rt.ift rfl (Rt.ret rfl)
      · obtain rfl : w = 1 := by omega
        exact Rt.iff (by decide) (Rt.ret rfl)
    · refine Rt.ift (by rw [bI_0']; exact cw) ?_
      rw [eN (fun q => cw q.2.2)]; exact Rt.ret rfl
  · refine Rt.ift (by rw [bI_0']; exact fun q => c q.2) ?_
    rw [eN (fun q => c ⟨q.1, q.2.1⟩)]; exact Rt.ret rfl
def againS (y : Nat → Int) (k w : Int) : Int := if (0 ≤ k ∧ k < y 11) ∧ (0 ≤ w ∧ w ≤ 1) then (if w = 0 then prU y (jb y k.toNat) (vb y k.toNat) k else prD y (jb y k.toNat) (vb y k.toNat) k) else -1
theorem m_again (hFu : 6000 ≤ Fu) (hM : RM y row) (hW : WF y) {th : Int32} {k w : Int} (b1 : -2147483648 ≤ k) (b2 : k ≤ 2147483647) (w1 : -2147483648 ≤ w) (w2 : w ≤ 2147483647) :
    Rt (fX12_again Fu th row (-1 : Int32) (i32 k) (i32 w)) (fun r => r.1 = i64 (againS y k w) ∧ r.2.2 = -1) := by
  have h11 := hW.2.2.2.2.2.2.1
  have eN : ¬ ((0 ≤ k ∧ k < y 11) ∧ (0 ≤ w ∧ w ≤ 1)) → againS y k w = -1 := fun q => if_neg q
  have eY : ((0 ≤ k ∧ k < y 11) ∧ (0 ≤ w ∧ w ≤ 1)) → againS y k w = (if w = 0 then prU y (jb y k.toNat) (vb y k.toNat) k else prD y (jb y k.toNat) (vb y k.toNat) k) := fun q => if_pos q
  unfold fX12_again
  rw [gd9 (by decide) (by decide), show row (11 : Int32).toNatClampNeg = i32 (y 11) from hM 11 (by omega)]
  simp (disch := omega) only [i32_64, i64_lit, i64_sub, v_in]
  refine Rt.eqb rfl ?_
  by_cases cb : 0 ≤ k ∧ k < y 11
  · refine Rt.iff (by rw [bI_0]; exact fun q => q (by omega)) (Rt.eqb rfl ?_)
    by_cases cw : 0 ≤ w ∧ w ≤ 1
    · refine Rt.iff (by rw [bI_0]; exact fun q => q cw) ?_
      rw [eY ⟨cb, cw⟩]
      obtain ⟨k, rfl⟩ := Int.eq_ofNat_of_zero_le cb.1
      have h := hW.case (k := k) cb.2
      rw [show (110 : Int32) + 3 * i32 (k : Int) = i32 ((110 + 3 * k : Nat) : Int) by rw [i32_litN 110, i32_litN 3, i32_mul, i32_add]; congr 1 <;> omega]
      rw [show i32 ((110 + 3 * k : Nat) : Int) + 1 = i32 ((111 + 3 * k : Nat) : Int) by rw [i32_litN 1, i32_add]; congr 1; omega, show i32 ((110 + 3 * k : Nat) : Int) + 2 = i32 ((112 + 3 * k : Nat) : Int) by rw [i32_litN 2, i32_add]; congr 1; omega]
      rw [gd_ok (by omega) (by omega) (by omega), gd_ok (by omega) (by omega) (by omega), i32_nat (by omega) (by omega), i32_nat (by omega) (by omega), Int.toNat_natCast, Int.toNat_natCast, Int.toNat_natCast, hM _ (by omega), hM _ (by omega), h.2.1, h.2.2.1]
      have := v_proofOf hFu hM hW (bs := jb y k) (vs := vb y k) (by omega) (by omega) (but := (k : Int)) (by omega) (by omega) (w := w) (by omega)
      rw [this]
      exact Rt.ret ⟨rfl, rfl⟩
    · refine Rt.ift (by rw [bI_0]; exact cw) ?_
      rw [eN (fun q => cw q.2)]; exact Rt.ret ⟨rfl, rfl⟩
  · refine Rt.ift (by rw [bI_0]; exact fun q => cb (by omega)) ?_
    rw [eN (fun q => cb q.1)]; exact Rt.ret ⟨rfl, rfl⟩
theorem c_again (hFu : 6000 ≤ Fu) (hW : WF y) (hX : RX y beasts meals seats laws inForce tr mh te cases rs ju vo) {u l : Int64} {k w : Int} (b1 : -2147483648 ≤ k) (b2 : k ≤ 2147483647) (w1 : -2147483648 ≤ w) (w2 : w ≤ 2147483647) :
    Rt (fX11_again Fu te cases rs ju vo u l (i32 k) (i32 w)) (fun r => r.1 = i64 (againS y k w)) := by
  have h11 := hW.2.2.2.2.2.2.1
  have ec := hX.2.2.2.2.2.2.2.2.1
  have eN : ¬ ((0 ≤ k ∧ k < y 11) ∧ (0 ≤ w ∧ w ≤ 1)) → againS y k w = -1 := fun q => if_neg q
  have eY : ((0 ≤ k ∧ k < y 11) ∧ (0 ≤ w ∧ w ≤ 1)) → againS y k w = (if w = 0 then prU y (jb y k.toNat) (vb y k.toNat) k else prD y (jb y k.toNat) (vb y k.toNat) k) := fun q => if_pos q
  unfold fX11_again
  by_cases cb : 0 ≤ k ∧ k < y 11
  · refine Rt.iff (by rw [i32_litN 0, i32_lt (by omega) (by omega) (by omega) (by omega)]; omega) (Rt.iff (by rw [ec, i32_le (by omega) (by omega) (by omega) (by omega)]; omega) ?_)
    rw [x_isEither w w1 w2]
    refine Rt.eqb rfl ?_
    by_cases cw : 0 ≤ w ∧ w ≤ 1
    · refine Rt.iff (by rw [bI_0]; exact fun q => q cw) ?_
      rw [eY ⟨cb, cw⟩]
      obtain ⟨k, rfl⟩ := Int.eq_ofNat_of_zero_le cb.1
      have h := hW.case (k := k) cb.2
      obtain ⟨c1, c2, c3⟩ := hX.2.2.2.2.2.2.2.2.2 k cb.2
      rw [gd_ok (by omega) (by omega) (by omega), gd_ok (by omega) (by omega) (by omega), i32_nat (by omega) (by omega), Int.toNat_natCast, c2, c3, h.2.1, h.2.2.1]
      have := x_weigh (u := u) (l := l) hFu hW hX (bs := jb y k) (vs := vb y k) (by omega) (by omega) (but := (k : Int)) (by omega) (by omega)
      rw [this]
      refine Rt.eqb rfl ?_
      by_cases c0 : w = 0
      · subst c0; exact Rt.ift rfl (Rt.ret rfl)
      · obtain rfl : w = 1 := by omega
        exact Rt.iff (by decide) (Rt.ret rfl)
    · refine Rt.ift (by rw [bI_0]; exact cw) ?_
      rw [eN (fun q => cw q.2)]; exact Rt.ret rfl
  · rw [eN (fun q => cb q.1)]
    refine Rt.ite (fun _ => Rt.ret rfl) (fun c => Rt.ift ?_ (Rt.ret rfl))
    rw [i32_litN 0, i32_lt (by omega) (by omega) (by omega) (by omega)] at c
    rw [ec, i32_le (by omega) (by omega) (by omega) (by omega)]; omega
end WEIGH
