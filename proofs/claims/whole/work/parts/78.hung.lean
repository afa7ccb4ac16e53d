/-! ===== a function that gives some answer ===== -/
def Rt {α : Type} (x : Option α) (P : α → Prop) : Prop := ∃ r, x = some r ∧ P r
theorem Rt.of {α : Type} {x : Option α} {r : α} {P : α → Prop} (h : x = some r) (p : P r) : Rt x P := ⟨r, h, p⟩
theorem Rt.bind {α β : Type} {x : Option α} {f : α → Option β} {P : α → Prop} {Q : β → Prop} (h : Rt x P) (k : ∀ r, P r → Rt (f r) Q) : Rt (x.bind f) Q := by
  obtain ⟨r, e, p⟩ := h
  obtain ⟨r2, e2, p2⟩ := k r p
  exact ⟨r2, by rw [e]; exact e2, p2⟩
theorem Rt.mono {α : Type} {x : Option α} {P Q : α → Prop} (h : Rt x P) (k : ∀ r, P r → Q r) : Rt x Q := by
  obtain ⟨r, e, p⟩ := h
  exact ⟨r, e, k r p⟩
theorem Rt.ret {α : Type} {r : α} {P : α → Prop} (p : P r) : Rt (some r) P := ⟨r, rfl, p⟩
theorem Rt.eqb {α β : Type} {x : Option α} {f : α → Option β} {r : α} {Q : β → Prop} (h : x = some r) (k : Rt (f r) Q) : Rt (x.bind f) Q := by
  rw [h]; exact k
theorem Rt.gd {α : Type} {a : Int} {n : Nat} {k : Option α} {P : α → Prop} (h1 : 0 ≤ a) (h2 : a < n) (h3 : a ≤ 2147483647) (h : Rt k P) : Rt (gd (i32 a) n k) P := by
  rw [gd_ok h1 h2 h3]; exact h
theorem Rt.ift {α : Type} {c : Prop} [Decidable c] {A B : Option α} {P : α → Prop} (hc : c) (h : Rt A P) : Rt (if c then A else B) P := by rw [if_pos hc]; exact h
theorem Rt.iff {α : Type} {c : Prop} [Decidable c] {A B : Option α} {P : α → Prop} (hc : ¬ c) (h : Rt B P) : Rt (if c then A else B) P := by rw [if_neg hc]; exact h
theorem Rt.ite {α : Type} {c : Prop} [Decidable c] {A B : Option α} {P : α → Prop} (h1 : c → Rt A P) (h2 : ¬ c → Rt B P) : Rt (if c then A else B) P := by
  by_cases hc : c
  · rw [if_pos hc]; exact h1 hc
  · rw [if_neg hc]; exact h2 hc
theorem i32_0 : (0 : Int32).toNatClampNeg = 0 := rfl
theorem i32_m1 : (-1 : Int32) = i32 (-1) := rfl
/-! ===== hunger ===== -/
def latM (y : Nat → Int) (b h : Int) : Nat → Int
  | 0 => -1
  | k + 1 => if y (60 + 2 * k) = b ∧ y (61 + 2 * k) ≤ h ∧ latM y b h k < y (61 + 2 * k) then y (61 + 2 * k) else latM y b h k
def hun (y : Nat → Int) (b : Nat) (h : Int) : Int :=
  let l := latM y (b : Int) h (y 1).toNat
  let v := if l = -1 then y (13 + 6 * b) + y (14 + 6 * b) * h else y (14 + 6 * b) * (h - l)
  if 99 < v then 99 else v
theorem latM_sp (y : Nat → Int) (b h : Int) : ∀ n : Nat, (∀ k, k < n → 0 ≤ y (61 + 2 * k)) → (latM y b h n = -1 ∨ 0 ≤ latM y b h n ∧ latM y b h n ≤ h ∧ ∃ k, k < n ∧ y (60 + 2 * k) = b ∧ y (61 + 2 * k) = latM y b h n) ∧ ∀ k, k < n → y (60 + 2 * k) = b → y (61 + 2 * k) ≤ h → y (61 + 2 * k) ≤ latM y b h n := by
  intro n
  induction n with
  | zero => intro _; exact ⟨Or.inl rfl, fun k hk => by omega⟩
  | succ n ih =>
    intro h0
    obtain ⟨i1, i2⟩ := ih (fun k hk => h0 k (by omega))
    have e : latM y b h (n + 1) = if y (60 + 2 * n) = b ∧ y (61 + 2 * n) ≤ h ∧ latM y b h n < y (61 + 2 * n) then y (61 + 2 * n) else latM y b h n := rfl
    by_cases hc : y (60 + 2 * n) = b ∧ y (61 + 2 * n) ≤ h ∧ latM y b h n < y (61 + 2 * n)
    · rw [if_pos hc] at e
      rw [e]
      refine ⟨Or.inr ⟨h0 n (by omega), hc.2.1, n, by omega, hc.1, rfl⟩, fun k hk hb hh => ?_⟩
      by_cases ek : k = n
      · subst ek; omega
      · have := i2 k (by omega) hb hh; omega
    · rw [if_neg hc] at e
      rw [e]
      refine ⟨?_, fun k hk hb hh => ?_⟩
      · rcases i1 with i1 | ⟨g1, g2, k, g3, g4⟩
        · exact Or.inl i1
        · exact Or.inr ⟨g1, g2, k, by omega, g4⟩
      · by_cases ek : k = n
        · subst ek
          have : ¬ latM y b h k < y (61 + 2 * k) := fun q => hc ⟨hb, hh, q⟩
          omega
        · exact i2 k (by omega) hb hh
theorem v_hunL {y : Nat → Int} {row : Nat → Int32} (hM : RM y row) (hW : WF y) {Fu : Nat} {b h : Nat} (hb : b < 8) (hh : h < 24) : ∀ (d f k : Nat), (k : Int) + d = y 1 → d < f → fX12_hungerIn_L5 Fu f row (i32 (b : Int)) (i32 (h : Int)) (i32 (latM y (b : Int) (h : Int) k)) (i32 (k : Int)) = some (i32 (hun y b (h : Int))) := by
  have hM1 := hM 1 (by omega)
  have h1 := hW.2.1
  have hT := hW.2.2.2.2.2.2.2.1
  have t1 := hT (6 * b + 1) (by omega)
  have t2 := hT (6 * b + 2) (by omega)
  rw [show 12 + (6 * b + 1) = 13 + 6 * b by omega, show (((6 * b + 1) % 6 : Nat) : Int) = 1 by omega, show hiT 1 = 99 from rfl] at t1
  rw [show 12 + (6 * b + 2) = 14 + 6 * b by omega, show (((6 * b + 2) % 6 : Nat) : Int) = 2 by omega, show hiT 2 = 9 from rfl] at t2
  have hR : ∀ k : Nat, (k : Int) ≤ y 1 → -1 ≤ latM y (b : Int) (h : Int) k ∧ latM y (b : Int) (h : Int) k ≤ h := by
    intro k hk
    have := (latM_sp y (b : Int) (h : Int) k (fun j hj => (hW.2.2.2.2.2.2.2.2.1 j (by omega)).2.1)).1
    omega
  intro d
  induction d with
  | zero =>
    intro f k hk hf
    obtain ⟨f, rfl⟩ : ∃ f', f = f' + 1 := ⟨f - 1, by omega⟩
    have hr := hR k (by omega)
    have ek : (y 1).toNat = k := by omega
    have m1 : y (14 + 6 * b) * (h : Int) ≤ 9 * 23 := Int.mul_le_mul t2.2 (by omega) (by omega) (by omega)
    have m0 : 0 ≤ y (14 + 6 * b) * (h : Int) := Int.mul_nonneg t2.1 (by omega)
    have m2 : y (14 + 6 * b) * ((h : Int) - latM y (b : Int) (h : Int) k) ≤ 9 * 24 := Int.mul_le_mul t2.2 (by omega) (by omega) (by omega)
    have m3 : 0 ≤ y (14 + 6 * b) * ((h : Int) - latM y (b : Int) (h : Int) k) := Int.mul_nonneg t2.1 (by omega)
    have r13 : row (12 + 6 * (b : Int) + 1).toNat = i32 (y (13 + 6 * b)) := by
      rw [show (12 + 6 * (b : Int) + 1).toNat = 13 + 6 * b by omega]; exact hM _ (by omega)
    have r14 : row (12 + 6 * (b : Int) + 2).toNat = i32 (y (14 + 6 * b)) := by
      rw [show (12 + 6 * (b : Int) + 2).toNat = 14 + 6 * b by omega]; exact hM _ (by omega)
    have o1 : fX12_ofBeast row (i32 (b : Int)) 1 = some (i32 (y (13 + 6 * b))) := by
      rw [show (1 : Int32) = i32 1 from rfl, v_ofBeast (by omega) (by omega) (by omega) (by omega), r13]
    have o2 : fX12_ofBeast row (i32 (b : Int)) 2 = some (i32 (y (14 + 6 * b))) := by
      rw [show (2 : Int32) = i32 2 from rfl, v_ofBeast (by omega) (by omega) (by omega) (by omega), r14]
    have fin : ∀ v : Int, -2147483648 ≤ v → v ≤ 2147483647 → fX12_hungerIn_L106 Fu row (i32 v) = some (i32 (if 99 < v then 99 else v)) := by
      intro v a1 a2
      unfold fX12_hungerIn_L106
      simp (disch := omega) only [i32_lit, i32_le]
      by_cases c : v ≤ 99
      · rw [if_pos c, if_neg (by omega)]
      · rw [if_neg c, if_pos (by omega)]
    have hun_e : hun y b (h : Int) = if 99 < (if latM y (b : Int) (h : Int) k = -1 then y (13 + 6 * b) + y (14 + 6 * b) * h else y (14 + 6 * b) * ((h : Int) - latM y (b : Int) (h : Int) k)) then 99 else (if latM y (b : Int) (h : Int) k = -1 then y (13 + 6 * b) + y (14 + 6 * b) * h else y (14 + 6 * b) * ((h : Int) - latM y (b : Int) (h : Int) k)) := by
      unfold hun; rw [ek]
    rw [fX12_hungerIn_L5, show (1 : Int32).toNatClampNeg = 1 from rfl, hM1, o1, o2, hun_e, show (1 : Int32) = i32 1 from rfl, gd_ok (by omega) (by omega) (by omega), i32_neg]
    rw [if_pos (by rw [i32_le (by omega) (by omega) (by omega) (by omega)]; omega)]
    by_cases c : latM y (b : Int) (h : Int) k = -1
    · rw [if_pos (by rw [c]), if_pos c]
      simp only [Option.bind_some, i32_mul, i32_add]
      exact fin _ (by omega) (by omega)
    · rw [if_neg (by rw [i32_eq (by omega) (by omega) (by omega) (by omega)]; exact c), if_neg c]
      simp only [Option.bind_some, i32_mul, i32_sub]
      exact fin _ (by omega) (by omega)
  | succ d ih =>
    intro f k hk hf
    obtain ⟨f, rfl⟩ : ∃ f', f = f' + 1 := ⟨f - 1, by omega⟩
    have hr := hR k (by omega)
    have h00 := hW.1
    have hm := hW.2.2.2.2.2.2.2.2.1 k (by omega)
    have := ih f (k + 1) (by omega) (by omega)
    rw [show ((k + 1 : Nat) : Int) = (k : Int) + 1 by omega] at this
    rw [fX12_hungerIn_L5, show (1 : Int32).toNatClampNeg = 1 from rfl, hM1]
    simp (disch := omega) only [i32_lit, gd_ok, i32_le, i32_mul, i32_add, i32_nat]
    rw [if_neg (by omega)]
    rw [show (60 + 2 * (k : Int)).toNat = 60 + 2 * k by omega, show (60 + 2 * (k : Int) + 1).toNat = 61 + 2 * k by omega, hM _ (by omega), hM _ (by omega)]
    unfold fX12_hungerIn_L65
    simp (disch := omega) only [i32_lit, i32_eq, i32_lt, i32_le, i32_add]
    have el : latM y (b : Int) (h : Int) (k + 1) = if y (60 + 2 * k) = (b : Int) ∧ y (61 + 2 * k) ≤ (h : Int) ∧ latM y (b : Int) (h : Int) k < y (61 + 2 * k) then y (61 + 2 * k) else latM y (b : Int) (h : Int) k := rfl
    rw [el] at this
    by_cases c1 : y (60 + 2 * k) = (b : Int)
    · rw [if_pos c1]
      by_cases c2 : (h : Int) < y (61 + 2 * k)
      · rw [if_pos c2]; rw [if_neg (fun q => by omega)] at this; exact this
      · rw [if_neg c2]
        by_cases c3 : y (61 + 2 * k) ≤ latM y (b : Int) (h : Int) k
        · rw [if_pos c3]; rw [if_neg (fun q => by omega)] at this; exact this
        · rw [if_neg c3]; rw [if_pos ⟨c1, by omega, by omega⟩] at this; exact this
    · rw [if_neg c1]; rw [if_neg (fun q => c1 q.1)] at this; exact this
theorem v_hungerIn {y : Nat → Int} {row : Nat → Int32} (hM : RM y row) (hW : WF y) {Fu : Nat} (hFu : 6000 ≤ Fu) {b h : Nat} (hb : b < 8) (hh : h < 24) : fX12_hungerIn Fu row (i32 (b : Int)) (i32 (h : Int)) = some (i32 (hun y b (h : Int))) := by
  have h1 := hW.2.1
  exact v_hunL hM hW hb hh (y 1).toNat Fu 0 (by omega) (by omega)
/-! the highest bit -/
theorem i32_u {a : Nat} (ha : a < 2147483648) : (i32 (a : Int)).toUInt32.toNat = a := by
  show (i32 (a : Int)).toBitVec.toNat = a
  rw [i32_bv, BitVec.toNat_ofNat, Nat.mod_eq_of_lt (by omega)]
theorem i32_ushr {a k : Nat} {u : UInt32} (ha : a < 2147483648) (hu : u.toNat = k) (h : k < 32) : ((i32 (a : Int)).toUInt32 >>> u).toInt32 = i32 ((a >>> k : Nat) : Int) := by
  have e : ((i32 (a : Int)).toUInt32 >>> u).toNat = a >>> k := by
    rw [UInt32.toNat_shiftRight, hu, i32_u ha, Nat.mod_eq_of_lt h]
  rw [← Int32.toBitVec_inj, i32_bv]
  apply BitVec.eq_of_toNat_eq
  have e2 : (((i32 (a : Int)).toUInt32 >>> u).toInt32).toBitVec.toNat = a >>> k := e
  rw [e2, BitVec.toNat_ofNat, Nat.mod_eq_of_lt]
  exact Nat.lt_of_le_of_lt (Nat.shiftRight_le a k) (by omega)
theorem shr_log {x t s : Nat} (h1 : 2 ^ t ≤ x) (h2 : x < 2 ^ (t + 1)) (hs : 2 ^ s ≤ x) : s ≤ t ∧ 2 ^ (t - s) ≤ x >>> s ∧ x >>> s < 2 ^ (t - s + 1) := by
  have hst : s ≤ t := by
    apply Nat.le_of_not_lt
    intro hc
    have := Nat.pow_le_pow_right (n := 2) (by omega) (show t + 1 ≤ s by omega)
    omega
  obtain ⟨r, rfl⟩ : ∃ r, t = s + r := ⟨t - s, by omega⟩
  have hp : 0 < 2 ^ s := Nat.pow_pos (by omega)
  rw [show s + r - s = r by omega, Nat.shiftRight_eq_div_pow]
  refine ⟨by omega, ?_, ?_⟩
  · rw [Nat.le_div_iff_mul_le hp, Nat.mul_comm, ← Nat.pow_add]; exact h1
  · rw [Nat.div_lt_iff_lt_mul hp, Nat.mul_comm, ← Nat.pow_add]; exact h2
theorem log_lt {x t s : Nat} (h1 : 2 ^ t ≤ x) (hs : x < 2 ^ s) : t < s := by
  apply Nat.lt_of_not_le
  intro hc
  have := Nat.pow_le_pow_right (n := 2) (by omega) hc
  omega
theorem nlz73 {x t : Nat} {c : Int} (h1 : 2 ^ t ≤ x) (h2 : x < 2 ^ (t + 1)) (ht : x < 4) : fJ6_numberOfLeadingZeros_0f7a4_L73 (i32 (x : Int)) (i32 c) = some (i32 (c - t)) := by
  unfold fJ6_numberOfLeadingZeros_0f7a4_L73
  rw [i32_ushr (k := 1) (by omega) (by rfl) (by omega), i32_sub]
  have h3 : t < 2 := log_lt h1 (s := 2) (by omega)
  have : x >>> 1 = t := by
    rw [Nat.shiftRight_eq_div_pow]
    have : t = 0 ∨ t = 1 := by omega
    rcases this with rfl | rfl <;> omega
  rw [this]
theorem nlz61 {x t : Nat} {c : Int} (h1 : 2 ^ t ≤ x) (h2 : x < 2 ^ (t + 1)) (ht : x < 16) : fJ6_numberOfLeadingZeros_0f7a4_L61 (i32 (x : Int)) (i32 c) = some (i32 (c - t)) := by
  unfold fJ6_numberOfLeadingZeros_0f7a4_L61
  rw [i32_ushr (k := 2) (by omega) (by rfl) (by omega)]
  simp (disch := omega) only [i32_lit, i32_lt, i32_neg, i32_add]
  by_cases c1 : (x : Int) < 4
  · rw [if_pos c1]; exact nlz73 h1 h2 (by omega)
  · rw [if_neg c1]
    obtain ⟨g1, g2, g3⟩ := shr_log (s := 2) h1 h2 (by omega)
    have g4 : x >>> 2 < 4 := by rw [Nat.shiftRight_eq_div_pow]; omega
    rw [nlz73 g2 g3 g4, show c + -2 - ((t - 2 : Nat) : Int) = c - t by omega]
theorem nlz48 {x t : Nat} {c : Int} (h1 : 2 ^ t ≤ x) (h2 : x < 2 ^ (t + 1)) (ht : x < 256) : fJ6_numberOfLeadingZeros_0f7a4_L48 (i32 (x : Int)) (i32 c) = some (i32 (c - t)) := by
  unfold fJ6_numberOfLeadingZeros_0f7a4_L48
  rw [i32_ushr (k := 4) (by omega) (by rfl) (by omega)]
  simp (disch := omega) only [i32_lit, i32_lt, i32_neg, i32_add]
  by_cases c1 : (x : Int) < 16
  · rw [if_pos c1]; exact nlz61 h1 h2 (by omega)
  · rw [if_neg c1]
    obtain ⟨g1, g2, g3⟩ := shr_log (s := 4) h1 h2 (by omega)
    have g4 : x >>> 4 < 16 := by rw [Nat.shiftRight_eq_div_pow]; omega
    rw [nlz61 g2 g3 g4, show c + -4 - ((t - 4 : Nat) : Int) = c - t by omega]
theorem nlz33 {x t : Nat} {c : Int} (h1 : 2 ^ t ≤ x) (h2 : x < 2 ^ (t + 1)) (ht : x < 65536) : fJ6_numberOfLeadingZeros_0f7a4_L33 (i32 (x : Int)) (i32 c) = some (i32 (c - t)) := by
  unfold fJ6_numberOfLeadingZeros_0f7a4_L33
  rw [i32_ushr (k := 8) (by omega) (by rfl) (by omega)]
  simp (disch := omega) only [i32_lit, i32_lt, i32_neg, i32_add]
  by_cases c1 : (x : Int) < 256
  · rw [if_pos c1]; exact nlz48 h1 h2 (by omega)
  · rw [if_neg c1]
    obtain ⟨g1, g2, g3⟩ := shr_log (s := 8) h1 h2 (by omega)
    have g4 : x >>> 8 < 256 := by rw [Nat.shiftRight_eq_div_pow]; omega
    rw [nlz48 g2 g3 g4, show c + -8 - ((t - 8 : Nat) : Int) = c - t by omega]
theorem j_nlz {x t : Nat} (h1 : 2 ^ t ≤ x) (h2 : x < 2 ^ (t + 1)) (ht : x < 2147483648) : fJ6_numberOfLeadingZeros_0f7a4 (i32 (x : Int)) = some (i32 (31 - t)) := by
  have hx : 0 < x := Nat.lt_of_lt_of_le (Nat.pow_pos (by omega)) h1
  unfold fJ6_numberOfLeadingZeros_0f7a4
  rw [i32_ushr (k := 16) (by omega) (by rfl) (by omega)]
  simp (disch := omega) only [i32_lit, i32_lt, i32_neg, i32_add]
  rw [if_pos (by omega)]
  by_cases c1 : (x : Int) < 65536
  · rw [if_pos c1]; exact nlz33 h1 h2 (by omega)
  · rw [if_neg c1]
    obtain ⟨g1, g2, g3⟩ := shr_log (s := 16) h1 h2 (by omega)
    have g4 : x >>> 16 < 65536 := by rw [Nat.shiftRight_eq_div_pow]; omega
    rw [nlz33 g2 g3 g4, show (31 : Int) + -16 - ((t - 16 : Nat) : Int) = 31 - t by omega]
theorem top_bit {x : Nat} (hx : 0 < x) : ∃ t, 2 ^ t ≤ x ∧ x < 2 ^ (t + 1) := ⟨x.log2, Nat.log2_self_le (by omega), Nat.lt_log2_self⟩
theorem top_test {x t : Nat} (h1 : 2 ^ t ≤ x) (h2 : x < 2 ^ (t + 1)) : x.testBit t = true ∧ ∀ j, t < j → x.testBit j = false := by
  constructor
  · rw [Nat.testBit_eq_decide_div_mod_eq]
    have : x / 2 ^ t = 1 := by
      rw [Nat.div_eq_iff (Nat.pow_pos (by omega))]
      rw [Nat.pow_succ] at h2
      omega
    rw [this]; rfl
  · intro j hj
    apply Nat.testBit_lt_two_pow
    exact Nat.lt_of_lt_of_le h2 (Nat.pow_le_pow_right (by omega) (by omega))
theorem x_hungerIn {y : Nat → Int} {beasts meals seats laws inForce cases : Int32} {tr mh te rs ju vo : Nat → Int32} (hW : WF y) (hX : RX y beasts meals seats laws inForce tr mh te cases rs ju vo) {b h : Nat} (hb : b < 8) (hh : h < 24) : fX10_hungerIn tr mh (i32 (b : Int)) (i32 (h : Int)) = some (i32 (hun y b (h : Int))) := by
  obtain ⟨m, m1, m2, m3⟩ := hX.2.2.2.2.2.2.2.1 b hb
  have hT := hW.2.2.2.2.2.2.2.1
  have t1 := hT (6 * b + 1) (by omega)
  have t2 := hT (6 * b + 2) (by omega)
  rw [show 12 + (6 * b + 1) = 13 + 6 * b by omega, show (((6 * b + 1) % 6 : Nat) : Int) = 1 by omega, show hiT 1 = 99 from rfl] at t1
  rw [show 12 + (6 * b + 2) = 14 + 6 * b by omega, show (((6 * b + 2) % 6 : Nat) : Int) = 2 by omega, show hiT 2 = 9 from rfl] at t2
  have r13 : tr (6 * (b : Int) + 1).toNat = i32 (y (13 + 6 * b)) := by
    rw [show (6 * (b : Int) + 1).toNat = 6 * b + 1 by omega, hX.2.2.2.2.2.1 _ (by omega), show 12 + (6 * b + 1) = 13 + 6 * b by omega]
  have r14 : tr (6 * (b : Int) + 2).toNat = i32 (y (14 + 6 * b)) := by
    rw [show (6 * (b : Int) + 2).toNat = 6 * b + 2 by omega, hX.2.2.2.2.2.1 _ (by omega), show 12 + (6 * b + 2) = 14 + 6 * b by omega]
  have o1 : fX10_trait tr (i32 (b : Int)) 1 = some (i32 (y (13 + 6 * b))) := by
    rw [show (1 : Int32) = i32 1 from rfl, x_trait (by omega) (by omega) (by omega) (by omega), r13]
  have o2 : fX10_trait tr (i32 (b : Int)) 2 = some (i32 (y (14 + 6 * b))) := by
    rw [show (2 : Int32) = i32 2 from rfl, x_trait (by omega) (by omega) (by omega) (by omega), r14]
  have tl : mh (i32 (b : Int)).toNatClampNeg &&& ((2 : Int32) <<< (i32 (h : Int) &&& 31) - 1) = i32 ((m % 2 ^ (h + 1) : Nat) : Int) := by
    rw [i32_nat (by omega) (by omega), Int.toNat_natCast, m1, i32_31 (by omega), i32_litN 2, i32_shl (by omega), i32_litN 1, i32_sub]
    have hp : 0 < 2 ^ h := Nat.pow_pos (by omega)
    rw [show ((2 * 2 ^ h : Nat) : Int) - ((1 : Nat) : Int) = ((2 ^ (h + 1) - 1 : Nat) : Int) by rw [Nat.pow_succ]; omega]
    rw [i32_and, Nat.and_two_pow_sub_one_eq_mod]
  have hsp := latM_sp y (b : Int) (h : Int) (y 1).toNat (fun j hj => (hW.2.2.2.2.2.2.2.2.1 j (by omega)).2.1)
  have mlt : m % 2 ^ (h + 1) < 2 ^ 24 := Nat.lt_of_le_of_lt (Nat.mod_le _ _) m2
  have bit : ∀ j : Nat, (m % 2 ^ (h + 1)).testBit j = true ↔ j ≤ h ∧ ∃ k : Nat, (k : Int) < y 1 ∧ y (60 + 2 * k) = (b : Int) ∧ y (61 + 2 * k) = (j : Int) := by
    intro j
    rw [Nat.testBit_mod_two_pow]
    by_cases c : j ≤ h
    · rw [← m3 j (by omega)]; simp [c]; omega
    · simp [c]; omega
  unfold fX10_hungerIn
  rw [o2, o1, tl]
  simp (disch := omega) only [Option.bind_some, gd_ok]
  have hun_e : hun y b (h : Int) = if 99 < (if latM y (b : Int) (h : Int) (y 1).toNat = -1 then y (13 + 6 * b) + y (14 + 6 * b) * h else y (14 + 6 * b) * ((h : Int) - latM y (b : Int) (h : Int) (y 1).toNat)) then 99 else (if latM y (b : Int) (h : Int) (y 1).toNat = -1 then y (13 + 6 * b) + y (14 + 6 * b) * h else y (14 + 6 * b) * ((h : Int) - latM y (b : Int) (h : Int) (y 1).toNat)) := rfl
  have m1' : y (14 + 6 * b) * (h : Int) ≤ 9 * 23 := Int.mul_le_mul t2.2 (by omega) (by omega) (by omega)
  have m0' : 0 ≤ y (14 + 6 * b) * (h : Int) := Int.mul_nonneg t2.1 (by omega)
  by_cases c0 : m % 2 ^ (h + 1) = 0
  · have el : latM y (b : Int) (h : Int) (y 1).toNat = -1 := by
      rcases hsp.1 with e | ⟨g1, g2, k, g3, g4, g5⟩
      · exact e
      · have := (bit (latM y (b : Int) (h : Int) (y 1).toNat).toNat).mpr ⟨by omega, k, by omega, g4, by omega⟩
        rw [c0] at this
        simp at this
    rw [hun_e, if_pos el, c0, if_pos (show i32 ((0 : Nat) : Int) = 0 from rfl)]
    simp (disch := omega) only [i32_mul, i32_add, i32_lit, i32_lt]
    by_cases c : y (13 + 6 * b) + y (14 + 6 * b) * (h : Int) < 99
    · rw [if_pos c, if_neg (by omega)]
    · rw [if_neg c]
      by_cases c' : 99 < y (13 + 6 * b) + y (14 + 6 * b) * (h : Int)
      · rw [if_pos c']
      · rw [if_neg c', show y (13 + 6 * b) + y (14 + 6 * b) * (h : Int) = 99 by omega]
  · obtain ⟨t, g1, g2⟩ := top_bit (x := m % 2 ^ (h + 1)) (by omega)
    obtain ⟨b1, b2⟩ := top_test g1 g2
    obtain ⟨g3, k, g4, g5, g6⟩ := (bit t).mp b1
    have el : latM y (b : Int) (h : Int) (y 1).toNat = (t : Int) := by
      have := hsp.2 k (by omega) g5 (by omega)
      rcases hsp.1 with e | ⟨q1, q2, k', q3, q4, q5⟩
      · omega
      · have q6 := (bit (latM y (b : Int) (h : Int) (y 1).toNat).toNat).mpr ⟨by omega, k', by omega, q4, by omega⟩
        by_cases q7 : t < (latM y (b : Int) (h : Int) (y 1).toNat).toNat
        · rw [b2 _ q7] at q6; cases q6
        · omega
    rw [hun_e, el, if_neg (show ¬ (t : Int) = -1 by omega)]
    have ne : ¬ i32 ((m % 2 ^ (h + 1) : Nat) : Int) = 0 := by
      rw [i32_litN 0, i32_eq (by omega) (by omega) (by omega) (by omega)]; omega
    rw [if_neg ne, j_nlz g1 g2 (by omega)]
    have m2' : y (14 + 6 * b) * ((h : Int) - t) ≤ 9 * 23 := Int.mul_le_mul t2.2 (by omega) (by omega) (by omega)
    have m3' : 0 ≤ y (14 + 6 * b) * ((h : Int) - t) := Int.mul_nonneg t2.1 (by omega)
    simp only [Option.bind_some, i32_lit, i32_sub, i32_mul]
    rw [show (31 : Int) - (31 - (t : Int)) = t by omega]
    simp (disch := omega) only [i32_lt]
    by_cases c : y (14 + 6 * b) * ((h : Int) - t) < 99
    · rw [if_pos c, if_neg (by omega)]
    · rw [if_neg c]
      by_cases c' : 99 < y (14 + 6 * b) * ((h : Int) - t)
      · rw [if_pos c']
      · rw [if_neg c', show y (14 + 6 * b) * ((h : Int) - t) = 99 by omega]
theorem hun_rng {y : Nat → Int} (hW : WF y) {b h : Nat} (hb : b < 8) (hh : h < 24) : 0 ≤ hun y b (h : Int) ∧ hun y b (h : Int) ≤ 99 := by
  have hT := hW.2.2.2.2.2.2.2.1
  have t1 := hT (6 * b + 1) (by omega)
  have t2 := hT (6 * b + 2) (by omega)
  rw [show 12 + (6 * b + 1) = 13 + 6 * b by omega] at t1
  rw [show 12 + (6 * b + 2) = 14 + 6 * b by omega] at t2
  have hsp := (latM_sp y (b : Int) (h : Int) (y 1).toNat (fun j hj => (hW.2.2.2.2.2.2.2.2.1 j (by omega)).2.1)).1
  have m0' : 0 ≤ y (14 + 6 * b) * (h : Int) := Int.mul_nonneg t2.1 (by omega)
  have m3' : 0 ≤ y (14 + 6 * b) * ((h : Int) - latM y (b : Int) (h : Int) (y 1).toNat) := Int.mul_nonneg t2.1 (by omega)
  unfold hun
  simp only
  split <;> split <;> omega
section Q
variable {y : Nat → Int} {row : Nat → Int32} {beasts meals seats laws inForce cases : Int32} {tr mh te rs ju vo : Nat → Int32} {last known status thrown : Int32} {a78 refusals : Nat → Int32}
theorem q_hunger {Fu : Nat} (hFu : 6000 ≤ Fu) (hM : RM y row) (hW : WF y) (hX : RX y beasts meals seats laws inForce tr mh te cases rs ju vo) (x1 x2 : Int32) :
    ∃ Rx Rm, fX11_hunger beasts tr mh x1 x2 = some Rx ∧ fX12_hunger Fu thrown row x1 x2 = some Rm ∧ Rx = Rm.1 := by
  obtain ⟨b, b0, b1, rfl⟩ := i32_any x1
  obtain ⟨h, h0, h1, rfl⟩ := i32_any x2
  have hB := hW.1
  have e0 := hX.1
  subst e0
  unfold fX11_hunger fX12_hunger fX12_hunger_L29
  rw [x_hasBeast hB.1 hB.2 b b0 b1, v_isBeast (hM 0 (by omega)) hB.1 hB.2 b b0 b1, x_isHour h h0 h1, v_isHour h h0 h1]
  simp only [Option.bind_some, bI_0]
  by_cases hb : 0 ≤ b ∧ b < y 0
  · by_cases hh : 0 ≤ h ∧ h ≤ 23
    · obtain ⟨b, rfl⟩ := Int.eq_ofNat_of_zero_le hb.1
      obtain ⟨h, rfl⟩ := Int.eq_ofNat_of_zero_le hh.1
      simp only [hb, hh, and_self, not_true_eq_false, if_false]
      rw [x_hungerIn hW hX (by omega) (by omega), v_hungerIn hM hW hFu (by omega) (by omega)]
      exact ⟨_, _, rfl, rfl, rfl⟩
    · simp only [hb, hh, and_self, not_true_eq_false, if_false, not_false_eq_true, if_true]
      exact ⟨_, _, rfl, rfl, rfl⟩
  · simp only [hb, not_false_eq_true, if_true]
    exact ⟨_, _, rfl, rfl, rfl⟩
end Q
