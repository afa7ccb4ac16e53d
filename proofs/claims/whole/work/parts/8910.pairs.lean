section PAIRS
variable {y : Nat → Int} {row : Nat → Int32} {beasts meals seats laws inForce cases : Int32} {tr mh te rs ju vo : Nat → Int32} {Fu : Nat} {LO : Option LwS}
/-! all pairs of bribes, beast by beast -/
/-- the marks: whatever was noted is not less (not more) than what stands there, and what stands there was noted or stood there -/
def Nt (W : Nat → Nat → Int) (B B' : Nat → Int) (E : Nat → Nat → Prop) : Prop :=
  (∀ z, z < 256 → B' z ≤ B z ∧ (∀ o, E z o → B' z ≤ W z o) ∧ (B' z = B z ∨ ∃ o, E z o ∧ B' z = W z o)) ∧
  (∀ o, o < 256 → B (256 + o) ≤ B' (256 + o) ∧ (∀ z, E z o → W z o ≤ B' (256 + o)) ∧ (B' (256 + o) = B (256 + o) ∨ ∃ z, E z o ∧ B' (256 + o) = W z o))
theorem Nt.comp {W : Nat → Nat → Int} {B B' B2 : Nat → Int} {E E2 : Nat → Nat → Prop} (h : Nt W B B' E) (h2 : Nt W B' B2 E2) : Nt W B B2 (fun z o => E z o ∨ E2 z o) := by
  refine ⟨fun z hz => ?_, fun o ho => ?_⟩
  · obtain ⟨a1, a2, a3⟩ := h.1 z hz
    obtain ⟨b1, b2, b3⟩ := h2.1 z hz
    refine ⟨by omega, fun o ho => ?_, ?_⟩
    · rcases ho with ho | ho
      · have := a2 o ho; omega
      · exact b2 o ho
    · rcases b3 with b3 | ⟨o, q1, q2⟩
      · rcases a3 with a3 | ⟨o, q1, q2⟩
        · exact Or.inl (by omega)
        · exact Or.inr ⟨o, Or.inl q1, by omega⟩
      · exact Or.inr ⟨o, Or.inr q1, q2⟩
  · obtain ⟨a1, a2, a3⟩ := h.2 o ho
    obtain ⟨b1, b2, b3⟩ := h2.2 o ho
    refine ⟨by omega, fun z hz => ?_, ?_⟩
    · rcases hz with hz | hz
      · have := a2 z hz; omega
      · exact b2 z hz
    · rcases b3 with b3 | ⟨z, q1, q2⟩
      · rcases a3 with a3 | ⟨z, q1, q2⟩
        · exact Or.inl (by omega)
        · exact Or.inr ⟨z, Or.inl q1, by omega⟩
      · exact Or.inr ⟨z, Or.inr q1, q2⟩
theorem Nt.none {W : Nat → Nat → Int} {B : Nat → Int} {E : Nat → Nat → Prop} (h : ∀ z o, ¬ E z o) : Nt W B B E := ⟨fun z _ => ⟨Int.le_refl _, fun o ho => absurd ho (h z o), Or.inl rfl⟩, fun o _ => ⟨Int.le_refl _, fun z hz => absurd hz (h z o), Or.inl rfl⟩⟩
theorem Nt.ext {W : Nat → Nat → Int} {B B' : Nat → Int} {E E2 : Nat → Nat → Prop} (h : Nt W B B' E) (e : ∀ z o, E2 z o ↔ E z o) : Nt W B B' E2 := by
  have : E2 = E := by funext z o; exact propext (e z o)
  rw [this]; exact h
def NB (a : Nat → Int64) (B : Nat → Int) : Prop := ∀ k, k < 512 → a k = i64 (B k) ∧ -9223372036854775808 ≤ B k ∧ B k ≤ 9223372036854775807
theorem x_note {a : Nat → Int64} {B : Nat → Int} (h : NB a B) {W : Nat → Nat → Int} {z o : Nat} (hz : z < 256) (ho : o < 256) {v : Int64} (hv : v = i64 (W z o)) (w1 : 0 ≤ W z o) (w2 : W z o ≤ 10000000000000000) : Rt (fX1_note a (i32 (z : Int)) (i32 (o : Int)) v) (fun r => ∃ B', NB r B' ∧ Nt W B B' (fun z' o' => z' = z ∧ o' = o)) := by
  subst hv
  obtain ⟨e1, l1, l2⟩ := h z (by omega)
  obtain ⟨e2, l3, l4⟩ := h (256 + o) (by omega)
  unfold fX1_note
  rw [show (256 : Int32) + i32 (o : Int) = i32 ((256 + o : Nat) : Int) by rw [i32_litN 256, i32_add]; congr 1 <;> omega]
  refine Rt.gd (by omega) (by omega) (by omega) (Rt.gd (by omega) (by omega) (by omega) (Rt.gd (by omega) (by omega) (by omega) (Rt.gd (by omega) (by omega) (by omega) ?_)))
  rw [i32_nat (by omega) (by omega), i32_nat (by omega) (by omega), Int.toNat_natCast, Int.toNat_natCast, va_up_ne _ _ (show 256 + o ≠ z by omega), e1, e2]
  have m1 : (if i64 (W z o) < i64 (B z) then i64 (W z o) else i64 (B z)) = i64 (if W z o < B z then W z o else B z) := by
    have := i64_lt (a := W z o) (b := B z) (by omega) (by omega) (by omega) (by omega)
    by_cases c : W z o < B z
    · rw [if_pos (this.mpr c), if_pos c]
    · rw [if_neg (fun q => c (this.mp q)), if_neg c]
  have m2 : (if i64 (W z o) < i64 (B (256 + o)) then i64 (B (256 + o)) else i64 (W z o)) = i64 (if W z o < B (256 + o) then B (256 + o) else W z o) := by
    have := i64_lt (a := W z o) (b := B (256 + o)) (by omega) (by omega) (by omega) (by omega)
    by_cases c : W z o < B (256 + o)
    · rw [if_pos (this.mpr c), if_pos c]
    · rw [if_neg (fun q => c (this.mp q)), if_neg c]
  rw [m1, m2]
  refine Rt.ret ⟨va_up (va_up B z (if W z o < B z then W z o else B z)) (256 + o) (if W z o < B (256 + o) then B (256 + o) else W z o), ?_, ?_, ?_⟩
  · intro k hk
    by_cases c1 : k = 256 + o
    · subst c1
      rw [va_up_at, va_up_at]
      refine ⟨rfl, ?_, ?_⟩ <;> split <;> omega
    · rw [va_up_ne _ _ c1, va_up_ne _ _ c1]
      by_cases c2 : k = z
      · subst c2
        rw [va_up_at, va_up_at]
        refine ⟨rfl, ?_, ?_⟩ <;> split <;> omega
      · rw [va_up_ne _ _ c2, va_up_ne _ _ c2]; exact h k hk
  · intro z' hz'
    rw [va_up_ne _ _ (show z' ≠ 256 + o by omega)]
    by_cases c2 : z' = z
    · subst c2
      rw [va_up_at]
      refine ⟨by split <;> omega, fun o' q => ?_, ?_⟩
      · rw [q.2]; split <;> omega
      · by_cases c : W z' o < B z'
        · rw [if_pos c]; exact Or.inr ⟨o, ⟨rfl, rfl⟩, rfl⟩
        · rw [if_neg c]; exact Or.inl rfl
    · rw [va_up_ne _ _ c2]; exact ⟨Int.le_refl _, fun o' q => absurd q.1 c2, Or.inl rfl⟩
  · intro o' ho'
    by_cases c2 : o' = o
    · subst c2
      rw [va_up_at]
      refine ⟨by split <;> omega, fun z' q => ?_, ?_⟩
      · rw [q.1]; split <;> omega
      · by_cases c : W z o' < B (256 + o')
        · rw [if_pos c]; exact Or.inl rfl
        · rw [if_neg c]; exact Or.inr ⟨z, ⟨rfl, rfl⟩, rfl⟩
    · rw [va_up_ne _ _ (show 256 + o' ≠ 256 + o by omega), va_up_ne _ _ (show 256 + o' ≠ z by omega)]; exact ⟨Int.le_refl _, fun z' q => absurd q.2 c2, Or.inl rfl⟩
/-- the pairs of bribes whose low bits are these -/
def EE (y : Nat → Int) (LO : Option LwS) (b z0 o0 z o : Nat) : Prop := cnS y LO 0 z ∧ cnS y LO 1 o ∧ z % 2 ^ b = z0 ∧ o % 2 ^ b = o0
abbrev chs (y : Nat → Int) (LO : Option LwS) (z o : Nat) : Nat → Int := fun b => chn y LO b (((y 6).toNat : Nat) : Int) ((fv y z o b : Nat) : Int) 0
theorem mod_bit {z b k : Nat} : (z % 2 ^ b).testBit k = (decide (k < b) && z.testBit k) := Nat.testBit_mod_two_pow z b k
theorem EE_aff (hW : WF y) {b z1 o1 z o : Nat} (h : EE y LO b z1 o1 z o) : cst y LO 0 z1 ≤ y (8 + 0) ∧ cst y LO 1 o1 ≤ y (8 + 1) := by
  have m : ∀ sd a b, cst y LO sd (a % 2 ^ b) ≤ cst y LO sd a := by
    intro sd a b
    refine csn_mono (fun b => prc_rng.1) (fun k hk => ?_) _
    rw [mod_bit] at hk
    exact (Bool.and_eq_true_iff.mp hk).2
  obtain ⟨h1, h2, h3, h4⟩ := h
  have := m 0 z b; have := m 1 o b
  rw [h3] at *; rw [h4] at *
  exact ⟨Int.le_trans (by assumption) h1.2, Int.le_trans (by assumption) h2.2⟩
/-- four ways at a beast -/
theorem mod_succ {z b z0 : Nat} : z % 2 ^ b = z0 ↔ (z % 2 ^ (b + 1) = z0 ∧ z0 < 2 ^ b ∨ z % 2 ^ (b + 1) = z0 + 2 ^ b ∧ z0 < 2 ^ b) := by
  have e : z % 2 ^ (b + 1) = z % 2 ^ b + 2 ^ b * (z / 2 ^ b % 2) := by rw [Nat.pow_succ, Nat.mod_mul]
  have p : 0 < 2 ^ b := Nat.pow_pos (by omega)
  have l := Nat.mod_lt z p
  rw [e]
  rcases (show z / 2 ^ b % 2 = 0 ∨ z / 2 ^ b % 2 = 1 by omega) with q | q <;> rw [q]
  · rw [Nat.mul_zero]; omega
  · rw [Nat.mul_one]; omega
theorem EE_four {b z0 o0 z o : Nat} (hz : z0 < 2 ^ b) (ho : o0 < 2 ^ b) : EE y LO b z0 o0 z o ↔ ∃ i, i < 4 ∧ EE y LO (b + 1) (z0 + i % 2 * 2 ^ b) (o0 + i / 2 * 2 ^ b) z o := by
  unfold EE
  constructor
  · rintro ⟨h1, h2, h3, h4⟩
    rw [mod_succ] at h3 h4
    rcases h3 with h3 | h3 <;> rcases h4 with h4 | h4
    · exact ⟨0, by omega, h1, h2, by rw [h3.1]; omega, by rw [h4.1]; omega⟩
    · exact ⟨2, by omega, h1, h2, by rw [h3.1]; omega, by rw [h4.1]; omega⟩
    · exact ⟨1, by omega, h1, h2, by rw [h3.1]; omega, by rw [h4.1]; omega⟩
    · exact ⟨3, by omega, h1, h2, by rw [h3.1]; omega, by rw [h4.1]; omega⟩
  · rintro ⟨i, hi, h1, h2, h3, h4⟩
    refine ⟨h1, h2, ?_, ?_⟩
    · rw [mod_succ]
      rcases (show i % 2 = 0 ∨ i % 2 = 1 by omega) with e | e <;> rw [e] at h3 <;> omega
    · rw [mod_succ]
      rcases (show i / 2 = 0 ∨ i / 2 = 1 by omega) with e | e <;> rw [e] at h4 <;> omega
/-- subsets of the seats skip what is not seated -/
theorem sub_mod {z s b c : Nat} (hz : z &&& s = z) (hbc : b ≤ c) (h : ∀ k, b ≤ k → k < c → s.testBit k = false) : z % 2 ^ c = z % 2 ^ b := by
  apply Nat.eq_of_testBit_eq
  intro k
  rw [mod_bit, mod_bit]
  by_cases c1 : k < b
  · simp [c1, show k < c by omega]
  · by_cases c2 : k < c
    · have : z.testBit k = false := by
        rw [← hz, Nat.testBit_and, h k (by omega) c2, Bool.and_false]
      simp [this]
    · simp [c1, c2]
theorem EE_skip {b c z1 o1 z o : Nat} (hbc : b ≤ c) (h : ∀ k, b ≤ k → k < c → (y 4).toNat.testBit k = false) : EE y LO b z1 o1 z o ↔ EE y LO c z1 o1 z o := by
  unfold EE
  constructor
  · rintro ⟨h1, h2, h3, h4⟩
    exact ⟨h1, h2, by rw [sub_mod h1.1 hbc h]; exact h3, by rw [sub_mod h2.1 hbc h]; exact h4⟩
  · rintro ⟨h1, h2, h3, h4⟩
    exact ⟨h1, h2, by rw [← sub_mod h1.1 hbc h]; exact h3, by rw [← sub_mod h2.1 hbc h]; exact h4⟩
theorem EE_last (hW : WF y) {b z1 o1 : Nat} (h : ∀ k, b ≤ k → (y 4).toNat.testBit k = false) (hz : z1 &&& (y 4).toNat = z1) (ho : o1 &&& (y 4).toNat = o1) (hc0 : cst y LO 0 z1 ≤ y (8 + 0)) (hc1 : cst y LO 1 o1 ≤ y (8 + 1)) (z o : Nat) : EE y LO b z1 o1 z o ↔ z = z1 ∧ o = o1 := by
  have all : ∀ a, a &&& (y 4).toNat = a → a % 2 ^ b = a := by
    intro a ha
    apply Nat.mod_eq_of_lt
    apply Nat.lt_pow_two_of_testBit
    intro k hk
    rw [← ha, Nat.testBit_and, h k hk, Bool.and_false]
  unfold EE
  constructor
  · rintro ⟨h1, h2, h3, h4⟩
    exact ⟨by rw [← h3, all z h1.1], by rw [← h4, all o h2.1]⟩
  · rintro ⟨rfl, rfl⟩
    exact ⟨⟨hz, hc0⟩, ⟨ho, hc1⟩, all _ hz, all _ ho⟩
/-- the next seat, or none -/
theorem bcn_gap {s : Nat} : ∀ (d b : Nat), (∀ k, b ≤ k → k < b + d → s.testBit k = false) → bcn s (b + d) = bcn s b := by
  intro d
  induction d with
  | zero => intro b h; rfl
  | succ d ih =>
    intro b h
    show bcn s (b + d) + (if s.testBit (b + d) then 1 else 0) = bcn s b
    rw [h (b + d) (by omega) (by omega), ih b (fun k h1 h2 => h k h1 (by omega))]; rfl
theorem next_seat {s : Nat} : ∀ (d b : Nat), b + d = 8 → (∃ c, b ≤ c ∧ c < 8 ∧ s.testBit c = true ∧ (∀ k, b ≤ k → k < c → s.testBit k = false)) ∨ (∀ k, b ≤ k → k < 8 → s.testBit k = false) := by
  intro d
  induction d with
  | zero => intro b hb; exact Or.inr (fun k h1 h2 => by omega)
  | succ d ih =>
    intro b hb
    cases e : s.testBit b with
    | true => exact Or.inl ⟨b, by omega, by omega, e, fun k h1 h2 => by omega⟩
    | false =>
      rcases ih (b + 1) (by omega) with ⟨c, h1, h2, h3, h4⟩ | h
      · refine Or.inl ⟨c, by omega, h2, h3, fun k k1 k2 => ?_⟩
        by_cases q : k = b
        · rw [q]; exact e
        · exact h4 k (by omega) k2
      · refine Or.inr (fun k k1 k2 => ?_)
        by_cases q : k = b
        · rw [q]; exact e
        · exact h k (by omega) k2
theorem bcn_mono {s : Nat} {a : Nat} : ∀ d, bcn s a ≤ bcn s (a + d) := by
  intro d
  induction d with
  | zero => exact Nat.le_refl _
  | succ d ih => show bcn s a ≤ bcn s (a + d) + _; omega
theorem seat_next {s b K : Nat} (hb : b < 8) (ht : s.testBit b = true) (hK : bcn s b = K) (h : K + 1 < bcn s 8) : ∃ c, b + 1 ≤ c ∧ c < 8 ∧ s.testBit c = true ∧ bcn s c = K + 1 ∧ ∀ k, b + 1 ≤ k → k < c → s.testBit k = false := by
  have e1 : bcn s (b + 1) = K + 1 := by show bcn s b + (if s.testBit b then 1 else 0) = _; rw [ht, hK]; rfl
  rcases next_seat (s := s) (8 - (b + 1)) (b + 1) (by omega) with ⟨c, h1, h2, h3, h4⟩ | h5
  · refine ⟨c, h1, h2, h3, ?_, h4⟩
    have := bcn_gap (s := s) (c - (b + 1)) (b + 1) (fun k k1 k2 => h4 k k1 (by omega))
    rw [show b + 1 + (c - (b + 1)) = c by omega] at this
    omega
  · have := bcn_gap (s := s) (8 - (b + 1)) (b + 1) (fun k k1 k2 => h5 k k1 (by omega))
    rw [show b + 1 + (8 - (b + 1)) = 8 by omega] at this
    omega
theorem seat_last {s b K : Nat} (hb : b < 8) (ht : s.testBit b = true) (hK : bcn s b = K) (h : bcn s 8 = K + 1) (hs : s < 256) : ∀ k, b + 1 ≤ k → s.testBit k = false := by
  have e1 : bcn s (b + 1) = K + 1 := by show bcn s b + (if s.testBit b then 1 else 0) = _; rw [ht, hK]; rfl
  rcases next_seat (s := s) (8 - (b + 1)) (b + 1) (by omega) with ⟨c, h1, h2, h3, h4⟩ | h5
  · have e2 : bcn s (c + 1) = bcn s c + 1 := by show bcn s c + (if s.testBit c then 1 else 0) = _; rw [h3]; rfl
    have e3 := bcn_mono (s := s) (a := b + 1) (c - (b + 1))
    rw [show b + 1 + (c - (b + 1)) = c by omega] at e3
    have e4 := bcn_mono (s := s) (a := c + 1) (8 - (c + 1))
    rw [show c + 1 + (8 - (c + 1)) = 8 by omega] at e4
    omega
  · intro k hk
    by_cases c : k < 8
    · exact h5 k hk c
    · exact Nat.testBit_lt_two_pow (Nat.lt_of_lt_of_le hs (Nat.pow_le_pow_right (n := 2) (i := 8) (by omega) (by omega)))
/-! the words of a step -/
theorem st_zero {z0 b i : Nat} (hb : b < 8) (hz : z0 < 2 ^ b) (hi : i < 4) : i32 (z0 : Int) ||| ((i32 (i : Int) &&& 1) <<< (i32 (b : Int) &&& 31)) = i32 ((z0 + i % 2 * 2 ^ b : Nat) : Int) := by
  rw [show (1 : Int32) = i32 ((1 : Nat) : Int) from rfl, i32_and, i32_31 (by omega), i32_shl (by omega), i32_or, Nat.and_one_is_mod, Nat.or_comm, ← Nat.shiftLeft_eq, ← Nat.shiftLeft_add_eq_or_of_lt hz, Nat.add_comm, Nat.shiftLeft_eq]
theorem st_one {o0 b i : Nat} (hb : b < 8) (hz : o0 < 2 ^ b) (hi : i < 4) : i32 (o0 : Int) ||| ((i32 (i : Int) >>> ((1 : Int32) &&& 31)) <<< (i32 (b : Int) &&& 31)) = i32 ((o0 + i / 2 * 2 ^ b : Nat) : Int) := by
  rw [show (1 : Int32) &&& 31 = i32 ((1 : Nat) : Int) by decide, i32_shr (by omega) (by omega), i32_31 (by omega), i32_shl (by omega), i32_or, show i >>> 1 = i / 2 from Nat.shiftRight_eq_div_pow i 1, Nat.or_comm, ← Nat.shiftLeft_eq, ← Nat.shiftLeft_add_eq_or_of_lt hz, Nat.add_comm, Nat.shiftLeft_eq]
theorem st_lt {z0 b e : Nat} (hz : z0 < 2 ^ b) (he : e ≤ 1) : z0 + e * 2 ^ b < 2 ^ (b + 1) := by
  rw [Nat.pow_succ]
  rcases (show e = 0 ∨ e = 1 by omega) with rfl | rfl <;> omega
theorem st_bit {z0 b e : Nat} (hz : z0 < 2 ^ b) (he : e ≤ 1) : (z0 + e * 2 ^ b).testBit b = decide (e = 1) := by
  rcases (show e = 0 ∨ e = 1 by omega) with rfl | rfl
  · rw [Nat.zero_mul, Nat.add_zero, Nat.testBit_lt_two_pow hz]; rfl
  · rw [Nat.one_mul, Nat.add_comm, Nat.testBit_two_pow_add_eq, Nat.testBit_lt_two_pow hz]; rfl
theorem st_low {z0 b e k : Nat} (hz : z0 < 2 ^ b) (he : e ≤ 1) (hk : k < b) : (z0 + e * 2 ^ b).testBit k = z0.testBit k := by
  rcases (show e = 0 ∨ e = 1 by omega) with rfl | rfl
  · rw [Nat.zero_mul, Nat.add_zero]
  · rw [Nat.one_mul, Nat.add_comm, Nat.testBit_two_pow_add_gt hk]
theorem st_both {z0 o0 b i : Nat} (hz : z0 < 2 ^ b) (ho : o0 < 2 ^ b) (hi : i < 4) : i32 (i : Int) = i32 (((if (z0 + i % 2 * 2 ^ b).testBit b then 1 else 0) ||| (if (o0 + i / 2 * 2 ^ b).testBit b then 2 else 0) : Nat) : Int) := by
  rw [st_bit hz (by omega), st_bit ho (by omega)]
  rcases (show i = 0 ∨ i = 1 ∨ i = 2 ∨ i = 3 by omega) with rfl | rfl | rfl | rfl <;> decide
theorem st_sub {z0 b e s : Nat} (hz : z0 < 2 ^ b) (he : e ≤ 1) (hs : z0 &&& s = z0) (ht : s.testBit b = true) : (z0 + e * 2 ^ b) &&& s = z0 + e * 2 ^ b := by
  apply Nat.eq_of_testBit_eq
  intro k
  rw [Nat.testBit_and]
  by_cases c : k < b
  · rw [st_low hz he c, ← Nat.testBit_and, hs]
  · by_cases c2 : k = b
    · rw [c2, ht, Bool.and_true]
    · rw [Nat.testBit_lt_two_pow (Nat.lt_of_lt_of_le (st_lt hz he) (Nat.pow_le_pow_right (by omega) (by omega))), Bool.false_and]
theorem st_cl {s z0 o0 b e1 e2 : Nat} (hz : z0 < 2 ^ b) (ho : o0 < 2 ^ b) (h1 : e1 ≤ 1) (h2 : e2 ≤ 1) (ht : s.testBit b = true) : cl s.testBit (chs y LO (z0 + e1 * 2 ^ b) (o0 + e2 * 2 ^ b)) (b + 1) = chs y LO (z0 + e1 * 2 ^ b) (o0 + e2 * 2 ^ b) b :: cl s.testBit (chs y LO z0 o0) b := by
  show (if s.testBit b then _ else _) = _
  rw [if_pos ht]
  congr 1
  refine cl_ext b (fun k _ => rfl) (fun k hk _ => ?_)
  show chn y LO k _ ((fv y _ _ k : Nat) : Int) 0 = chn y LO k _ ((fv y _ _ k : Nat) : Int) 0
  unfold fv
  rw [st_low hz h1 hk, st_low ho h2 hk]
theorem cl_gap {t : Nat → Bool} {p : Nat → Int} : ∀ (d b : Nat), (∀ k, b ≤ k → k < b + d → t k = false) → cl t p (b + d) = cl t p b := by
  intro d
  induction d with
  | zero => intro b h; rfl
  | succ d ih =>
    intro b h
    show (if t (b + d) then _ else cl t p (b + d)) = _
    rw [h (b + d) (by omega) (by omega), ih b (fun k h1 h2 => h k h1 (by omega))]; rfl
theorem x_voteAfter (hFu : 6000 ≤ Fu) {L : List Int} {p : Int} (p1 : 0 ≤ p) (p2 : p ≤ 100) {vot t : Int32} {a w : Nat → Int64} (h : RT L vot a) (hL : L.length ≤ 7) : Rt (fX8_voteAfter Fu t w vot a (i32 p)) (fun r => RT (p :: L) r.1 r.2) := by
  unfold fX8_voteAfter
  refine Rt.bind (x_vote hFu p1 p2 (L := L) (vot := vot) (a := va_cpy a w 0 0 9) ⟨h.1, h.2.1, fun k hk => ?_⟩ hL) (fun r hr => Rt.ret hr)
  unfold va_cpy
  rw [if_pos ⟨by omega, by omega⟩, show 0 + (k - 0) = k by omega]
  exact h.2.2 k hk
end PAIRS
