/-! ===== what steps mean: a piece of a law computes a number of its asker's words, or is broken ===== -/
def okE (e : Nat → Int) : Prop := ∀ j, j < 10 → -1000000000 ≤ e j ∧ e j ≤ 1000000000
def lim (v : Int) : Option Int := if -1000000000 ≤ v ∧ v ≤ 1000000000 then some v else none
def opv (k : Nat) (a b : Int) : Option Int := if k = 2 then lim (a + b) else if k = 3 then lim (a - b) else if k = 4 then lim (a * b) else if k = 5 then (if b = 0 then none else lim (a.tdiv b)) else if k = 6 then some (if a < b then 1 else 0) else if k = 7 then some (if b < a then 1 else 0) else some (if a = b then 1 else 0)
abbrev Mn : Type := (Nat → Int) → Option Int
def mop (k : Nat) (m1 m2 : Mn) : Mn := fun e => (m1 e).bind fun a => (m2 e).bind fun b => opv k a b
def mnot (m : Mn) : Mn := fun e => (m e).bind fun a => some (1 - a)
def mand (m1 m2 : Mn) : Mn := fun e => (m1 e).bind fun a => if a = 0 then some 0 else m2 e
def mor (m1 m2 : Mn) : Mn := fun e => (m1 e).bind fun a => if a = 1 then some 1 else m2 e
def bdM (m : Mn) : Prop := ∀ e v, okE e → m e = some v → -1000000000 ≤ v ∧ v ≤ 1000000000
def is01 (m : Mn) : Prop := ∀ e v, m e = some v → v = 0 ∨ v = 1
theorem lim_bd {a v : Int} (h : lim a = some v) : v = a ∧ -1000000000 ≤ v ∧ v ≤ 1000000000 := by
  unfold lim at h
  by_cases c : -1000000000 ≤ a ∧ a ≤ 1000000000
  · rw [if_pos c] at h; cases h; exact ⟨rfl, c⟩
  · rw [if_neg c] at h; cases h
theorem lim_0 : lim 0 = some 0 := by unfold lim; rw [if_pos (by omega)]
theorem lim_1 : lim 1 = some 1 := by unfold lim; rw [if_pos (by omega)]
theorem lim_01 (p : Prop) [Decidable p] : some (if p then 1 else 0) = lim (if p then 1 else 0) := by
  by_cases h : p
  · rw [if_pos h, lim_1]
  · rw [if_neg h, lim_0]
theorem opv_bd {k : Nat} {a b v : Int} (h : opv k a b = some v) : -1000000000 ≤ v ∧ v ≤ 1000000000 := by
  unfold opv at h
  by_cases c2 : k = 2
  · rw [if_pos c2] at h; exact (lim_bd h).2
  rw [if_neg c2] at h
  by_cases c3 : k = 3
  · rw [if_pos c3] at h; exact (lim_bd h).2
  rw [if_neg c3] at h
  by_cases c4 : k = 4
  · rw [if_pos c4] at h; exact (lim_bd h).2
  rw [if_neg c4] at h
  by_cases c5 : k = 5
  · rw [if_pos c5] at h
    by_cases c : b = 0
    · rw [if_pos c] at h; cases h
    · rw [if_neg c] at h; exact (lim_bd h).2
  rw [if_neg c5] at h
  by_cases c6 : k = 6
  · rw [if_pos c6] at h; cases h; split <;> omega
  rw [if_neg c6] at h
  by_cases c7 : k = 7
  · rw [if_pos c7] at h; cases h; split <;> omega
  rw [if_neg c7] at h
  cases h; split <;> omega
theorem opv_01 {k : Nat} {a b v : Int} (hk : 6 ≤ k) (h : opv k a b = some v) : v = 0 ∨ v = 1 := by
  unfold opv at h
  rw [if_neg (by omega), if_neg (by omega), if_neg (by omega), if_neg (by omega)] at h
  by_cases c6 : k = 6
  · rw [if_pos c6] at h; cases h; split <;> omega
  rw [if_neg c6] at h
  by_cases c7 : k = 7
  · rw [if_pos c7] at h; cases h; split <;> omega
  rw [if_neg c7] at h
  cases h; split <;> omega
theorem mop_bd {k : Nat} {m1 m2 : Mn} : bdM (mop k m1 m2) := by
  intro e v _ h
  unfold mop at h
  obtain ⟨a, -, h⟩ := Option.bind_eq_some_iff.mp h
  obtain ⟨b, -, h⟩ := Option.bind_eq_some_iff.mp h
  exact opv_bd h
theorem mop_01 {k : Nat} {m1 m2 : Mn} (hk : 6 ≤ k) : is01 (mop k m1 m2) := by
  intro e v h
  unfold mop at h
  obtain ⟨a, -, h⟩ := Option.bind_eq_some_iff.mp h
  obtain ⟨b, -, h⟩ := Option.bind_eq_some_iff.mp h
  exact opv_01 hk h
theorem is01.bd {m : Mn} (h : is01 m) : bdM m := by
  intro e v _ hv
  have := h e v hv
  omega
theorem is01.not {m : Mn} (h : is01 m) : is01 (mnot m) := by
  intro e v hv
  unfold mnot at hv
  obtain ⟨a, h1, h2⟩ := Option.bind_eq_some_iff.mp hv
  cases h2
  have := h e a h1
  omega
theorem is01.and {m1 m2 : Mn} (h2 : is01 m2) : is01 (mand m1 m2) := by
  intro e v hv
  unfold mand at hv
  obtain ⟨a, g1, g2⟩ := Option.bind_eq_some_iff.mp hv
  by_cases c : a = 0
  · rw [if_pos c] at g2; cases g2; exact Or.inl rfl
  · rw [if_neg c] at g2; exact h2 e v g2
theorem is01.or {m1 m2 : Mn} (h2 : is01 m2) : is01 (mor m1 m2) := by
  intro e v hv
  unfold mor at hv
  obtain ⟨a, g1, g2⟩ := Option.bind_eq_some_iff.mp hv
  by_cases c : a = 1
  · rw [if_pos c] at g2; cases g2; exact Or.inr rfl
  · rw [if_neg c] at g2; exact h2 e v g2
theorem mulB {a b : Int} (a1 : -1000000000 ≤ a) (a2 : a ≤ 1000000000) (b1 : -1000000000 ≤ b) (b2 : b ≤ 1000000000) : -1000000000000000000 ≤ a * b ∧ a * b ≤ 1000000000000000000 := by
  have h : (a * b).natAbs ≤ 1000000000 * 1000000000 := by
    rw [Int.natAbs_mul]; exact Nat.mul_le_mul (by omega) (by omega)
  omega
theorem tdivB {a b : Int} (a1 : -1000000000 ≤ a) (a2 : a ≤ 1000000000) : -1000000000 ≤ a.tdiv b ∧ a.tdiv b ≤ 1000000000 := by
  have h : (a.tdiv b).natAbs ≤ a.natAbs := Int.natAbs_tdiv_le_natAbs a b
  omega
theorem i64_tdiv {a b : Int} (a1 : -1000000000 ≤ a) (a2 : a ≤ 1000000000) (b1 : -1000000000 ≤ b) (b2 : b ≤ 1000000000) : i64 a / i64 b = i64 (a.tdiv b) :=
  (Int64.ofInt_tdiv (show (-9223372036854775808 : Int) ≤ a by omega) (show a ≤ 9223372036854775807 by omega) (show (-9223372036854775808 : Int) ≤ b by omega) (show b ≤ 9223372036854775807 by omega)).symm
/-! the class's asker -/
theorem x_push {h : Nat} {sk : Nat → Int64} {v : Int32} (hh : h < 51) : fX0_push (i32 (h : Int)) sk v = some (i32 ((h + 1 : Nat) : Int), va_up sk h v.toInt64) := by
  unfold fX0_push
  simp (disch := omega) only [i32_lit, i32_le, gd_ok, i32_add, i32_nat, Int.toNat_natCast]
  rw [if_neg (by omega), show ((h : Int) + 1) = ((h + 1 : Nat) : Int) by omega]
theorem x_c199 {h : Nat} {sk : Nat → Int64} {v : Int} (hh : h < 51) (v1 : -2000000000000000000 ≤ v) (v2 : v ≤ 2000000000000000000) : fX0_combine_L199 (i32 ((h + 1 : Nat) : Int)) sk (i64 v) = some (if -1000000000 ≤ v ∧ v ≤ 1000000000 then 1 else 0, i32 ((h + 1 : Nat) : Int), va_up sk h (i64 v)) := by
  unfold fX0_combine_L199 fX0_combine_L234
  rw [show i32 ((h + 1 : Nat) : Int) - 1 = i32 (h : Int) by rw [i32_litN 1, i32_sub]; congr 1; omega]
  simp (disch := omega) only [i64_lit, i64_neg, i64_lt, gd_ok, i32_nat, Int.toNat_natCast]
  by_cases c1 : v < -1000000000
  · rw [if_pos c1, if_neg (by omega)]
  · rw [if_neg c1]
    by_cases c2 : 1000000000 < v
    · rw [if_pos c2, if_neg (by omega)]
    · rw [if_neg c2, if_pos (by omega)]
theorem i32_kne {k j : Nat} (hk : k < 100000) (hj : j < 100000) (h : k ≠ j) : ¬ i32 (k : Int) = (OfNat.ofNat j : Int32) := by
  rw [i32_litN j, i32_eq (by omega) (by omega) (by omega) (by omega)]; omega
theorem x_combine {h k : Nat} {sk : Nat → Int64} {a b : Int} (hh : h + 2 ≤ 51) (hk : 2 ≤ k) (hk2 : k ≤ 8) (ha : sk h = i64 a) (hb : sk (h + 1) = i64 b) (a1 : -1000000000 ≤ a) (a2 : a ≤ 1000000000) (b1 : -1000000000 ≤ b) (b2 : b ≤ 1000000000) :
    (∀ v, opv k a b = some v → fX0_combine (i32 ((h + 2 : Nat) : Int)) sk (i32 (k : Int)) = some (1, i32 ((h + 1 : Nat) : Int), va_up sk h (i64 v))) ∧ (opv k a b = none → ∃ h' sk', fX0_combine (i32 ((h + 2 : Nat) : Int)) sk (i32 (k : Int)) = some (0, h', sk')) := by
  have hm := mulB a1 a2 b1 b2
  have ht := tdivB (b := b) a1 a2
  have e1 : i32 ((h + 2 : Nat) : Int) - 1 = i32 ((h + 1 : Nat) : Int) := by rw [i32_litN 1, i32_sub]; congr 1; omega
  have e2 : i32 ((h + 1 : Nat) : Int) - 1 = i32 (h : Int) := by rw [i32_litN 1, i32_sub]; congr 1; omega
  have key : ∀ v : Int, -2000000000000000000 ≤ v → v ≤ 2000000000000000000 → ((∀ w, lim v = some w → fX0_combine_L199 (i32 ((h + 1 : Nat) : Int)) sk (i64 v) = some (1, i32 ((h + 1 : Nat) : Int), va_up sk h (i64 w))) ∧ (lim v = none → ∃ h' sk', fX0_combine_L199 (i32 ((h + 1 : Nat) : Int)) sk (i64 v) = some (0, h', sk'))) := by
    intro v v1 v2
    rw [x_c199 (by omega) v1 v2]
    unfold lim
    by_cases c : -1000000000 ≤ v ∧ v ≤ 1000000000
    · rw [if_pos c, if_pos c]
      exact ⟨fun w hw => (by cases hw; rfl), fun hw => (by cases hw)⟩
    · rw [if_neg c, if_neg c]
      exact ⟨fun w hw => (by cases hw), fun _ => ⟨_, _, rfl⟩⟩
  have b31 : fX0_combine_L31 (i32 ((h + 2 : Nat) : Int)) sk (i32 (k : Int)) = if k = 2 then fX0_combine_L199 (i32 ((h + 1 : Nat) : Int)) sk (i64 (a + b)) else if k = 3 then fX0_combine_L199 (i32 ((h + 1 : Nat) : Int)) sk (i64 (a - b)) else if k = 4 then fX0_combine_L199 (i32 ((h + 1 : Nat) : Int)) sk (i64 (a * b)) else if k = 5 then (if b = 0 then fX0_combine_L199 (i32 ((h + 1 : Nat) : Int)) sk 0 else fX0_combine_L199 (i32 ((h + 1 : Nat) : Int)) sk (i64 (a.tdiv b))) else if k = 6 then fX0_combine_L199 (i32 ((h + 1 : Nat) : Int)) sk (i64 (if a < b then 1 else 0)) else if k = 7 then fX0_combine_L199 (i32 ((h + 1 : Nat) : Int)) sk (i64 (if b < a then 1 else 0)) else fX0_combine_L199 (i32 ((h + 1 : Nat) : Int)) sk (i64 (if a = b then 1 else 0)) := by
    unfold fX0_combine_L31 fX0_combine_L197
    rw [e1, e2, gd_ok (by omega) (by omega) (by omega), gd_ok (by omega) (by omega) (by omega), i32_nat (by omega) (by omega), i32_nat (by omega) (by omega), Int.toNat_natCast, Int.toNat_natCast, ha, hb]
    by_cases c2 : k = 2
    · subst c2
      rw [if_pos (show i32 ((2 : Nat) : Int) = 2 from rfl), if_pos (show 2 = 2 from rfl), i64_add]
    rw [if_neg (i32_kne (by omega) (by omega) c2), if_neg c2]
    by_cases c3 : k = 3
    · subst c3
      rw [if_pos (show i32 ((3 : Nat) : Int) = 3 from rfl), if_pos (show 3 = 3 from rfl), i64_sub]
    rw [if_neg (i32_kne (by omega) (by omega) c3), if_neg c3]
    by_cases c4 : k = 4
    · subst c4
      rw [if_pos (show i32 ((4 : Nat) : Int) = 4 from rfl), if_pos (show 4 = 4 from rfl), i64_mul]
    rw [if_neg (i32_kne (by omega) (by omega) c4), if_neg c4]
    by_cases c5 : k = 5
    · subst c5
      rw [if_pos (show i32 ((5 : Nat) : Int) = 5 from rfl), if_pos (show 5 = 5 from rfl), i64_tdiv a1 a2 b1 b2]
      by_cases c : b = 0
      · rw [if_pos c, c, if_pos (show i64 0 = 0 from rfl)]
      · rw [if_neg c, gzl_ok c (by omega) (by omega), if_neg]
        rw [i64_litN 0, i64_eq (by omega) (by omega) (by omega) (by omega)]; exact c
    rw [if_neg (i32_kne (by omega) (by omega) c5), if_neg c5]
    by_cases c6 : k = 6
    · subst c6
      rw [if_pos (show i32 ((6 : Nat) : Int) = 6 from rfl), if_pos (show 6 = 6 from rfl)]
      simp (disch := omega) only [i64_le]
      by_cases c : b ≤ a
      · rw [if_neg (show ¬ a < b by omega), if_pos c]; rfl
      · rw [if_pos (show a < b by omega), if_neg c]; rfl
    rw [if_neg (i32_kne (by omega) (by omega) c6), if_neg c6]
    by_cases c7 : k = 7
    · subst c7
      rw [if_pos (show i32 ((7 : Nat) : Int) = 7 from rfl), if_pos (show 7 = 7 from rfl)]
      simp (disch := omega) only [i64_le]
      by_cases c : a ≤ b
      · rw [if_neg (show ¬ b < a by omega), if_pos c]; rfl
      · rw [if_pos (show b < a by omega), if_neg c]; rfl
    rw [if_neg (i32_kne (by omega) (by omega) c7), if_neg c7]
    simp (disch := omega) only [i64_eq]
    by_cases c : a = b
    · rw [if_pos c, if_pos c]; rfl
    · rw [if_neg c, if_neg c]; rfl
  have top : fX0_combine (i32 ((h + 2 : Nat) : Int)) sk (i32 (k : Int)) = if k = 5 ∧ b = 0 then some (0, i32 ((h + 2 : Nat) : Int), sk) else fX0_combine_L31 (i32 ((h + 2 : Nat) : Int)) sk (i32 (k : Int)) := by
    unfold fX0_combine
    rw [e1, gd_ok (by omega) (by omega) (by omega), i32_nat (by omega) (by omega), Int.toNat_natCast, hb]
    simp (disch := omega) only [i32_lit, i64_lit, i32_lt, i32_eq, i64_eq]
    rw [if_neg (by omega)]
    by_cases c5 : (k : Int) = 5
    · by_cases c : b = 0
      · rw [if_pos c5, if_pos c, if_pos (by omega)]
      · rw [if_pos c5, if_neg c, if_neg (fun q => c q.2)]
    · rw [if_neg c5, if_neg (fun q => c5 (by omega))]
  rw [top, b31]
  by_cases c5 : k = 5 ∧ b = 0
  · rw [if_pos c5]
    have : opv k a b = none := by rw [c5.1]; show (if b = 0 then none else lim (a.tdiv b)) = none; rw [if_pos c5.2]
    rw [this]
    exact ⟨fun v hv => (by cases hv), fun _ => ⟨_, _, rfl⟩⟩
  rw [if_neg c5]
  have hk' : k = 2 ∨ k = 3 ∨ k = 4 ∨ k = 5 ∨ k = 6 ∨ k = 7 ∨ k = 8 := by omega
  rcases hk' with rfl | rfl | rfl | rfl | rfl | rfl | rfl
  · exact key _ (by omega) (by omega)
  · exact key _ (by omega) (by omega)
  · exact key _ (by omega) (by omega)
  · have c : ¬ b = 0 := fun q => c5 ⟨rfl, q⟩
    have o : opv 5 a b = lim (a.tdiv b) := by show (if b = 0 then none else lim (a.tdiv b)) = _; rw [if_neg c]
    rw [o, if_neg c]
    exact key _ (by omega) (by omega)
  · have o : opv 6 a b = lim (if a < b then 1 else 0) := by exact lim_01 (a < b)
    rw [o]; exact key _ (by split <;> omega) (by split <;> omega)
  · have o : opv 7 a b = lim (if b < a then 1 else 0) := by exact lim_01 (b < a)
    rw [o]; exact key _ (by split <;> omega) (by split <;> omega)
  · have o : opv 8 a b = lim (if a = b then 1 else 0) := by exact lim_01 (a = b)
    rw [o]; exact key _ (by split <;> omega) (by split <;> omega)
