/-! ===== the yard as a row of integers ===== -/
/-- lowest and highest of a term -/
def loP (t : Nat) : Int := if t = 0 then 1 else 0
def hiP (t : Nat) : Int := if t = 0 then 8 else if t = 1 then 23 else if t = 2 then 1 else if t = 5 then 100 else 999
def RM (y : Nat → Int) (row : Nat → Int32) : Prop := ∀ k, k < 5570 → row k = i32 (y k)
def WF (y : Nat → Int) : Prop :=
  (0 ≤ y 0 ∧ y 0 ≤ 8) ∧ (0 ≤ y 1 ∧ y 1 ≤ 24) ∧ (0 ≤ y 2 ∧ y 2 ≤ 6) ∧ (-1 ≤ y 3 ∧ y 3 < y 2) ∧ (0 ≤ y 4 ∧ y 4 < 2 ^ (y 0).toNat) ∧
  (∀ t, t < 6 → loP t ≤ y (5 + t) ∧ y (5 + t) ≤ hiP t) ∧ (0 ≤ y 11 ∧ y 11 ≤ 20) ∧ (∀ k, k < 48 → 0 ≤ y (12 + k) ∧ y (12 + k) ≤ hiT ((k % 6 : Nat) : Int)) ∧
  (∀ k : Nat, (k : Int) < y 1 → (0 ≤ y (60 + 2 * k) ∧ y (60 + 2 * k) < y 0) ∧ 0 ≤ y (61 + 2 * k) ∧ y (61 + 2 * k) < 24) ∧
  (∀ k : Nat, (k : Int) < y 11 → (0 ≤ y (110 + 3 * k) ∧ y (110 + 3 * k) ≤ 1) ∧ (0 ≤ y (111 + 3 * k) ∧ y (111 + 3 * k) < 256) ∧ 0 ≤ y (112 + 3 * k) ∧ (y (112 + 3 * k)).toNat &&& (y (111 + 3 * k)).toNat = (y (112 + 3 * k)).toNat)
/-- the class's yard: numbers, traits, hours of meals as bits, terms, cases -/
def RX (y : Nat → Int) (beasts meals seats laws inForce : Int32) (tr mh te : Nat → Int32) (cases : Int32) (rs ju vo : Nat → Int32) : Prop :=
  beasts = i32 (y 0) ∧ meals = i32 (y 1) ∧ seats = i32 (y 4) ∧ laws = i32 (y 2) ∧ inForce = i32 (y 3) ∧ (∀ k, k < 48 → tr k = i32 (y (12 + k))) ∧ (∀ t, t < 6 → te t = i32 (y (5 + t))) ∧
  (∀ b, b < 8 → ∃ m : Nat, mh b = i32 (m : Int) ∧ m < 2 ^ 24 ∧ ∀ h, h < 24 → (m.testBit h = true ↔ ∃ k : Nat, (k : Int) < y 1 ∧ y (60 + 2 * k) = (b : Int) ∧ y (61 + 2 * k) = (h : Int))) ∧
  cases = i32 (y 11) ∧ (∀ k : Nat, (k : Int) < y 11 → rs k = i32 (y (110 + 3 * k)) ∧ ju k = i32 (y (111 + 3 * k)) ∧ vo k = i32 (y (112 + 3 * k)))
/-- refusals -/
def RR (last : Int32) (a78 : Nat → Int32) (status : Int32) (refusals : Nat → Int32) : Prop := last = status ∧ ∀ k, k < 7 → a78 k = refusals k
theorem RM.up {y : Nat → Int} {row : Nat → Int32} (h : RM y row) (k : Nat) (z : Int) : RM (va_up y k z) (va_up row k (i32 z)) := by
  intro j hj
  unfold va_up
  by_cases e : j = k
  · rw [if_pos e, if_pos e]
  · rw [if_neg e, if_neg e]; exact h j hj
theorem x_refuse {last : Int32} {a : Nat → Int32} {z : Int} (h1 : -6 ≤ z) (h2 : z < 0) : fX11_refuse last a (i32 z) = some (i32 z, i32 z, va_up a (-z).toNat (a (-z).toNat + 1)) := by
  unfold fX11_refuse
  simp (disch := omega) only [i32_neg, gd_ok, i32_nat]
theorem v_tell_neg {st : Int32} {a : Nat → Int32} {z : Int} (h1 : -6 ≤ z) (h2 : z < 0) : fX12_tell st a (i32 z) = some (i32 z, i32 z, va_up a (-z).toNat (a (-z).toNat + 1)) := by
  unfold fX12_tell fX12_tell_L10
  have e : ¬ (0 : Int32) ≤ i32 z := by rw [i32_litN 0, i32_le (by omega) (by omega) (by omega) (by omega)]; omega
  rw [if_neg e, if_neg e]
  simp (disch := omega) only [i32_neg, gd_ok, i32_nat]
theorem v_tell {st : Int32} {a : Nat → Int32} {z : Int} (h1 : 0 ≤ z) (h2 : z ≤ 2147483647) : fX12_tell st a (i32 z) = some (i32 z, 0, a) := by
  unfold fX12_tell fX12_tell_L10
  have e : (0 : Int32) ≤ i32 z := by rw [i32_litN 0, i32_le (by omega) (by omega) (by omega) (by omega)]; omega
  rw [if_pos e, if_pos e]
theorem x_accept {last known z : Int32} : fX11_accept last known z = some (z, 0, 0) := rfl
theorem v_change {st : Int32} {row : Nat → Int32} {k : Int} {v : Int32} (h1 : 0 ≤ k) (h2 : k < 5570) : fX12_change st row (i32 k) v = some (row k.toNat, 0, va_up row k.toNat v) := by
  unfold fX12_change fX12_was
  simp (disch := omega) only [gd_ok, i32_nat, Option.bind_some]
theorem RR.ref {last status : Int32} {a78 refusals : Nat → Int32} (h : RR last a78 status refusals) (z : Int32) (k : Nat) : RR z (va_up a78 k (a78 k + 1)) z (va_up refusals k (refusals k + 1)) := by
  refine ⟨rfl, fun j hj => ?_⟩
  unfold va_up
  by_cases e : j = k
  · subst e; rw [if_pos rfl, if_pos rfl, h.2 j hj]
  · rw [if_neg e, if_neg e]; exact h.2 j hj
theorem RR.acc {last status : Int32} {a78 refusals : Nat → Int32} (h : RR last a78 status refusals) : RR 0 a78 0 refusals := ⟨rfl, h.2⟩
