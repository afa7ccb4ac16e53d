section TAPE
variable {Fu : Nat}
/-! the tape -/
def Tp (len : Int32) (a : Nat → Int32) (t : Nat → Int32) (taped : Int32) : Prop := (∃ L : Nat, L ≤ 400 ∧ len = i32 (L : Int) ∧ taped = i32 (L : Int)) ∧ ∀ k, k < 400 → a k = t k
theorem tp_four {x : Int32} : ∀ (d f g L : Nat) (a t : Nat → Int32), L + d ≤ 400 → d < f → d < g → (∀ k, k < 400 → a k = t k) → ∃ a' t', fX9_append_L3 Fu f (i32 (L : Int)) a x (i32 (8 * (d : Int) - 8)) = some (i32 ((L + d : Nat) : Int), a') ∧ fX12_four_L3 Fu g t (i32 (L : Int)) x (i32 (8 * (d : Int) - 8)) = some (t', i32 ((L + d : Nat) : Int)) ∧ ∀ k, k < 400 → a' k = t' k := by
  intro d
  induction d with
  | zero =>
    intro f g L a t hL hf hg h
    obtain ⟨f, rfl⟩ : ∃ f', f = f' + 1 := ⟨f - 1, by omega⟩
    obtain ⟨g, rfl⟩ : ∃ f', g = f' + 1 := ⟨g - 1, by omega⟩
    refine ⟨a, t, ?_, ?_, h⟩
    · rw [fX9_append_L3]; exact if_pos (by decide)
    · rw [fX12_four_L3]; exact if_pos (by decide)
  | succ d ih =>
    intro f g L a t hL hf hg h
    obtain ⟨f, rfl⟩ : ∃ f', f = f' + 1 := ⟨f - 1, by omega⟩
    obtain ⟨g, rfl⟩ : ∃ f', g = f' + 1 := ⟨g - 1, by omega⟩
    have e1 : i32 (8 * ((d + 1 : Nat) : Int) - 8) + (-8 : Int32) = i32 (8 * (d : Int) - 8) := by
      rw [show (-8 : Int32) = i32 (-8) from rfl, i32_add]; exact congrArg i32 (by omega)
    have n1 : ¬ i32 (8 * ((d + 1 : Nat) : Int) - 8) < 0 := by rw [i32_litN 0, i32_lt (by omega) (by omega) (by omega) (by omega)]; omega
    have n2 : ¬ (400 : Int32) ≤ i32 (L : Int) := by rw [i32_litN 400, i32_le (by omega) (by omega) (by omega) (by omega)]; omega
    obtain ⟨a', t', g1, g2, g3⟩ := ih f g (L + 1) (va_up a L ((x >>> (i32 (8 * ((d + 1 : Nat) : Int) - 8) &&& 31)) &&& 255)) (va_up t L ((x >>> (i32 (8 * ((d + 1 : Nat) : Int) - 8) &&& 31)) &&& 255)) (by omega) (by omega) (by omega) (fun k hk => by
      by_cases c : k = L
      · subst c; rw [va_up_at, va_up_at]
      · rw [va_up_ne _ _ c, va_up_ne _ _ c]; exact h k hk)
    rw [show L + 1 + d = L + (d + 1) by omega] at g1 g2
    refine ⟨a', t', ?_, ?_, g3⟩
    · rw [fX9_append_L3, if_neg n1, if_neg n2, gd_ok (by omega) (by omega) (by omega), i32_nat (by omega) (by omega), Int.toNat_natCast, i32_p1, e1]; exact g1
    · rw [fX12_four_L3, if_neg n1, gd_ok (by omega) (by omega) (by omega), i32_nat (by omega) (by omega), Int.toNat_natCast, i32_p1, e1]; exact g2
theorem q_feed (hFu : 6000 ≤ Fu) {th len taped : Int32} {a t : Nat → Int32} (h : Tp len a t taped) (x1 x2 x3 x4 x5 : Int32) : ∃ Rx Rm, fX11_feed Fu len a x1 x2 x3 x4 x5 = some Rx ∧ fX12_feed Fu th t taped x1 x2 x3 x4 x5 = some Rm ∧ Rx.1 = Rm.1 ∧ Tp Rx.2.1 Rx.2.2 Rm.2.2.1 Rm.2.2.2 := by
  obtain ⟨⟨L, hL, rfl, rfl⟩, h⟩ := h
  have one : ∀ (x : Int32) (L : Nat) (a t : Nat → Int32), L + 4 ≤ 400 → (∀ k, k < 400 → a k = t k) → ∃ a' t', fX9_append Fu (i32 (L : Int)) a x = some (i32 ((L + 4 : Nat) : Int), a') ∧ fX12_four Fu t (i32 (L : Int)) x = some (t', i32 ((L + 4 : Nat) : Int)) ∧ ∀ k, k < 400 → a' k = t' k :=
    fun x L a t hL h => tp_four 4 Fu Fu L a t hL (by omega) (by omega) h
  have ec : (i32 (L : Int) + 20 ≤ 400) = (L + 20 ≤ 400) := by
    rw [i32_litN 20, i32_litN 400, i32_add, i32_le (by omega) (by omega) (by omega) (by omega)]
    apply propext; omega
  unfold fX11_feed fX12_feed
  by_cases c : L + 20 ≤ 400
  · rw [if_pos (ec.mpr c), if_pos (ec.mpr c)]
    obtain ⟨a1, t1, g1, m1, h1⟩ := one x1 L a t (by omega) h
    obtain ⟨a2, t2, g2, m2, h2⟩ := one x2 (L + 4) a1 t1 (by omega) h1
    obtain ⟨a3, t3, g3, m3, h3⟩ := one x3 (L + 4 + 4) a2 t2 (by omega) h2
    obtain ⟨a4, t4, g4, m4, h4⟩ := one x4 (L + 4 + 4 + 4) a3 t3 (by omega) h3
    obtain ⟨a5, t5, g5, m5, h5⟩ := one x5 (L + 4 + 4 + 4 + 4) a4 t4 (by omega) h4
    rw [g1, m1, Option.bind_some, Option.bind_some, g2, m2, Option.bind_some, Option.bind_some, g3, m3, Option.bind_some, Option.bind_some, g4, m4, Option.bind_some, Option.bind_some, g5, m5, Option.bind_some, Option.bind_some]
    exact ⟨_, _, rfl, rfl, rfl, ⟨_, by omega, rfl, rfl⟩, h5⟩
  · rw [if_neg (fun q => c (ec.mp q)), if_neg (fun q => c (ec.mp q))]
    exact ⟨_, _, rfl, rfl, rfl, ⟨L, hL, rfl, rfl⟩, h⟩
theorem q_end {th len taped : Int32} {a t : Nat → Int32} (h : Tp len a t taped) (x1 : Int32) : ∃ Rx Rm, fX11_end len x1 = some Rx ∧ fX12_end th taped x1 = some Rm ∧ Rx.1 = Rm.1 ∧ Tp Rx.2 a t Rm.2.2 := by
  obtain ⟨⟨L, hL, rfl, rfl⟩, h⟩ := h
  obtain ⟨z, z0, z1, rfl⟩ := i32_any x1
  unfold fX11_end fX12_end
  by_cases c : i32 z < 0
  · rw [if_pos c, if_pos c]
    exact ⟨_, _, rfl, rfl, rfl, ⟨L, hL, rfl, rfl⟩, h⟩
  · rw [if_neg c, if_neg c]
    rw [i32_litN 0, i32_lt (by omega) (by omega) (by omega) (by omega)] at c
    by_cases d : i32 z ≤ i32 (L : Int)
    · rw [if_pos d, if_pos d]
      rw [i32_le (by omega) (by omega) (by omega) (by omega)] at d
      exact ⟨_, _, rfl, rfl, rfl, ⟨z.toNat, by omega, congrArg i32 (by omega), congrArg i32 (by omega)⟩, h⟩
    · rw [if_neg d, if_neg d]
      exact ⟨_, _, rfl, rfl, rfl, ⟨L, hL, rfl, rfl⟩, h⟩
end TAPE
