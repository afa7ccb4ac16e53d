section ANNUL
variable {y : Nat → Int} {row : Nat → Int32} {beasts meals seats laws inForce cases : Int32} {tr mh te rs ju vo : Nat → Int32} {last status known thrown : Int32} {a78 refusals : Nat → Int32} {Fu : Nat}
/-! a case less -/
theorem dr_step {a : Nat → Int32} {j k : Nat} (hj : 1 ≤ j) : (if k + 1 < j + 1 then va_up a (j - 1) (a j) k else va_up a (j - 1) (a j) (k + 1)) = if k + 1 < j then a k else a (k + 1) := by
  by_cases c : k + 1 < j
  · rw [if_pos (by omega), if_pos c, va_up_ne _ _ (by omega)]
  · rw [if_neg c]
    by_cases d : k + 1 = j
    · rw [if_pos (by omega), show k = j - 1 by omega, va_up_at, show j - 1 + 1 = j by omega]
    · rw [if_neg (by omega), va_up_ne _ _ (by omega)]
theorem x_dropL {n : Nat} (hn : n ≤ 20) : ∀ (d f j : Nat) (a1 a2 a3 : Nat → Int32), j + d = n → 1 ≤ j → d < f → Rt (fX2_drop_L4 Fu f (i32 (n : Int)) a1 a2 a3 (i32 (j : Int))) (fun r => r.1 = i32 ((n : Int) - 1) ∧ ∀ k, k + 1 < n → r.2.1 k = (if k + 1 < j then a1 k else a1 (k + 1)) ∧ r.2.2.1 k = (if k + 1 < j then a2 k else a2 (k + 1)) ∧ r.2.2.2 k = (if k + 1 < j then a3 k else a3 (k + 1))) := by
  intro d
  induction d with
  | zero =>
    intro f j a1 a2 a3 hj h1 hf
    obtain ⟨f, rfl⟩ : ∃ f', f = f' + 1 := ⟨f - 1, by omega⟩
    rw [fX2_drop_L4]
    refine Rt.ift (by rw [i32_le (by omega) (by omega) (by omega) (by omega)]; omega) (Rt.ret ⟨i32_sub _ 1, fun k hk => ?_⟩)
    rw [if_pos (by omega), if_pos (by omega), if_pos (by omega)]; exact ⟨rfl, rfl, rfl⟩
  | succ d ih =>
    intro f j a1 a2 a3 hj h1 hf
    obtain ⟨f, rfl⟩ : ∃ f', f = f' + 1 := ⟨f - 1, by omega⟩
    rw [fX2_drop_L4]
    refine Rt.iff (by rw [i32_le (by omega) (by omega) (by omega) (by omega)]; omega) ?_
    rw [show i32 (j : Int) - 1 = i32 ((j - 1 : Nat) : Int) by rw [i32_litN 1, i32_sub]; exact congrArg i32 (by omega)]
    refine Rt.gd (by omega) (by omega) (by omega) (Rt.gd (by omega) (by omega) (by omega) (Rt.gd (by omega) (by omega) (by omega) (Rt.gd (by omega) (by omega) (by omega) (Rt.gd (by omega) (by omega) (by omega) (Rt.gd (by omega) (by omega) (by omega) ?_)))))
    rw [i32_nat (by omega) (by omega), i32_nat (by omega) (by omega), Int.toNat_natCast, Int.toNat_natCast, i32_p1]
    refine (ih f (j + 1) _ _ _ (by omega) (by omega) (by omega)).mono (fun r hr => ⟨hr.1, fun k hk => ?_⟩)
    obtain ⟨g1, g2, g3⟩ := hr.2 k hk
    rw [g1, g2, g3]
    exact ⟨dr_step h1, dr_step h1, dr_step h1⟩
def shY (y : Nat → Int) (lo k : Nat) : Nat → Int := fun j => if lo ≤ j ∧ j < k then y (j + 3) else y j
def anY (y : Nat → Int) (n i : Nat) : Nat → Int := va_up (shY y (110 + 3 * i) 167) 11 ((n : Int) - 1)
theorem v_annL {n i : Nat} (e : y 11 = (n : Int)) (hn : n ≤ 20) (hi : i < n) {th st : Int32} {ref : Nat → Int32} : ∀ (d f k : Nat) (row : Nat → Int32), k + d = 167 → 110 + 3 * i ≤ k → d < f → RM (shY y (110 + 3 * i) k) row → Rt (fX12_annul_L38 Fu f th st ref row (i32 (k : Int))) (fun r => r.1 = i32 ((n : Int) - 1) ∧ r.2.2.1 = 0 ∧ r.2.2.2.1 = ref ∧ RM (anY y n i) r.2.2.2.2) := by
  intro d
  induction d with
  | zero =>
    intro f k row hk h1 hf hM
    obtain ⟨f, rfl⟩ : ∃ f', f = f' + 1 := ⟨f - 1, by omega⟩
    obtain rfl : k = 167 := by omega
    have e11 : row 11 = i32 (n : Int) := by
      rw [hM 11 (by omega)]
      show i32 (if 110 + 3 * i ≤ 11 ∧ 11 < 167 then y (11 + 3) else y 11) = _
      rw [if_neg (by omega), e]
    rw [fX12_annul_L38]
    refine Rt.ift (by rw [i32_litN 167, i32_le (by omega) (by omega) (by omega) (by omega)]; omega) ?_
    rw [gd9 (by decide) (by decide), gd9 (by decide) (by decide), gd9 (by decide) (by decide), i32_nn9 (by decide), va_up_at, e11, show i32 (n : Int) - 1 = i32 ((n : Int) - 1) from i32_sub _ 1, v_tell (by omega) (by omega)]
    exact Rt.eqb rfl (Rt.ret ⟨rfl, rfl, rfl, hM.up _ _⟩)
  | succ d ih =>
    intro f k row hk h1 hf hM
    obtain ⟨f, rfl⟩ : ∃ f', f = f' + 1 := ⟨f - 1, by omega⟩
    rw [fX12_annul_L38]
    refine Rt.iff (by rw [i32_litN 167, i32_le (by omega) (by omega) (by omega) (by omega)]; omega) ?_
    rw [show i32 (k : Int) + 3 = i32 ((k + 3 : Nat) : Int) by rw [i32_litN 3, i32_add]; exact congrArg i32 (by omega)]
    refine Rt.gd (by omega) (by omega) (by omega) (Rt.gd (by omega) (by omega) (by omega) ?_)
    rw [i32_nat (by omega) (by omega), i32_nat (by omega) (by omega), Int.toNat_natCast, Int.toNat_natCast, i32_p1]
    refine ih f (k + 1) _ (by omega) (by omega) (by omega) (fun j hj => ?_)
    show _ = i32 (if 110 + 3 * i ≤ j ∧ j < k + 1 then y (j + 3) else y j)
    by_cases c : j = k
    · subst c
      rw [va_up_at, if_pos ⟨h1, by omega⟩, hM (j + 3) (by omega)]
      show i32 (if 110 + 3 * i ≤ j + 3 ∧ j + 3 < j then _ else y (j + 3)) = _
      rw [if_neg (by omega)]
    · rw [va_up_ne _ _ c, hM j hj]
      show i32 (if 110 + 3 * i ≤ j ∧ j < k then y (j + 3) else y j) = _
      by_cases q : 110 + 3 * i ≤ j ∧ j < k
      · rw [if_pos q, if_pos (by omega)]
      · rw [if_neg q, if_neg (by omega)]
end ANNUL
