theorem x_fill {Fu Ln : Nat} (hLn : Ln ≤ 5000) (v : Int32) : ∀ (d k j : Nat) (a : Nat → Int32), j + d = Ln → d < k → ∃ a', fJ7_fill_53178_L5 Fu Ln k a v (i32 (j : Int)) (i32 (Ln : Int)) = some a' ∧ (∀ i, j ≤ i → i < Ln → a' i = v) ∧ (∀ i, i < j ∨ Ln ≤ i → a' i = a i) := by
  intro d
  induction d with
  | zero =>
    intro k j a h1 h2
    obtain ⟨k, rfl⟩ : ∃ k', k = k' + 1 := ⟨k - 1, by omega⟩
    refine ⟨a, ?_, fun i _ _ => by omega, fun i _ => rfl⟩
    show (if i32 (Ln : Int) ≤ i32 (j : Int) then some a else _) = _
    rw [if_pos]
    rw [i32_le (by omega) (by omega) (by omega) (by omega)]; omega
  | succ d ih =>
    intro k j a h1 h2
    obtain ⟨k, rfl⟩ : ∃ k', k = k' + 1 := ⟨k - 1, by omega⟩
    obtain ⟨a', e1, e2, e3⟩ := ih k (j + 1) (va_up a j v) (by omega) (by omega)
    refine ⟨a', ?_, fun i g1 g2 => ?_, fun i g => ?_⟩
    · show (if i32 (Ln : Int) ≤ i32 (j : Int) then some a else gd (i32 (j : Int)) Ln (fJ7_fill_53178_L5 Fu Ln k (va_up a (i32 (j : Int)).toNatClampNeg v) v (i32 (j : Int) + 1) (i32 (Ln : Int)))) = _
      rw [if_neg (by rw [i32_le (by omega) (by omega) (by omega) (by omega)]; omega), gd_ok (by omega) (by omega) (by omega), i32_nat (by omega) (by omega), i32_litN 1, i32_add]
      exact e1
    · by_cases e : i = j
      · subst e; rw [e3 i (by omega), va_up_at]
      · exact e2 i (by omega) g2
    · rw [e3 i (by omega), va_up_ne _ _ (by omega)]
section Q
variable {y : Nat → Int} {row : Nat → Int32} {beasts meals seats laws inForce cases : Int32} {tr mh te rs ju vo : Nat → Int32} {last known status thrown : Int32} {a78 refusals : Nat → Int32}
theorem q_fast {Fu : Nat} (hFu : 6000 ≤ Fu) (hM : RM y row) (hW : WF y) (hX : RX y beasts meals seats laws inForce tr mh te cases rs ju vo) :
    ∃ Rx Rm y', fX11_fast Fu meals mh known = some Rx ∧ fX12_fast thrown row = some Rm ∧ Rx.1 = Rm.1 ∧ RM y' Rm.2.2 ∧ WF y' ∧ RX y' beasts Rx.2.1 seats laws inForce tr Rx.2.2.1 te cases rs ju vo ∧ EqL y y' ∧ Rx.2.2.2 = 0 := by
  obtain ⟨a', e1, e2, e3⟩ := x_fill (Fu := Fu) (Ln := 8) (by omega) 0 8 Fu 0 mh (by omega) (by omega)
  have e4 : fX11_fast Fu meals mh known = some (meals, 0, a', 0) := by
    unfold fX11_fast fJ7_fill_53178
    have : fJ7_fill_53178_L5 Fu 8 Fu mh 0 0 (Int32.ofNat 8) = some a' := e1
    rw [this]; rfl
  have e5 : fX12_fast thrown row = some (row 1, 0, va_up row 1 0) := by
    unfold fX12_fast
    rw [show (1 : Int32) = i32 1 from rfl, gd_ok (by omega) (by omega) (by omega), gd_ok (by omega) (by omega) (by omega)]; rfl
  refine ⟨_, _, va_up y 1 0, e4, e5, ?_, hM.up 1 0, ?_, ?_, EqL.up (by omega) (by omega), rfl⟩
  · show meals = row 1
    rw [hX.2.1, hM 1 (by omega)]
  · unfold WF at hW ⊢
    simp (disch := omega) only [va_up_ne y 0, va_up_at]
    obtain ⟨h1, h2, h3, h4, h5, h6, h7, h8, h9, h10⟩ := hW
    exact ⟨h1, by omega, h3, h4, h5, h6, h7, h8, fun k hk => by omega, h10⟩
  · unfold RX at hX ⊢
    simp (disch := omega) only [va_up_ne y 0, va_up_at]
    obtain ⟨h1, h2, h3, h4, h5, h6, h7, h8, h9, h10⟩ := hX
    refine ⟨h1, rfl, h3, h4, h5, h6, h7, fun b hb => ⟨0, ?_, by omega, fun h hh => ?_⟩, h9, h10⟩
    · show a' b = i32 0
      rw [e2 b (by omega) hb]; rfl
    · simp; intro k hk; omega
end Q
