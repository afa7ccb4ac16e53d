/-- laws stay -/
def EqL (y y' : Nat → Int) : Prop := y' 2 = y 2 ∧ ∀ k, 170 ≤ k → y' k = y k
theorem EqL.rfl {y : Nat → Int} : EqL y y := ⟨Eq.refl _, fun _ _ => Eq.refl _⟩
theorem EqL.up {y : Nat → Int} {k : Nat} {z : Int} (h : k < 170) (h2 : k ≠ 2) : EqL y (va_up y k z) := ⟨va_up_ne y z (by omega), fun j hj => va_up_ne y z (by omega)⟩
theorem i32_eta {x : Int32} {z : Int} (h : x.toInt = z) : x = i32 z := by rw [← h, i32_self]
section Q
variable {y : Nat → Int} {row : Nat → Int32} {beasts meals seats laws inForce cases : Int32} {tr mh te rs ju vo : Nat → Int32} {last known status thrown : Int32} {a78 refusals : Nat → Int32}
theorem RX.tr' (h : RX y beasts meals seats laws inForce tr mh te cases rs ju vo) {k : Nat} (hk : k < 48) (z : Int) : RX (va_up y (12 + k) z) beasts meals seats laws inForce (va_up tr k (i32 z)) mh te cases rs ju vo := by
  obtain ⟨h1, h2, h3, h4, h5, h6, h7, h8, h9, h10⟩ := h
  refine ⟨?_, ?_, ?_, ?_, ?_, ?_, ?_, ?_, ?_, ?_⟩
  · rw [va_up_ne y z (by omega)]; exact h1
  · rw [va_up_ne y z (by omega)]; exact h2
  · rw [va_up_ne y z (by omega)]; exact h3
  · rw [va_up_ne y z (by omega)]; exact h4
  · rw [va_up_ne y z (by omega)]; exact h5
  · intro j hj
    unfold va_up
    by_cases e : j = k
    · rw [if_pos e, if_pos (by omega)]
    · rw [if_neg e, if_neg (by omega)]; exact h6 j hj
  · intro t ht; rw [va_up_ne y z (by omega)]; exact h7 t ht
  · intro b hb
    obtain ⟨m, e1, e2, e3⟩ := h8 b hb
    refine ⟨m, e1, e2, fun h hh => (e3 h hh).trans ?_⟩
    rw [va_up_ne y z (by omega)]
    constructor
    · rintro ⟨j, g1, g2, g3⟩
      exact ⟨j, g1, by rw [va_up_ne y z (by omega)]; exact g2, by rw [va_up_ne y z (by omega)]; exact g3⟩
    · rintro ⟨j, g1, g2, g3⟩
      rw [va_up_ne y z (by omega)] at g2 g3
      exact ⟨j, g1, g2, g3⟩
  · rw [va_up_ne y z (by omega)]; exact h9
  · intro j hj
    rw [va_up_ne y z (by omega)] at hj
    rw [va_up_ne y z (by omega), va_up_ne y z (by omega), va_up_ne y z (by omega)]
    exact h10 j hj
theorem WF.tr' (h : WF y) {k : Nat} (hk : k < 48) {z : Int} (z0 : 0 ≤ z) (z1 : z ≤ hiT ((k % 6 : Nat) : Int)) : WF (va_up y (12 + k) z) := by
  unfold WF at h ⊢
  simp (disch := omega) only [va_up_ne y z]
  obtain ⟨h1, h2, h3, h4, h5, h6, h7, h8, h9, h10⟩ := h
  refine ⟨h1, h2, h3, h4, h5, ?_, h7, ?_, ?_, ?_⟩
  · intro t ht; rw [va_up_ne y z (by omega)]; exact h6 t ht
  · intro j hj
    by_cases e : j = k
    · subst e; rw [va_up_at]; exact ⟨z0, z1⟩
    · rw [va_up_ne y z (by omega)]; exact h8 j hj
  · exact h9
  · exact h10
theorem q_put (hM : RM y row) (hW : WF y) (hX : RX y beasts meals seats laws inForce tr mh te cases rs ju vo) (hR : RR last a78 status refusals) (x1 x2 x3 : Int32) :
    ∃ Rx Rm y', fX11_put last beasts tr known a78 x1 x2 x3 = some Rx ∧ fX12_put thrown status refusals row x1 x2 x3 = some Rm ∧ Rx.1 = Rm.1 ∧ RR Rx.2.1 Rx.2.2.2.2 Rm.2.2.1 Rm.2.2.2.1 ∧ RM y' Rm.2.2.2.2 ∧ WF y' ∧ RX y' beasts meals seats laws inForce Rx.2.2.1 mh te cases rs ju vo ∧ EqL y y' ∧ (Rx.2.2.2.1 = 0 ∨ Rx.2.2.2.1 = known ∧ y' = y ∧ Rx.2.2.1 = tr) := by
  obtain ⟨b, b0, b1, rfl⟩ := i32_any x1
  obtain ⟨w, w0, w1, rfl⟩ := i32_any x2
  obtain ⟨z, z0, z1, rfl⟩ := i32_any x3
  have hB := hW.1
  have e0 := hX.1
  subst e0
  unfold fX11_put fX12_put
  rw [x_fits w z w0 w1 z0 z1, v_fits w z w0 w1 z0 z1, x_hasBeast hB.1 hB.2 b b0 b1, v_isBeast (hM 0 (by omega)) hB.1 hB.2 b b0 b1]
  simp only [Option.bind_some, bI_0]
  by_cases hf : 0 ≤ w ∧ w < 6 ∧ 0 ≤ z ∧ z ≤ hiT w
  · by_cases hb : 0 ≤ b ∧ b < y 0
    · have e1 : (12 + 6 * b + w).toNat = 12 + (6 * b + w).toNat := by omega
      have e2 : (6 * b + w).toNat < 48 := by omega
      have e3 : (((6 * b + w).toNat % 6 : Nat) : Int) = w := by omega
      simp only [hf, hb, and_self, not_true_eq_false, if_false, i32_lit, i32_mul, i32_add]
      rw [x_trait hb.1 (by omega) hf.1 hf.2.1, x_setTrait hb.1 (by omega) hf.1 hf.2.1]
      rw [v_change (k := 12 + 6 * b + w) (by omega) (by omega)]
      simp only [Option.bind_some, x_accept]
      refine ⟨_, _, va_up y (12 + (6 * b + w).toNat) z, rfl, rfl, ?_, hR.acc, ?_, hW.tr' e2 hf.2.2.1 (by rw [e3]; exact hf.2.2.2), hX.tr' e2 z, EqL.up (by omega) (by omega), Or.inl rfl⟩
      · show tr _ = row _
        rw [e1, hX.2.2.2.2.2.1 _ e2, hM _ (by omega)]
      · show RM _ (va_up row _ _)
        rw [e1]; exact hM.up _ z
    · simp only [hf, hb, and_self, not_true_eq_false, if_false, not_false_eq_true, if_true]
      rw [show (-2 : Int32) = i32 (-2) from rfl, x_refuse (by omega) (by omega), v_tell_neg (by omega) (by omega)]
      exact ⟨_, _, y, rfl, rfl, rfl, hR.ref _ _, hM, hW, hX, EqL.rfl, Or.inr ⟨rfl, rfl, rfl⟩⟩
  · simp only [hf, not_false_eq_true, if_true]
    rw [show (-1 : Int32) = i32 (-1) from rfl, x_refuse (by omega) (by omega), v_tell_neg (by omega) (by omega)]
    exact ⟨_, _, y, rfl, rfl, rfl, hR.ref _ _, hM, hW, hX, EqL.rfl, Or.inr ⟨rfl, rfl, rfl⟩⟩
end Q
