section Q
variable {y : Nat → Int} {row : Nat → Int32} {beasts meals seats laws inForce cases : Int32} {tr mh te rs ju vo : Nat → Int32} {last known status thrown : Int32} {a78 refusals : Nat → Int32}
theorem q_force (hM : RM y row) (hW : WF y) (hX : RX y beasts meals seats laws inForce tr mh te cases rs ju vo) (hR : RR last a78 status refusals) (x1 : Int32) :
    ∃ Rx Rm y', fX11_force last laws inForce known a78 x1 = some Rx ∧ fX12_force thrown status refusals row x1 = some Rm ∧ Rx.1 = Rm.1 ∧ RR Rx.2.1 Rx.2.2.2.2 Rm.2.2.1 Rm.2.2.2.1 ∧ RM y' Rm.2.2.2.2 ∧ WF y' ∧ RX y' beasts meals seats laws Rx.2.2.1 tr mh te cases rs ju vo ∧ EqL y y' ∧ (Rx.2.2.2.1 = 0 ∨ Rx.2.2.2.1 = known ∧ y' = y ∧ Rx.2.2.1 = inForce) := by
  obtain ⟨z, z0, z1, rfl⟩ := i32_any x1
  have hL := hW.2.2.1
  have e0 := hX.2.2.2.1
  subst e0
  unfold fX11_force fX11_force_L16 fX12_force fX12_force_L28
  have e2 : (2 : Int32).toNatClampNeg = 2 := rfl
  rw [e2, hM 2 (by omega)]
  simp (disch := omega) only [i32_lit, i32_neg, i32_lt, i32_eq, gd_ok, i32_64, i64_lit, i64_sub, v_in, Option.bind_some, bI_0, bI_0']
  by_cases hz : -1 ≤ z ∧ z < y 2
  · have g1 : ¬ z < -1 := by omega
    simp only [g1, hz.2, if_false, if_true]
    rw [v_change (k := 3) (by omega) (by omega)]
    simp only [Option.bind_some, x_accept]
    have key : ∃ Rm, (some (row (Int.toNat 3), i32 0, (0 : Int32), refusals, va_up row (Int.toNat 3) (i32 z)) : Option (Int32 × Int32 × Int32 × (Nat → Int32) × (Nat → Int32))) = some Rm ∧ inForce = Rm.1 ∧ RR 0 a78 Rm.2.2.1 Rm.2.2.2.1 ∧ RM (va_up y 3 z) Rm.2.2.2.2 := ⟨_, rfl, by show inForce = row 3; rw [hX.2.2.2.2.1, hM 3 (by omega)], hR.acc, hM.up 3 z⟩
    obtain ⟨Rm, k1, k2, k3, k4⟩ := key
    refine ⟨_, Rm, va_up y 3 z, rfl, ?_, k2, k3, k4, hW.frc hz.1 hz.2, hX.frc z, EqL.up (by omega) (by omega), Or.inl rfl⟩
    by_cases g2 : z = -1
    · simp only [g2, if_true]; rw [g2] at k1; exact k1
    · have g3 : 0 ≤ z ∧ z ≤ y 2 - 1 := by omega
      simp only [g2, if_false, g3, and_self, not_true_eq_false]; exact k1
  · have g3 : ¬ (0 ≤ z ∧ z ≤ y 2 - 1) := by omega
    have g4 : ¬ z = -1 := by omega
    simp only [g3, g4, not_false_eq_true, if_true, if_false]
    rw [v_tell_neg (z := -2) (by omega) (by omega), x_refuse (z := -2) (by omega) (by omega)]
    by_cases g1 : z < -1
    · simp only [g1, if_true]
      exact ⟨_, _, y, rfl, rfl, rfl, hR.ref _ _, hM, hW, hX, EqL.rfl, Or.inr ⟨rfl, rfl, rfl⟩⟩
    · have g2 : ¬ z < y 2 := by omega
      simp only [g1, g2, if_false]
      exact ⟨_, _, y, rfl, rfl, rfl, hR.ref _ _, hM, hW, hX, EqL.rfl, Or.inr ⟨rfl, rfl, rfl⟩⟩
theorem v_isTerm (w z : Int) (w1 : -2147483648 ≤ w) (w2 : w ≤ 2147483647) (a1 : -2147483648 ≤ z) (a2 : z ≤ 2147483647) : fX12_isTerm (i32 w) (i32 z) = some (bI (0 ≤ w ∧ w < 6 ∧ loP w.toNat ≤ z ∧ z ≤ hiP w.toNat)) := by
  unfold fX12_isTerm
  rw [v_isHour z a1 a2]
  simp (disch := omega) only [i32_lit, i32_eq, i32_64, i64_lit, v_in, Option.bind_some, gb_bI]
  by_cases hw : 0 ≤ w ∧ w < 6
  · have : w = 0 ∨ w = 1 ∨ w = 2 ∨ w = 3 ∨ w = 4 ∨ w = 5 := by omega
    rcases this with rfl | rfl | rfl | rfl | rfl | rfl <;> simp [bI, loP, hiP]
  · unfold bI
    rw [if_neg (by omega), if_neg (by omega), if_neg (by omega), if_neg (by omega), if_neg (by omega), if_neg (by omega), if_neg (by omega)]
    rfl
theorem x_lo : ∀ t : Fin 6, (e_sX 3).getD t.val (i32 0) = i32 (loP t.val) := by decide
theorem x_hi : ∀ t : Fin 6, (e_sX 1).getD t.val (i32 0) = i32 (hiP t.val) := by decide
theorem q_terms (hM : RM y row) (hW : WF y) (hX : RX y beasts meals seats laws inForce tr mh te cases rs ju vo) (hR : RR last a78 status refusals) (x1 x2 : Int32) :
    ∃ Rx Rm y', fX11_terms last te known a78 x1 x2 = some Rx ∧ fX12_terms thrown status refusals row x1 x2 = some Rm ∧ Rx.1 = Rm.1 ∧ RR Rx.2.1 Rx.2.2.2.2 Rm.2.2.1 Rm.2.2.2.1 ∧ RM y' Rm.2.2.2.2 ∧ WF y' ∧ RX y' beasts meals seats laws inForce tr mh Rx.2.2.1 cases rs ju vo ∧ EqL y y' ∧ (Rx.2.2.2.1 = 0 ∨ Rx.2.2.2.1 = known ∧ y' = y ∧ Rx.2.2.1 = te) := by
  obtain ⟨w, w0, w1, rfl⟩ := i32_any x1
  obtain ⟨z, z0, z1, rfl⟩ := i32_any x2
  unfold fX11_terms fX11_terms_L28 fX12_terms
  rw [v_isTerm w z w0 w1 z0 z1]
  simp (disch := omega) only [i32_lit, i32_neg, i32_lt, i32_le, Option.bind_some, bI_0, bI_0', i32_add]
  rw [v_tell_neg (z := -1) (by omega) (by omega), x_refuse (z := -1) (by omega) (by omega)]
  by_cases hw : 0 ≤ w ∧ w < 6
  · obtain ⟨t, ht, rfl⟩ : ∃ t : Nat, t < 6 ∧ w = t := ⟨w.toNat, by omega, by omega⟩
    have g1 : ¬ (t : Int) < 0 := by omega
    have g2 : ¬ 6 ≤ (t : Int) := by omega
    simp (disch := omega) only [gd_ok, g1, g2, if_false, i32_nat, Int.toNat_natCast]
    rw [x_lo ⟨t, ht⟩, x_hi ⟨t, ht⟩]
    have l1 : -2147483648 ≤ loP t ∧ loP t ≤ 2147483647 := by unfold loP; split <;> omega
    have l2 : -2147483648 ≤ hiP t ∧ hiP t ≤ 2147483647 := by unfold hiP; (repeat' split) <;> omega
    simp only [i32_lt z0 z1 l1.1 l1.2, i32_le z0 z1 l2.1 l2.2]
    by_cases hz : loP t ≤ z ∧ z ≤ hiP t
    · have g3 : ¬ z < loP t := by omega
      simp only [hw, hz, g3, and_self, not_true_eq_false, if_false, if_true]
      rw [v_change (k := 5 + (t : Int)) (by omega) (by omega)]
      simp only [Option.bind_some, x_accept]
      have e1 : (5 + (t : Int)).toNat = 5 + t := by omega
      rw [e1]
      refine ⟨_, _, va_up y (5 + t) z, rfl, rfl, ?_, hR.acc, hM.up _ z, hW.trm ht hz.1 hz.2, hX.trm ht z, EqL.up (by omega) (by omega), Or.inl rfl⟩
      show te t = row (5 + t)
      rw [hX.2.2.2.2.2.2.1 t ht, hM _ (by omega)]
    · simp only [hw, hz, and_false, not_false_eq_true, if_true]
      by_cases g3 : z < loP t
      · simp only [g3, if_true]
        exact ⟨_, _, y, rfl, rfl, rfl, hR.ref _ _, hM, hW, hX, EqL.rfl, Or.inr ⟨rfl, rfl, rfl⟩⟩
      · have g4 : ¬ z ≤ hiP t := by omega
        simp only [g3, g4, if_false]
        exact ⟨_, _, y, rfl, rfl, rfl, hR.ref _ _, hM, hW, hX, EqL.rfl, Or.inr ⟨rfl, rfl, rfl⟩⟩
  · have g5 : ¬ (0 ≤ w ∧ w < 6 ∧ loP w.toNat ≤ z ∧ z ≤ hiP w.toNat) := fun h => hw ⟨h.1, h.2.1⟩
    simp only [g5, not_false_eq_true, if_true]
    by_cases g1 : w < 0
    · simp only [g1, if_true]
      exact ⟨_, _, y, rfl, rfl, rfl, hR.ref _ _, hM, hW, hX, EqL.rfl, Or.inr ⟨rfl, rfl, rfl⟩⟩
    · have g2 : 6 ≤ w := by omega
      simp only [g1, g2, if_false, if_true]
      exact ⟨_, _, y, rfl, rfl, rfl, hR.ref _ _, hM, hW, hX, EqL.rfl, Or.inr ⟨rfl, rfl, rfl⟩⟩
end Q
