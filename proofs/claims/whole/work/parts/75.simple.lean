section Q
variable {y : Nat → Int} {row : Nat → Int32} {beasts meals seats laws inForce cases : Int32} {tr mh te rs ju vo : Nat → Int32} {last known status thrown : Int32} {a78 refusals : Nat → Int32}
theorem RX.seat (h : RX y beasts meals seats laws inForce tr mh te cases rs ju vo) (z : Int) : RX (va_up y 4 z) beasts meals (i32 z) laws inForce tr mh te cases rs ju vo := by
  unfold RX at h ⊢
  simp (disch := omega) only [va_up_ne y z, va_up_at]
  obtain ⟨h1, h2, h3, h4, h5, h6, h7, h8, h9, h10⟩ := h
  exact ⟨h1, h2, trivial, h4, h5, h6, h7, h8, h9, h10⟩
theorem RX.frc (h : RX y beasts meals seats laws inForce tr mh te cases rs ju vo) (z : Int) : RX (va_up y 3 z) beasts meals seats laws (i32 z) tr mh te cases rs ju vo := by
  unfold RX at h ⊢
  simp (disch := omega) only [va_up_ne y z, va_up_at]
  obtain ⟨h1, h2, h3, h4, h5, h6, h7, h8, h9, h10⟩ := h
  exact ⟨h1, h2, h3, h4, trivial, h6, h7, h8, h9, h10⟩
theorem RX.trm (h : RX y beasts meals seats laws inForce tr mh te cases rs ju vo) {t : Nat} (ht : t < 6) (z : Int) : RX (va_up y (5 + t) z) beasts meals seats laws inForce tr mh (va_up te t (i32 z)) cases rs ju vo := by
  unfold RX at h ⊢
  simp (disch := omega) only [va_up_ne y z]
  obtain ⟨h1, h2, h3, h4, h5, h6, h7, h8, h9, h10⟩ := h
  refine ⟨h1, h2, h3, h4, h5, h6, ?_, h8, h9, h10⟩
  intro j hj
  by_cases e : j = t
  · subst e; rw [va_up_at, va_up_at]
  · rw [va_up_ne _ _ e, va_up_ne y z (by omega)]; exact h7 j hj
theorem WF.seat (h : WF y) {z : Int} (z0 : 0 ≤ z) (z1 : z < 2 ^ (y 0).toNat) : WF (va_up y 4 z) := by
  unfold WF at h ⊢
  simp (disch := omega) only [va_up_ne y z, va_up_at]
  obtain ⟨h1, h2, h3, h4, h5, h6, h7, h8, h9, h10⟩ := h
  exact ⟨h1, h2, h3, h4, ⟨z0, z1⟩, h6, h7, h8, h9, h10⟩
theorem WF.frc (h : WF y) {z : Int} (z0 : -1 ≤ z) (z1 : z < y 2) : WF (va_up y 3 z) := by
  unfold WF at h ⊢
  simp (disch := omega) only [va_up_ne y z, va_up_at]
  obtain ⟨h1, h2, h3, h4, h5, h6, h7, h8, h9, h10⟩ := h
  exact ⟨h1, h2, h3, ⟨z0, z1⟩, h5, h6, h7, h8, h9, h10⟩
theorem WF.trm (h : WF y) {t : Nat} (ht : t < 6) {z : Int} (z0 : loP t ≤ z) (z1 : z ≤ hiP t) : WF (va_up y (5 + t) z) := by
  unfold WF at h ⊢
  simp (disch := omega) only [va_up_ne y z]
  obtain ⟨h1, h2, h3, h4, h5, h6, h7, h8, h9, h10⟩ := h
  refine ⟨h1, h2, h3, h4, h5, ?_, h7, h8, h9, h10⟩
  intro j hj
  by_cases e : j = t
  · subst e; rw [va_up_at]; exact ⟨z0, z1⟩
  · rw [va_up_ne y z (by omega)]; exact h6 j hj
theorem q_of (hM : RM y row) (hW : WF y) (hX : RX y beasts meals seats laws inForce tr mh te cases rs ju vo) (x1 x2 : Int32) :
    ∃ Rx Rm, fX11_of beasts tr x1 x2 = some Rx ∧ fX12_of thrown row x1 x2 = some Rm ∧ Rx = Rm.1 := by
  obtain ⟨b, b0, b1, rfl⟩ := i32_any x1
  obtain ⟨w, w0, w1, rfl⟩ := i32_any x2
  have hB := hW.1
  have e0 := hX.1
  subst e0
  unfold fX11_of fX12_of fX12_of_L34
  rw [x_hasBeast hB.1 hB.2 b b0 b1, v_isBeast (hM 0 (by omega)) hB.1 hB.2 b b0 b1]
  simp (disch := omega) only [Option.bind_some, bI_0, i32_64, i64_lit, v_in, i32_lit, i32_lt]
  by_cases hb : 0 ≤ b ∧ b < y 0
  · by_cases hf : 0 ≤ w ∧ w ≤ 5
    · have e1 : (12 + 6 * b + w).toNat = 12 + (6 * b + w).toNat := by omega
      have e2 : (6 * b + w).toNat < 48 := by omega
      have g1 : ¬ w < 0 := by omega
      have g2 : w < 6 := by omega
      simp only [hf, hb, g1, g2, and_self, not_true_eq_false, if_false, if_true]
      rw [x_trait hb.1 (by omega) hf.1 (by omega), v_ofBeast hb.1 (by omega) hf.1 (by omega)]
      refine ⟨_, _, rfl, rfl, ?_⟩
      show tr _ = row _
      rw [e1, hX.2.2.2.2.2.1 _ e2, hM _ (by omega)]
    · simp only [hf, hb, and_self, not_true_eq_false, if_false, not_false_eq_true, if_true]
      by_cases g1 : w < 0
      · simp only [g1, if_true]; exact ⟨_, _, rfl, rfl, rfl⟩
      · have g2 : ¬ w < 6 := by omega
        simp only [g1, g2, if_false]; exact ⟨_, _, rfl, rfl, rfl⟩
  · simp only [hb, not_false_eq_true, if_true]; exact ⟨_, _, rfl, rfl, rfl⟩
theorem v_areBeasts (hM : RM y row) (hW : WF y) (z : Int) (a1 : -2147483648 ≤ z) (a2 : z ≤ 2147483647) : fX12_areBeasts row (i32 z) = some (bI (0 ≤ z ∧ z < 2 ^ (y 0).toNat)) := by
  unfold fX12_areBeasts
  have e : (0 : Int32).toNatClampNeg = 0 := rfl
  obtain ⟨n, hn⟩ : ∃ n : Nat, y 0 = n := ⟨(y 0).toNat, by have := hW.1; omega⟩
  have hn8 : n ≤ 8 := by have := hW.1; omega
  rw [e, hM 0 (by omega), hn, i32_31 (by omega), i32_litN 1, i32_shl (by omega), i32_litN 0]
  have h2 : 2 ^ n ≤ 2 ^ 8 := Nat.pow_le_pow_right (by omega) hn8
  have h3 : ((1 * 2 ^ n : Nat) : Int) = 2 ^ n := by rw [Nat.one_mul]; simp
  have h4 : (2 ^ n : Int) ≤ 256 := by
    have : ((2 ^ n : Nat) : Int) ≤ 256 := by omega
    simpa using this
  have h5 : (0 : Int) < 2 ^ n := Int.pow_pos (by omega)
  rw [h3]
  simp (disch := omega) only [gd_ok, i32_64, i64_lit, i64_sub, v_in, Option.bind_some, gb_bI]
  rw [show ((n : Int)).toNat = n by omega]
  unfold bI
  by_cases h1 : 0 ≤ z <;> by_cases h2 : z < 2 ^ n <;> simp [h1, h2] <;> omega
theorem q_bench (hM : RM y row) (hW : WF y) (hX : RX y beasts meals seats laws inForce tr mh te cases rs ju vo) (hR : RR last a78 status refusals) (x1 : Int32) :
    ∃ Rx Rm y', fX11_bench last beasts seats known a78 x1 = some Rx ∧ fX12_bench thrown status refusals row x1 = some Rm ∧ Rx.1 = Rm.1 ∧ RR Rx.2.1 Rx.2.2.2.2 Rm.2.2.1 Rm.2.2.2.1 ∧ RM y' Rm.2.2.2.2 ∧ WF y' ∧ RX y' beasts meals Rx.2.2.1 laws inForce tr mh te cases rs ju vo ∧ EqL y y' ∧ (Rx.2.2.2.1 = 0 ∨ Rx.2.2.2.1 = known ∧ y' = y ∧ Rx.2.2.1 = seats) := by
  obtain ⟨z, z0, z1, rfl⟩ := i32_any x1
  unfold fX11_bench fX11_bench_L17 fX12_bench
  rw [v_areBeasts hM hW z z0 z1]
  have e0 := hX.1
  obtain ⟨n, hn⟩ : ∃ n : Nat, y 0 = n := ⟨(y 0).toNat, by have := hW.1; omega⟩
  have hn8 : n ≤ 8 := by have := hW.1; omega
  have h2 : 2 ^ n ≤ 2 ^ 8 := Nat.pow_le_pow_right (by omega) hn8
  have h3 : ((1 * 2 ^ n : Nat) : Int) = 2 ^ n := by rw [Nat.one_mul]; simp
  have h4 : (2 ^ n : Int) ≤ 256 := by
    have : ((2 ^ n : Nat) : Int) ≤ 256 := by omega
    simpa using this
  have h5 : (0 : Int) < 2 ^ n := Int.pow_pos (by omega)
  have e1 : (1 : Int32) <<< (beasts &&& 31) = i32 (2 ^ n) := by
    rw [e0, hn, i32_31 (by omega), i32_litN 1, i32_shl (by omega), h3]
  rw [e1]
  simp (disch := omega) only [Option.bind_some, bI_0, i32_lit, i32_lt]
  by_cases hz : 0 ≤ z ∧ z < 2 ^ (y 0).toNat
  · have hz' := hz
    rw [hn, show ((n : Int)).toNat = n by omega] at hz'
    have g1 : ¬ z < 0 := by omega
    simp only [hz, hz'.2, g1, and_self, not_true_eq_false, if_false, if_true]
    rw [v_change (k := 4) (by omega) (by omega)]
    simp only [Option.bind_some, x_accept]
    refine ⟨_, _, va_up y 4 z, rfl, rfl, ?_, hR.acc, hM.up 4 z, hW.seat hz.1 hz.2, hX.seat z, EqL.up (by omega) (by omega), Or.inl rfl⟩
    show seats = row 4
    rw [hX.2.2.1, hM 4 (by omega)]
  · have hz' := hz
    rw [hn, show ((n : Int)).toNat = n by omega] at hz'
    simp only [hz, not_false_eq_true, if_true, i32_neg]
    rw [v_tell_neg (z := -1) (by omega) (by omega), x_refuse (z := -1) (by omega) (by omega)]
    by_cases g1 : z < 0
    · simp only [g1, if_true]
      exact ⟨_, _, y, rfl, rfl, rfl, hR.ref _ _, hM, hW, hX, EqL.rfl, Or.inr ⟨rfl, rfl, rfl⟩⟩
    · have g2 : ¬ z < 2 ^ n := by omega
      simp only [g1, g2, if_false]
      exact ⟨_, _, y, rfl, rfl, rfl, hR.ref _ _, hM, hW, hX, EqL.rfl, Or.inr ⟨rfl, rfl, rfl⟩⟩
end Q
