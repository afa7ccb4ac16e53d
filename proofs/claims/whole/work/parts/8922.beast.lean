section BEAST
variable {y : Nat → Int} {row : Nat → Int32} {beasts meals seats laws inForce cases : Int32} {tr mh te rs ju vo : Nat → Int32} {last status known thrown : Int32} {a78 refusals : Nat → Int32}
theorem bI_iff {p q : Prop} [Decidable p] [Decidable q] (h : p ↔ q) : bI p = bI q := by
  unfold bI
  by_cases c : p
  · rw [if_pos c, if_pos (h.mp c)]
  · rw [if_neg c, if_neg (fun d => c (h.mpr d))]
theorem x_fitw {w z : Int} (w1 : 0 ≤ w) (w2 : w < 6) (a1 : -2147483648 ≤ z) (a2 : z ≤ 2147483647) : fX11_fitsTrait (i32 w) (i32 z) = some (bI (0 ≤ z ∧ z ≤ hiT w)) := by
  rw [x_fits w z (by omega) (by omega) a1 a2]
  exact congrArg some (bI_iff ⟨fun h => ⟨h.2.2.1, h.2.2.2⟩, fun h => ⟨w1, w2, h.1, h.2⟩⟩)
theorem v_fitw {w z : Int} (w1 : 0 ≤ w) (w2 : w < 6) (a1 : -2147483648 ≤ z) (a2 : z ≤ 2147483647) : fX12_fits (i32 w) (i32 z) = some (bI (0 ≤ z ∧ z ≤ hiT w)) := by
  rw [v_fits w z (by omega) (by omega) a1 a2]
  exact congrArg some (bI_iff ⟨fun h => ⟨h.2.2.1, h.2.2.2⟩, fun h => ⟨w1, w2, h.1, h.2⟩⟩)
theorem RX.nb (h : RX y beasts meals seats laws inForce tr mh te cases rs ju vo) (z : Int) : RX (va_up y 0 z) (i32 z) meals seats laws inForce tr mh te cases rs ju vo := by
  obtain ⟨h1, h2, h3, h4, h5, h6, h7, h8, h9, h10⟩ := h
  refine ⟨by rw [va_up_at], ?_, ?_, ?_, ?_, ?_, ?_, ?_, ?_, ?_⟩
  · rw [va_up_ne y z (by omega)]; exact h2
  · rw [va_up_ne y z (by omega)]; exact h3
  · rw [va_up_ne y z (by omega)]; exact h4
  · rw [va_up_ne y z (by omega)]; exact h5
  · intro j hj; rw [va_up_ne y z (by omega)]; exact h6 j hj
  · intro t ht; rw [va_up_ne y z (by omega)]; exact h7 t ht
  · intro b hb
    obtain ⟨m, e1, e2, e3⟩ := h8 b hb
    refine ⟨m, e1, e2, fun h hh => (e3 h hh).trans ?_⟩
    rw [va_up_ne y z (by omega)]
    constructor
    · rintro ⟨j, g1, g2, g3⟩
      exact ⟨j, g1, by rw [va_up_ne y z (by omega)]; exact g2, by rw [va_up_ne y z (by omega)]; exact g3⟩
    · rintro ⟨j, g1, g2, g3⟩
      rw [va_up_ne y z (by omega)] at g2 g3
      exact ⟨j, g1, g2, g3⟩
  · rw [va_up_ne y z (by omega)]; exact h9
  · intro j hj
    rw [va_up_ne y z (by omega)] at hj
    rw [va_up_ne y z (by omega), va_up_ne y z (by omega), va_up_ne y z (by omega)]
    exact h10 j hj
theorem WF.nb (h : WF y) {n : Nat} (e : y 0 = (n : Int)) (hn : n < 8) : WF (va_up y 0 ((n : Int) + 1)) := by
  unfold WF at h ⊢
  rw [va_up_at]
  simp (disch := omega) only [va_up_ne y ((n : Int) + 1)]
  obtain ⟨h1, h2, h3, h4, h5, h6, h7, h8, h9, h10⟩ := h
  refine ⟨by omega, h2, h3, h4, ⟨h5.1, ?_⟩, ?_, h7, ?_, ?_, ?_⟩
  · have := h5.2
    rw [e, Int.toNat_natCast] at this
    rw [show ((n : Int) + 1).toNat = n + 1 by omega, Int.pow_succ]
    have p : (0 : Int) < 2 ^ n := Int.pow_pos (by omega)
    omega
  · exact h6
  · exact h8
  · intro k hk
    have := h9 k hk
    rw [e] at this
    exact ⟨⟨this.1.1, by omega⟩, this.2⟩
  · exact h10
theorem q_beast (hM : RM y row) (hW : WF y) (hX : RX y beasts meals seats laws inForce tr mh te cases rs ju vo) (hR : RR last a78 status refusals) (x1 x2 x3 x4 x5 : Int32) :
    ∃ Rx Rm y', fX11_beast last beasts tr known a78 x1 x2 x3 x4 x5 = some Rx ∧ fX12_beast thrown status refusals row x1 x2 x3 x4 x5 = some Rm ∧ Rx.1 = Rm.1 ∧ RR Rx.2.1 Rx.2.2.2.2.2 Rm.2.2.1 Rm.2.2.2.1 ∧ RM y' Rm.2.2.2.2 ∧ WF y' ∧ RX y' Rx.2.2.1 meals seats laws inForce Rx.2.2.2.1 mh te cases rs ju vo ∧ EqL y y' ∧ (Rx.2.2.2.2.1 = 0 ∨ Rx.2.2.2.2.1 = known ∧ y' = y ∧ Rx.2.2.1 = beasts ∧ Rx.2.2.2.1 = tr) := by
  obtain ⟨z1, p1, q1, rfl⟩ := i32_any x1
  obtain ⟨z2, p2, q2, rfl⟩ := i32_any x2
  obtain ⟨z3, p3, q3, rfl⟩ := i32_any x3
  obtain ⟨z4, p4, q4, rfl⟩ := i32_any x4
  obtain ⟨z5, p5, q5, rfl⟩ := i32_any x5
  have hB := hW.1
  obtain ⟨n, en⟩ := Int.eq_ofNat_of_zero_le hB.1
  have e0 := hX.1
  rw [en] at e0
  subst e0
  have em := hM 0 (by omega)
  rw [en] at em
  have a1 : fX11_fitsTrait 0 (i32 z1) = _ := x_fitw (w := 0) (by omega) (by omega) p1 q1
  have a2 : fX11_fitsTrait 1 (i32 z2) = _ := x_fitw (w := 1) (by omega) (by omega) p2 q2
  have a3 : fX11_fitsTrait 2 (i32 z3) = _ := x_fitw (w := 2) (by omega) (by omega) p3 q3
  have a4 : fX11_fitsTrait 3 (i32 z4) = _ := x_fitw (w := 3) (by omega) (by omega) p4 q4
  have a5 : fX11_fitsTrait 4 (i32 z5) = _ := x_fitw (w := 4) (by omega) (by omega) p5 q5
  have b1 : fX12_fits 0 (i32 z1) = _ := v_fitw (w := 0) (by omega) (by omega) p1 q1
  have b2 : fX12_fits 1 (i32 z2) = _ := v_fitw (w := 1) (by omega) (by omega) p2 q2
  have b3 : fX12_fits 2 (i32 z3) = _ := v_fitw (w := 2) (by omega) (by omega) p3 q3
  have b4 : fX12_fits 3 (i32 z4) = _ := v_fitw (w := 3) (by omega) (by omega) p4 q4
  have b5 : fX12_fits 4 (i32 z5) = _ := v_fitw (w := 4) (by omega) (by omega) p5 q5
  have bad : ∃ Rx Rm y', fX11_beast_L54 last (i32 (n : Int)) tr known a78 = some Rx ∧ fX12_beast_L47 0 status refusals row = some Rm ∧ Rx.1 = Rm.1 ∧ RR Rx.2.1 Rx.2.2.2.2.2 Rm.2.2.1 Rm.2.2.2.1 ∧ RM y' Rm.2.2.2.2 ∧ WF y' ∧ RX y' Rx.2.2.1 meals seats laws inForce Rx.2.2.2.1 mh te cases rs ju vo ∧ EqL y y' ∧ (Rx.2.2.2.2.1 = 0 ∨ Rx.2.2.2.2.1 = known ∧ y' = y ∧ Rx.2.2.1 = i32 (n : Int) ∧ Rx.2.2.2.1 = tr) := by
    unfold fX11_beast_L54 fX12_beast_L47
    rw [show (-1 : Int32) = i32 (-1) from rfl, x_refuse (by omega) (by omega), v_tell_neg (by omega) (by omega)]
    exact ⟨_, _, y, rfl, rfl, rfl, hR.ref _ _, hM, hW, hX, EqL.rfl, Or.inr ⟨rfl, rfl, rfl, rfl⟩⟩
  unfold fX11_beast fX11_beast_L28 fX11_beast_L29 fX12_beast
  rw [a1, a2, a3, a4, a5, b1, b2, b3, b4, b5, if_pos (rfl : (0 : Int32) = 0), if_neg (show ¬ (1 : Int32) = 0 by decide)]
  simp only [Option.bind_some]
  by_cases c1 : 0 ≤ z1 ∧ z1 ≤ hiT 0
  case neg =>
    have cz : bI (0 ≤ z1 ∧ z1 ≤ hiT 0) = 0 := by rw [bI_0]; exact c1
    rw [if_pos cz, if_pos cz]; exact bad
  have d1 : ¬ bI (0 ≤ z1 ∧ z1 ≤ hiT 0) = 0 := by rw [bI_0]; exact fun q => q c1
  rw [if_neg d1, if_neg d1]
  by_cases c2 : 0 ≤ z2 ∧ z2 ≤ hiT 1
  case neg =>
    have cz : bI (0 ≤ z2 ∧ z2 ≤ hiT 1) = 0 := by rw [bI_0]; exact c2
    rw [if_pos cz, if_pos cz]; exact bad
  have d2 : ¬ bI (0 ≤ z2 ∧ z2 ≤ hiT 1) = 0 := by rw [bI_0]; exact fun q => q c2
  rw [if_neg d2, if_neg d2]
  by_cases c3 : 0 ≤ z3 ∧ z3 ≤ hiT 2
  case neg =>
    have cz : bI (0 ≤ z3 ∧ z3 ≤ hiT 2) = 0 := by rw [bI_0]; exact c3
    rw [if_pos cz, if_pos cz]; exact bad
  have d3 : ¬ bI (0 ≤ z3 ∧ z3 ≤ hiT 2) = 0 := by rw [bI_0]; exact fun q => q c3
  rw [if_neg d3, if_neg d3]
  by_cases c4 : 0 ≤ z4 ∧ z4 ≤ hiT 3
  case neg =>
    have cz : bI (0 ≤ z4 ∧ z4 ≤ hiT 3) = 0 := by rw [bI_0]; exact c4
    rw [if_pos cz, if_pos cz]; exact bad
  have d4 : ¬ bI (0 ≤ z4 ∧ z4 ≤ hiT 3) = 0 := by rw [bI_0]; exact fun q => q c4
  rw [if_neg d4, if_neg d4]
  by_cases c5 : 0 ≤ z5 ∧ z5 ≤ hiT 4
  case neg =>
    have cz : bI (0 ≤ z5 ∧ z5 ≤ hiT 4) = 0 := by rw [bI_0]; exact c5
    rw [if_pos cz, if_pos cz]; exact bad
  have d5 : ¬ bI (0 ≤ z5 ∧ z5 ≤ hiT 4) = 0 := by rw [bI_0]; exact fun q => q c5
  rw [if_neg d5, if_neg d5, gd9 (by decide) (by decide), i32_nn9 (by decide), em]
  by_cases cn : n < 8
  · have e8 : i32 (n : Int) < 8 := by rw [i32_litN 8, i32_lt (by omega) (by omega) (by omega) (by omega)]; omega
    have n8 : ¬ i32 (n : Int) = 8 := by rw [i32_litN 8, i32_eq (by omega) (by omega) (by omega) (by omega)]; omega
    have s0 : (12 : Int32) + 6 * i32 (n : Int) = i32 ((12 + (6 * n + 0) : Nat) : Int) := by rw [i32_litN 12, i32_litN 6, i32_mul, i32_add]; exact congrArg i32 (by omega)
    have s1 : i32 ((12 + (6 * n + 0) : Nat) : Int) + 1 = i32 ((12 + (6 * n + 1) : Nat) : Int) := by rw [i32_litN 1, i32_add]; exact congrArg i32 (by omega)
    have s2 : i32 ((12 + (6 * n + 0) : Nat) : Int) + 2 = i32 ((12 + (6 * n + 2) : Nat) : Int) := by rw [i32_litN 2, i32_add]; exact congrArg i32 (by omega)
    have s3 : i32 ((12 + (6 * n + 0) : Nat) : Int) + 3 = i32 ((12 + (6 * n + 3) : Nat) : Int) := by rw [i32_litN 3, i32_add]; exact congrArg i32 (by omega)
    have s4 : i32 ((12 + (6 * n + 0) : Nat) : Int) + 4 = i32 ((12 + (6 * n + 4) : Nat) : Int) := by rw [i32_litN 4, i32_add]; exact congrArg i32 (by omega)
    have s5 : i32 ((12 + (6 * n + 0) : Nat) : Int) + 5 = i32 ((12 + (6 * n + 5) : Nat) : Int) := by rw [i32_litN 5, i32_add]; exact congrArg i32 (by omega)
    have st : ∀ (a : Nat → Int32) (w : Nat) (v : Int32), w < 6 → fX10_setTrait a (i32 (n : Int)) (i32 (w : Int)) v = some (va_up a (6 * n + w) v) := by
      intro a w v hw
      rw [x_setTrait (by omega) (by omega) (by omega) (by omega), show (6 * (n : Int) + (w : Int)).toNat = 6 * n + w by omega]
    have k0 : ∀ (a : Nat → Int32) (v : Int32), fX10_setTrait a (i32 (n : Int)) 0 v = some (va_up a (6 * n + 0) v) := fun a v => st a 0 v (by omega)
    have k1 : ∀ (a : Nat → Int32) (v : Int32), fX10_setTrait a (i32 (n : Int)) 1 v = some (va_up a (6 * n + 1) v) := fun a v => st a 1 v (by omega)
    have k2 : ∀ (a : Nat → Int32) (v : Int32), fX10_setTrait a (i32 (n : Int)) 2 v = some (va_up a (6 * n + 2) v) := fun a v => st a 2 v (by omega)
    have k3 : ∀ (a : Nat → Int32) (v : Int32), fX10_setTrait a (i32 (n : Int)) 3 v = some (va_up a (6 * n + 3) v) := fun a v => st a 3 v (by omega)
    have k4 : ∀ (a : Nat → Int32) (v : Int32), fX10_setTrait a (i32 (n : Int)) 4 v = some (va_up a (6 * n + 4) v) := fun a v => st a 4 v (by omega)
    have k5 : ∀ (a : Nat → Int32) (v : Int32), fX10_setTrait a (i32 (n : Int)) 5 v = some (va_up a (6 * n + 5) v) := fun a v => st a 5 v (by omega)
    rw [if_pos e8, if_neg n8, s0, s1, s2, s3, s4, s5, gd_ok (by omega) (by omega) (by omega), gd_ok (by omega) (by omega) (by omega), gd_ok (by omega) (by omega) (by omega), gd_ok (by omega) (by omega) (by omega), gd_ok (by omega) (by omega) (by omega), gd_ok (by omega) (by omega) (by omega), gd9 (by decide) (by decide), gd9 (by decide) (by decide), v_tell (by omega) (by omega), Option.bind_some]
    rw [i32_nat (by omega) (by omega), i32_nat (by omega) (by omega), i32_nat (by omega) (by omega), i32_nat (by omega) (by omega), i32_nat (by omega) (by omega), i32_nat (by omega) (by omega)]
    simp only [Int.toNat_natCast]
    rw [va_up_ne _ _ (show 0 ≠ 12 + (6 * n + 5) by omega), va_up_ne _ _ (show 0 ≠ 12 + (6 * n + 4) by omega), va_up_ne _ _ (show 0 ≠ 12 + (6 * n + 3) by omega), va_up_ne _ _ (show 0 ≠ 12 + (6 * n + 2) by omega), va_up_ne _ _ (show 0 ≠ 12 + (6 * n + 1) by omega), va_up_ne _ _ (show 0 ≠ 12 + (6 * n + 0) by omega), em, show i32 (n : Int) + 1 = i32 ((n : Int) + 1) from i32_add _ 1]
    rw [k0, Option.bind_some, k1, Option.bind_some, k2, Option.bind_some, k3, Option.bind_some, k4, Option.bind_some, k5, Option.bind_some, x_accept, Option.bind_some]
    have w1 := (((((hW.tr' (k := 6 * n + 0) (by omega) c1.1 (by rw [show (6 * n + 0) % 6 = 0 by omega]; exact c1.2)).tr' (k := 6 * n + 1) (by omega) c2.1 (by rw [show (6 * n + 1) % 6 = 1 by omega]; exact c2.2)).tr' (k := 6 * n + 2) (by omega) c3.1 (by rw [show (6 * n + 2) % 6 = 2 by omega]; exact c3.2)).tr' (k := 6 * n + 3) (by omega) c4.1 (by rw [show (6 * n + 3) % 6 = 3 by omega]; exact c4.2)).tr' (k := 6 * n + 4) (by omega) c5.1 (by rw [show (6 * n + 4) % 6 = 4 by omega]; exact c5.2)).tr' (k := 6 * n + 5) (z := 0) (by omega) (by omega) (by rw [show (6 * n + 5) % 6 = 5 by omega]; decide)
    have w2 := w1.nb (n := n) (by rw [va_up_ne _ _ (by omega), va_up_ne _ _ (by omega), va_up_ne _ _ (by omega), va_up_ne _ _ (by omega), va_up_ne _ _ (by omega), va_up_ne _ _ (by omega), en]) cn
    have r1 := ((((((hX.tr' (k := 6 * n + 0) (by omega) z1).tr' (k := 6 * n + 1) (by omega) z2).tr' (k := 6 * n + 2) (by omega) z3).tr' (k := 6 * n + 3) (by omega) z4).tr' (k := 6 * n + 4) (by omega) z5).tr' (k := 6 * n + 5) (by omega) 0).nb ((n : Int) + 1)
    refine ⟨_, _, _, rfl, rfl, rfl, hR.acc, ((((((hM.up _ z1).up _ z2).up _ z3).up _ z4).up _ z5).up _ 0).up 0 _, w2, r1, ?_, Or.inl rfl⟩
    refine ⟨?_, fun k hk => ?_⟩ <;>
    rw [va_up_ne _ _ (by omega), va_up_ne _ _ (by omega), va_up_ne _ _ (by omega), va_up_ne _ _ (by omega), va_up_ne _ _ (by omega), va_up_ne _ _ (by omega), va_up_ne _ _ (by omega)]
  · have e8 : ¬ i32 (n : Int) < 8 := by rw [i32_litN 8, i32_lt (by omega) (by omega) (by omega) (by omega)]; omega
    have n8 : i32 (n : Int) = 8 := by rw [i32_litN 8, i32_eq (by omega) (by omega) (by omega) (by omega)]; omega
    rw [if_neg e8, if_pos n8, show (-5 : Int32) = i32 (-5) from rfl, x_refuse (by omega) (by omega), v_tell_neg (by omega) (by omega)]
    exact ⟨_, _, y, rfl, rfl, rfl, hR.ref _ _, hM, hW, hX, EqL.rfl, Or.inr ⟨rfl, rfl, rfl, rfl⟩⟩
end BEAST
