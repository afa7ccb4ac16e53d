section MEAL
variable {y : Nat → Int} {row : Nat → Int32} {beasts meals seats laws inForce cases : Int32} {tr mh te rs ju vo : Nat → Int32} {last status known thrown : Int32} {a78 refusals : Nat → Int32}
def meY (y : Nat → Int) (n : Nat) (b h : Int) : Nat → Int := va_up (va_up (va_up y (60 + 2 * n) b) (61 + 2 * n) h) 1 ((n : Int) + 1)
theorem meY_k {n : Nat} {b h : Int} (hn : n < 24) : (∀ k, k ≠ 1 → k < 60 ∨ 108 ≤ k → meY y n b h k = y k) ∧ meY y n b h 1 = (n : Int) + 1 ∧ (∀ k, k < n → meY y n b h (60 + 2 * k) = y (60 + 2 * k) ∧ meY y n b h (61 + 2 * k) = y (61 + 2 * k)) ∧ meY y n b h (60 + 2 * n) = b ∧ meY y n b h (61 + 2 * n) = h := by
  unfold meY
  refine ⟨fun k h1 h2 => ?_, va_up_at _ _ _, fun k hk => ⟨?_, ?_⟩, ?_, ?_⟩
  · rw [va_up_ne _ _ h1, va_up_ne _ _ (by omega), va_up_ne _ _ (by omega)]
  · rw [va_up_ne _ _ (by omega), va_up_ne _ _ (by omega), va_up_ne _ _ (by omega)]
  · rw [va_up_ne _ _ (by omega), va_up_ne _ _ (by omega), va_up_ne _ _ (by omega)]
  · rw [va_up_ne _ _ (by omega), va_up_ne _ _ (by omega), va_up_at]
  · rw [va_up_ne _ _ (by omega), va_up_at]
theorem me_WF (hW : WF y) {n : Nat} (e : y 1 = (n : Int)) (hn : n < 24) {b h : Int} (hb : 0 ≤ b ∧ b < y 0) (hh : 0 ≤ h ∧ h ≤ 23) : WF (meY y n b h) := by
  obtain ⟨k1, k2, k3, k4, k5⟩ := meY_k (y := y) (b := b) (h := h) hn
  obtain ⟨g1, g2, g3, g4, g5, g6, g7, g8, g9, g10⟩ := hW
  unfold WF
  rw [k1 0 (by omega) (by omega), k2, k1 2 (by omega) (by omega), k1 3 (by omega) (by omega), k1 4 (by omega) (by omega), k1 11 (by omega) (by omega)]
  refine ⟨g1, by omega, g3, g4, g5, ?_, g7, ?_, ?_, ?_⟩
  · intro t ht; rw [k1 (5 + t) (by omega) (by omega)]; exact g6 t ht
  · intro k hk; rw [k1 (12 + k) (by omega) (by omega)]; exact g8 k hk
  · intro k hk
    by_cases c : k = n
    · subst c; rw [k4, k5]; exact ⟨hb, hh.1, by omega⟩
    · obtain ⟨p1, p2⟩ := k3 k (by omega)
      rw [p1, p2]; exact g9 k (by omega)
  · intro k hk
    rw [k1 (110 + 3 * k) (by omega) (by omega), k1 (111 + 3 * k) (by omega) (by omega), k1 (112 + 3 * k) (by omega) (by omega)]; exact g10 k hk
theorem me_RX (hW : WF y) (hX : RX y beasts meals seats laws inForce tr mh te cases rs ju vo) {n b h : Nat} (e : y 1 = (n : Int)) (hn : n < 24) (hb : (b : Int) < y 0) (hh : h ≤ 23) : RX (meY y n (b : Int) (h : Int)) beasts (i32 ((n : Int) + 1)) seats laws inForce tr (va_up mh b (mh b ||| ((1 : Int32) <<< (i32 (h : Int) &&& 31)))) te cases rs ju vo := by
  obtain ⟨k1, k2, k3, k4, k5⟩ := meY_k (y := y) (b := (b : Int)) (h := (h : Int)) hn
  obtain ⟨h1, h2, h3, h4, h5, h6, h7, h8, h9, h10⟩ := hX
  unfold RX
  rw [k1 0 (by omega) (by omega), k2, k1 2 (by omega) (by omega), k1 3 (by omega) (by omega), k1 4 (by omega) (by omega), k1 11 (by omega) (by omega)]
  refine ⟨h1, rfl, h3, h4, h5, ?_, ?_, ?_, h9, ?_⟩
  · intro k hk; rw [k1 (12 + k) (by omega) (by omega)]; exact h6 k hk
  · intro t ht; rw [k1 (5 + t) (by omega) (by omega)]; exact h7 t ht
  · intro c hc
    obtain ⟨m, e1, e2, e3⟩ := h8 c hc
    by_cases cb : c = b
    · subst cb
      refine ⟨m ||| 2 ^ h, ?_, Nat.or_lt_two_pow e2 (Nat.pow_lt_pow_right (by omega) (by omega)), fun g hg => ?_⟩
      · rw [va_up_at, e1, i32_31 (by omega), i32_litN 1, i32_shl (by omega), i32_or, Nat.one_mul]
      · rw [Nat.testBit_or, Nat.testBit_two_pow, Bool.or_eq_true, e3 g hg, decide_eq_true_eq]
        constructor
        · rintro (⟨j, g1, g2, g3⟩ | rfl)
          · obtain ⟨p1, p2⟩ := k3 j (by omega)
            exact ⟨j, by omega, by rw [p1]; exact g2, by rw [p2]; exact g3⟩
          · exact ⟨n, by omega, k4, k5⟩
        · rintro ⟨j, g1, g2, g3⟩
          by_cases cj : j = n
          · subst cj
            rw [k5] at g3
            exact Or.inr (by omega)
          · obtain ⟨p1, p2⟩ := k3 j (by omega)
            exact Or.inl ⟨j, by omega, by rw [← p1]; exact g2, by rw [← p2]; exact g3⟩
    · refine ⟨m, by rw [va_up_ne _ _ cb]; exact e1, e2, fun g hg => (e3 g hg).trans ?_⟩
      constructor
      · rintro ⟨j, g1, g2, g3⟩
        obtain ⟨p1, p2⟩ := k3 j (by omega)
        exact ⟨j, by omega, by rw [p1]; exact g2, by rw [p2]; exact g3⟩
      · rintro ⟨j, g1, g2, g3⟩
        by_cases cj : j = n
        · subst cj
          rw [k4] at g2
          exact absurd g2 (by omega)
        · obtain ⟨p1, p2⟩ := k3 j (by omega)
          exact ⟨j, by omega, by rw [← p1]; exact g2, by rw [← p2]; exact g3⟩
  · intro k hk
    have := hW.2.2.2.2.2.2.1
    rw [k1 (110 + 3 * k) (by omega) (by omega), k1 (111 + 3 * k) (by omega) (by omega), k1 (112 + 3 * k) (by omega) (by omega)]; exact h10 k hk
theorem q_meal (hM : RM y row) (hW : WF y) (hX : RX y beasts meals seats laws inForce tr mh te cases rs ju vo) (hR : RR last a78 status refusals) (x1 x2 : Int32) :
    ∃ Rx Rm y', fX11_meal last beasts meals mh known a78 x1 x2 = some Rx ∧ fX12_meal thrown status refusals row x1 x2 = some Rm ∧ Rx.1 = Rm.1 ∧ RR Rx.2.1 Rx.2.2.2.2.2 Rm.2.2.1 Rm.2.2.2.1 ∧ RM y' Rm.2.2.2.2 ∧ WF y' ∧ RX y' beasts Rx.2.2.1 seats laws inForce tr Rx.2.2.2.1 te cases rs ju vo ∧ EqL y y' ∧ (Rx.2.2.2.2.1 = 0 ∨ Rx.2.2.2.2.1 = known ∧ y' = y ∧ Rx.2.2.1 = meals ∧ Rx.2.2.2.1 = mh) := by
  obtain ⟨b, b1, b2, rfl⟩ := i32_any x1
  obtain ⟨h, h1, h2, rfl⟩ := i32_any x2
  have hB := hW.1
  have e0 := hX.1
  subst e0
  obtain ⟨n, en⟩ := Int.eq_ofNat_of_zero_le hW.2.1.1
  have ec := hX.2.1
  rw [en] at ec
  subst ec
  have em := hM 1 (by omega)
  rw [en] at em
  have hm := hW.2.1.2
  unfold fX11_meal fX12_meal
  rw [x_isHour h h1 h2, v_isHour h h1 h2, x_hasBeast hB.1 hB.2 b b1 b2, v_isBeast (hM 0 (by omega)) hB.1 hB.2 b b1 b2]
  simp only [Option.bind_some]
  by_cases c1 : 0 ≤ h ∧ h ≤ 23
  case neg =>
    have cz : bI (0 ≤ h ∧ h ≤ 23) = 0 := by rw [bI_0]; exact c1
    rw [if_pos cz, if_pos cz, show (-1 : Int32) = i32 (-1) from rfl, x_refuse (by omega) (by omega), v_tell_neg (by omega) (by omega)]
    exact ⟨_, _, y, rfl, rfl, rfl, hR.ref _ _, hM, hW, hX, EqL.rfl, Or.inr ⟨rfl, rfl, rfl, rfl⟩⟩
  have d1 : ¬ bI (0 ≤ h ∧ h ≤ 23) = 0 := by rw [bI_0]; exact fun q => q c1
  rw [if_neg d1, if_neg d1]
  by_cases c2 : 0 ≤ b ∧ b < y 0
  case neg =>
    have cz : bI (0 ≤ b ∧ b < y 0) = 0 := by rw [bI_0]; exact c2
    rw [if_pos cz, if_pos cz, show (-2 : Int32) = i32 (-2) from rfl, x_refuse (by omega) (by omega), v_tell_neg (by omega) (by omega)]
    exact ⟨_, _, y, rfl, rfl, rfl, hR.ref _ _, hM, hW, hX, EqL.rfl, Or.inr ⟨rfl, rfl, rfl, rfl⟩⟩
  have d2 : ¬ bI (0 ≤ b ∧ b < y 0) = 0 := by rw [bI_0]; exact fun q => q c2
  rw [if_neg d2, if_neg d2, gd9 (by decide) (by decide), i32_nn9 (by decide), em]
  by_cases cn : n < 24
  · have e8 : i32 (n : Int) < 24 := by rw [i32_litN 24, i32_lt (by omega) (by omega) (by omega) (by omega)]; omega
    have n8 : ¬ i32 (n : Int) = 24 := by rw [i32_litN 24, i32_eq (by omega) (by omega) (by omega) (by omega)]; omega
    obtain ⟨b, rfl⟩ := Int.eq_ofNat_of_zero_le c2.1
    obtain ⟨h, rfl⟩ := Int.eq_ofNat_of_zero_le c1.1
    have s0 : (60 : Int32) + 2 * i32 (n : Int) = i32 ((60 + 2 * n : Nat) : Int) := by rw [i32_litN 60, i32_litN 2, i32_mul, i32_add]; exact congrArg i32 (by omega)
    have s1 : i32 ((60 + 2 * n : Nat) : Int) + 1 = i32 ((61 + 2 * n : Nat) : Int) := by rw [i32_litN 1, i32_add]; exact congrArg i32 (by omega)
    rw [if_pos e8, if_neg n8, s0, s1, gd_ok (by omega) (by omega) (by omega), gd_ok (by omega) (by omega) (by omega), gd_ok (by omega) (by omega) (by omega), gd_ok (by omega) (by omega) (by omega), gd9 (by decide) (by decide), gd9 (by decide) (by decide), show i32 (n : Int) + 1 = i32 ((n : Int) + 1) from i32_add _ 1, v_tell (by omega) (by omega), Option.bind_some, x_accept, Option.bind_some]
    rw [i32_nat (by omega) (by omega), i32_nat (by omega) (by omega), i32_nat (by omega) (by omega)]
    simp only [Int.toNat_natCast]
    rw [va_up_ne _ _ (show 1 ≠ 61 + 2 * n by omega), va_up_ne _ _ (show 1 ≠ 60 + 2 * n by omega), em, show i32 (n : Int) + 1 = i32 ((n : Int) + 1) from i32_add _ 1]
    refine ⟨_, _, meY y n (b : Int) (h : Int), rfl, rfl, rfl, hR.acc, ((hM.up _ _).up _ _).up _ _, me_WF hW en cn c2 c1, me_RX hW hX en cn c2.2 (by omega), ⟨(meY_k cn).1 2 (by omega) (by omega), fun k hk => (meY_k cn).1 k (by omega) (by omega)⟩, Or.inl rfl⟩
  · have e8 : ¬ i32 (n : Int) < 24 := by rw [i32_litN 24, i32_lt (by omega) (by omega) (by omega) (by omega)]; omega
    have n8 : i32 (n : Int) = 24 := by rw [i32_litN 24, i32_eq (by omega) (by omega) (by omega) (by omega)]; omega
    rw [if_neg e8, if_pos n8, show (-5 : Int32) = i32 (-5) from rfl, x_refuse (by omega) (by omega), v_tell_neg (by omega) (by omega)]
    exact ⟨_, _, y, rfl, rfl, rfl, hR.ref _ _, hM, hW, hX, EqL.rfl, Or.inr ⟨rfl, rfl, rfl, rfl⟩⟩
end MEAL
