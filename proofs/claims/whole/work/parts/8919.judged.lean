section JUDGED
variable {y : Nat → Int} {row : Nat → Int32} {beasts meals seats laws inForce cases : Int32} {tr mh te rs ju vo : Nat → Int32} {last status known thrown : Int32} {a78 refusals : Nat → Int32}
/-! a case more -/
theorem WF_cas {y' : Nat → Int} (hW : WF y) (h : ∀ k, k ≠ 11 → k < 110 ∨ 170 ≤ k → y' k = y k) (h11 : 0 ≤ y' 11 ∧ y' 11 ≤ 20) (hc : ∀ k : Nat, (k : Int) < y' 11 → (0 ≤ y' (110 + 3 * k) ∧ y' (110 + 3 * k) ≤ 1) ∧ (0 ≤ y' (111 + 3 * k) ∧ y' (111 + 3 * k) < 256) ∧ 0 ≤ y' (112 + 3 * k) ∧ (y' (112 + 3 * k)).toNat &&& (y' (111 + 3 * k)).toNat = (y' (112 + 3 * k)).toNat) : WF y' := by
  obtain ⟨g1, g2, g3, g4, g5, g6, g7, g8, g9, g10⟩ := hW
  unfold WF
  rw [h 0 (by omega) (by omega), h 1 (by omega) (by omega), h 2 (by omega) (by omega), h 3 (by omega) (by omega), h 4 (by omega) (by omega)]
  refine ⟨g1, g2, g3, g4, g5, ?_, h11, ?_, ?_, hc⟩
  · intro t ht; rw [h (5 + t) (by omega) (by omega)]; exact g6 t ht
  · intro k hk; rw [h (12 + k) (by omega) (by omega)]; exact g8 k hk
  · intro k hk
    rw [h (60 + 2 * k) (by omega) (by omega), h (61 + 2 * k) (by omega) (by omega)]; exact g9 k hk
theorem RX_cas {y' : Nat → Int} {cases' : Int32} {rs' ju' vo' : Nat → Int32} (hW : WF y) (hX : RX y beasts meals seats laws inForce tr mh te cases rs ju vo) (h : ∀ k, k ≠ 11 → k < 110 ∨ 170 ≤ k → y' k = y k) (e11 : cases' = i32 (y' 11)) (hc : ∀ k : Nat, (k : Int) < y' 11 → rs' k = i32 (y' (110 + 3 * k)) ∧ ju' k = i32 (y' (111 + 3 * k)) ∧ vo' k = i32 (y' (112 + 3 * k))) : RX y' beasts meals seats laws inForce tr mh te cases' rs' ju' vo' := by
  have w1 := hW.2.1
  obtain ⟨h1, h2, h3, h4, h5, h6, h7, h8, h9, h10⟩ := hX
  unfold RX
  rw [h 0 (by omega) (by omega), h 1 (by omega) (by omega), h 2 (by omega) (by omega), h 3 (by omega) (by omega), h 4 (by omega) (by omega)]
  refine ⟨h1, h2, h3, h4, h5, ?_, ?_, ?_, e11, hc⟩
  · intro k hk; rw [h (12 + k) (by omega) (by omega)]; exact h6 k hk
  · intro t ht; rw [h (5 + t) (by omega) (by omega)]; exact h7 t ht
  · intro b hb
    obtain ⟨m, e1, e2, e3⟩ := h8 b hb
    refine ⟨m, e1, e2, fun hh hhh => (e3 hh hhh).trans ?_⟩
    constructor
    · rintro ⟨j, g1, g2, g3⟩
      exact ⟨j, g1, by rw [h (60 + 2 * j) (by omega) (by omega)]; exact g2, by rw [h (61 + 2 * j) (by omega) (by omega)]; exact g3⟩
    · rintro ⟨j, g1, g2, g3⟩
      rw [h (60 + 2 * j) (by omega) (by omega)] at g2
      rw [h (61 + 2 * j) (by omega) (by omega)] at g3
      exact ⟨j, g1, g2, g3⟩
theorem v_isCase {s b v : Int} (s1 : -2147483648 ≤ s) (s2 : s ≤ 2147483647) (b1 : -2147483648 ≤ b) (b2 : b ≤ 2147483647) (v1 : -2147483648 ≤ v) (v2 : v ≤ 2147483647) : fX12_isCase (i32 s) (i32 b) (i32 v) = some (bI ((0 ≤ s ∧ s ≤ 1) ∧ (0 ≤ b ∧ b ≤ 255) ∧ (0 ≤ v ∧ v.toNat &&& b.toNat = v.toNat))) := by
  unfold fX12_isCase fX12_isCase_L43
  rw [v_isSide s s1 s2, i32_64 b1 b2, i32_64 v1 v2, show (0 : Int64) = i64 0 from rfl, show (255 : Int64) = i64 255 from rfl, v_in (by omega) (by omega) (by omega) (by omega) (by omega) (by omega), v_in (by omega) (by omega) (by omega) (by omega) (by omega) (by omega), Option.bind_some, Option.bind_some, Option.bind_some]
  by_cases cs : 0 ≤ s ∧ s ≤ 1
  · rw [if_neg (by rw [bI_0]; exact fun q => q cs)]
    by_cases cb : 0 ≤ b ∧ b ≤ 255
    · rw [if_neg (by rw [bI_0]; exact fun q => q cb)]
      have so := sub_of cb.1 cb.2 v1 v2
      by_cases cv : 0 ≤ v ∧ v ≤ 255
      · rw [if_neg (by rw [bI_0]; exact fun q => q cv)]
        unfold bI
        by_cases cc : 0 ≤ v ∧ v.toNat &&& b.toNat = v.toNat
        · rw [if_pos (so.mpr cc), if_pos ⟨cs, cb, cc⟩]
        · rw [if_neg (fun q => cc (so.mp q)), if_neg (fun q => cc q.2.2)]
      · rw [if_pos (by rw [bI_0]; exact cv)]
        unfold bI
        rw [if_neg (fun q => cv ⟨q.2.2.1, ?_⟩)]
        have l : v.toNat &&& b.toNat ≤ b.toNat := Nat.and_le_right
        have := q.2.2.2
        omega
    · rw [if_pos (by rw [bI_0]; exact cb)]
      unfold bI
      rw [if_neg (fun q => cb q.2.1)]
  · rw [if_pos (by rw [bI_0]; exact cs)]
    unfold bI
    rw [if_neg (fun q => cs q.1)]
def caY (y : Nat → Int) (n : Nat) (s b v : Int) : Nat → Int := va_up (va_up (va_up (va_up y (110 + 3 * n) s) (111 + 3 * n) b) (112 + 3 * n) v) 11 ((n : Int) + 1)
theorem caY_k {n : Nat} {s b v : Int} (hn : n < 20) : (∀ k, k ≠ 11 → k < 110 ∨ 170 ≤ k → caY y n s b v k = y k) ∧ caY y n s b v 11 = (n : Int) + 1 ∧ (∀ k, k < n → caY y n s b v (110 + 3 * k) = y (110 + 3 * k) ∧ caY y n s b v (111 + 3 * k) = y (111 + 3 * k) ∧ caY y n s b v (112 + 3 * k) = y (112 + 3 * k)) ∧ caY y n s b v (110 + 3 * n) = s ∧ caY y n s b v (111 + 3 * n) = b ∧ caY y n s b v (112 + 3 * n) = v := by
  unfold caY
  refine ⟨fun k h1 h2 => ?_, va_up_at _ _ _, fun k hk => ⟨?_, ?_, ?_⟩, ?_, ?_, ?_⟩
  · rw [va_up_ne _ _ h1, va_up_ne _ _ (by omega), va_up_ne _ _ (by omega), va_up_ne _ _ (by omega)]
  · rw [va_up_ne _ _ (by omega), va_up_ne _ _ (by omega), va_up_ne _ _ (by omega), va_up_ne _ _ (by omega)]
  · rw [va_up_ne _ _ (by omega), va_up_ne _ _ (by omega), va_up_ne _ _ (by omega), va_up_ne _ _ (by omega)]
  · rw [va_up_ne _ _ (by omega), va_up_ne _ _ (by omega), va_up_ne _ _ (by omega), va_up_ne _ _ (by omega)]
  · rw [va_up_ne _ _ (by omega), va_up_ne _ _ (by omega), va_up_ne _ _ (by omega), va_up_at]
  · rw [va_up_ne _ _ (by omega), va_up_ne _ _ (by omega), va_up_at]
  · rw [va_up_ne _ _ (by omega), va_up_at]
theorem ca_ok (hW : WF y) (hX : RX y beasts meals seats laws inForce tr mh te cases rs ju vo) {n : Nat} (e : y 11 = (n : Int)) (hn : n < 20) {s b v : Int} (hs : 0 ≤ s ∧ s ≤ 1) (hb : 0 ≤ b ∧ b ≤ 255) (hv : 0 ≤ v ∧ v.toNat &&& b.toNat = v.toNat) : WF (caY y n s b v) ∧ RX (caY y n s b v) beasts meals seats laws inForce tr mh te (i32 ((n : Int) + 1)) (va_up rs n (i32 s)) (va_up ju n (i32 b)) (va_up vo n (i32 v)) := by
  obtain ⟨k1, k2, k3, k4, k5, k6⟩ := caY_k (y := y) (s := s) (b := b) (v := v) hn
  refine ⟨WF_cas hW k1 (by rw [k2]; omega) (fun k hk => ?_), RX_cas hW hX k1 (by rw [k2]) (fun k hk => ?_)⟩
  · rw [k2] at hk
    by_cases c : k = n
    · subst c; rw [k4, k5, k6]; exact ⟨hs, by omega, hv⟩
    · obtain ⟨p1, p2, p3⟩ := k3 k (by omega)
      rw [p1, p2, p3]
      exact hW.2.2.2.2.2.2.2.2.2 k (by omega)
  · rw [k2] at hk
    by_cases c : k = n
    · subst c; rw [k4, k5, k6, va_up_at, va_up_at, va_up_at]; exact ⟨rfl, rfl, rfl⟩
    · obtain ⟨p1, p2, p3⟩ := k3 k (by omega)
      rw [p1, p2, p3, va_up_ne _ _ c, va_up_ne _ _ c, va_up_ne _ _ c]
      exact hX.2.2.2.2.2.2.2.2.2 k (by omega)
theorem v_addCase (hM : RM y row) {n : Nat} (e : y 11 = (n : Int)) (hn : n < 20) {s b v : Int} : Rt (fX12_addCase row (i32 s) (i32 b) (i32 v)) (fun r => RM (caY y n s b v) r) := by
  have e11 := hM 11 (by omega)
  rw [e] at e11
  unfold fX12_addCase
  rw [i32_nn9 (by decide), e11]
  have e0 : (110 : Int32) + 3 * i32 (n : Int) = i32 ((110 + 3 * n : Nat) : Int) := by rw [i32_litN 110, i32_litN 3, i32_mul, i32_add]; exact congrArg i32 (by omega)
  have e1 : i32 ((110 + 3 * n : Nat) : Int) + 1 = i32 ((111 + 3 * n : Nat) : Int) := by rw [i32_litN 1, i32_add]; exact congrArg i32 (by omega)
  have e2 : i32 ((110 + 3 * n : Nat) : Int) + 2 = i32 ((112 + 3 * n : Nat) : Int) := by rw [i32_litN 2, i32_add]; exact congrArg i32 (by omega)
  rw [e0, e1, e2, gd9 (by decide) (by decide), gd_ok (by omega) (by omega) (by omega), gd_ok (by omega) (by omega) (by omega), gd_ok (by omega) (by omega) (by omega), gd9 (by decide) (by decide), gd9 (by decide) (by decide)]
  rw [i32_nat (by omega) (by omega), i32_nat (by omega) (by omega), i32_nat (by omega) (by omega), Int.toNat_natCast, Int.toNat_natCast, Int.toNat_natCast, va_up_ne _ _ (show 11 ≠ 112 + 3 * n by omega), va_up_ne _ _ (show 11 ≠ 111 + 3 * n by omega), va_up_ne _ _ (show 11 ≠ 110 + 3 * n by omega), e11, show i32 (n : Int) + 1 = i32 ((n : Int) + 1) from i32_add _ 1]
  exact Rt.ret ((((hM.up _ s).up _ b).up _ v).up 11 _)
theorem q_judged (hM : RM y row) (hW : WF y) (hX : RX y beasts meals seats laws inForce tr mh te cases rs ju vo) (hR : RR last a78 status refusals) (x1 x2 x3 : Int32) :
    ∃ Rx Rm y', fX11_judged last cases rs ju vo known a78 x1 x2 x3 = some Rx ∧ fX12_judged thrown status refusals row x1 x2 x3 = some Rm ∧ Rx.1 = Rm.1 ∧ RR Rx.2.1 Rx.2.2.2.2.2.2.2 Rm.2.2.1 Rm.2.2.2.1 ∧ RM y' Rm.2.2.2.2 ∧ WF y' ∧ RX y' beasts meals seats laws inForce tr mh te Rx.2.2.1 Rx.2.2.2.1 Rx.2.2.2.2.1 Rx.2.2.2.2.2.1 ∧ EqL y y' ∧ (Rx.2.2.2.2.2.2.1 = 0 ∨ Rx.2.2.2.2.2.2.1 = known ∧ y' = y) := by
  obtain ⟨s, s1, s2, rfl⟩ := i32_any x1
  obtain ⟨b, b1, b2, rfl⟩ := i32_any x2
  obtain ⟨v, v1, v2, rfl⟩ := i32_any x3
  have h11 := hW.2.2.2.2.2.2.1
  obtain ⟨n, en⟩ := Int.eq_ofNat_of_zero_le h11.1
  have ec := hX.2.2.2.2.2.2.2.2.1
  rw [en] at ec
  subst ec
  have em := hM 11 (by omega)
  rw [en] at em
  unfold fX11_judged fX12_judged
  rw [x_canJudge s1 s2 b1 b2 v1 v2, v_isCase s1 s2 b1 b2 v1 v2, Option.bind_some, Option.bind_some]
  by_cases c : (0 ≤ s ∧ s ≤ 1) ∧ (0 ≤ b ∧ b ≤ 255) ∧ (0 ≤ v ∧ v.toNat &&& b.toNat = v.toNat)
  · have cz : ¬ bI ((0 ≤ s ∧ s ≤ 1) ∧ (0 ≤ b ∧ b ≤ 255) ∧ (0 ≤ v ∧ v.toNat &&& b.toNat = v.toNat)) = 0 := by rw [bI_0]; exact fun q => q c
    rw [if_neg cz, if_neg cz, gd9 (by decide) (by decide), i32_nn9 (by decide), em]
    by_cases cn : n < 20
    · have e20 : i32 (n : Int) < 20 := by rw [i32_litN 20, i32_lt (by omega) (by omega) (by omega) (by omega)]; omega
      have n20 : ¬ i32 (n : Int) = 20 := by rw [i32_litN 20, i32_eq (by omega) (by omega) (by omega) (by omega)]; omega
      obtain ⟨r, hr, hm⟩ := v_addCase hM en cn (s := s) (b := b) (v := v)
      have ok := ca_ok hW hX en cn c.1 c.2.1 c.2.2
      have r11 : r 11 = i32 ((n : Int) + 1) := by rw [hm 11 (by omega), (caY_k cn).2.1]
      rw [if_pos e20, if_neg n20, hr, Option.bind_some, gd9 (by decide) (by decide), r11, v_tell (by omega) (by omega)]
      unfold fX2_add
      rw [if_pos e20, gd_ok (by omega) (by omega) (by omega), gd_ok (by omega) (by omega) (by omega), gd_ok (by omega) (by omega) (by omega), i32_nat (by omega) (by omega), Int.toNat_natCast, Option.bind_some, x_accept, Option.bind_some, Option.bind_some, show i32 (n : Int) + 1 = i32 ((n : Int) + 1) from i32_add _ 1]
      refine ⟨_, _, caY y n s b v, rfl, rfl, rfl, hR.acc, hm, ok.1, ok.2, ⟨(caY_k cn).1 2 (by omega) (by omega), fun k hk => (caY_k cn).1 k (by omega) (by omega)⟩, Or.inl rfl⟩
    · have e20 : ¬ i32 (n : Int) < 20 := by rw [i32_litN 20, i32_lt (by omega) (by omega) (by omega) (by omega)]; omega
      have n20 : i32 (n : Int) = 20 := by rw [i32_litN 20, i32_eq (by omega) (by omega) (by omega) (by omega)]; omega
      rw [if_neg e20, if_pos n20, show (-5 : Int32) = i32 (-5) from rfl, x_refuse (by omega) (by omega), v_tell_neg (by omega) (by omega)]
      exact ⟨_, _, y, rfl, rfl, rfl, hR.ref _ _, hM, hW, hX, EqL.rfl, Or.inr ⟨rfl, rfl⟩⟩
  · have cz : bI ((0 ≤ s ∧ s ≤ 1) ∧ (0 ≤ b ∧ b ≤ 255) ∧ (0 ≤ v ∧ v.toNat &&& b.toNat = v.toNat)) = 0 := by rw [bI_0]; exact c
    rw [if_pos cz, if_pos cz, show (-1 : Int32) = i32 (-1) from rfl, x_refuse (by omega) (by omega), v_tell_neg (by omega) (by omega)]
    refine ⟨_, _, y, rfl, rfl, rfl, hR.ref _ _, hM, hW, ?_, EqL.rfl, Or.inr ⟨rfl, rfl⟩⟩
    exact hX
end JUDGED
