section ANNUL
variable {y : Nat → Int} {row : Nat → Int32} {beasts meals seats laws inForce cases : Int32} {tr mh te rs ju vo : Nat → Int32} {last status known thrown : Int32} {a78 refusals : Nat → Int32} {Fu : Nat}
/-! a case less -/
theorem dr_step {a : Nat → Int32} {j k : Nat} (hj : 1 ≤ j) : (if k + 1 < j + 1 then va_up a (j - 1) (a j) k else va_up a (j - 1) (a j) (k + 1)) = if k + 1 < j then a k else a (k + 1) := by
  by_cases c : k + 1 < j
  · rw [if_pos (by omega), if_pos c, va_up_ne _ _ (by omega)]
  · rw [if_neg c]
    by_cases d : k + 1 = j
    · rw [if_pos (by omega), show k = j - 1 by omega, va_up_at, show j - 1 + 1 = j by omega]
    · rw [if_neg (by omega), va_up_ne _ _ (by omega)]
theorem x_dropL {n : Nat} (hn : n ≤ 20) : ∀ (d f j : Nat) (a1 a2 a3 : Nat → Int32), j + d = n → 1 ≤ j → d < f → Rt (fX2_drop_L4 Fu f (i32 (n : Int)) a1 a2 a3 (i32 (j : Int))) (fun r => r.1 = i32 ((n : Int) - 1) ∧ ∀ k, k + 1 < n → r.2.1 k = (if k + 1 < j then a1 k else a1 (k + 1)) ∧ r.2.2.1 k = (if k + 1 < j then a2 k else a2 (k + 1)) ∧ r.2.2.2 k = (if k + 1 < j then a3 k else a3 (k + 1))) := by
  intro d
  induction d with
  | zero =>
    intro f j a1 a2 a3 hj h1 hf
    obtain ⟨f, rfl⟩ : ∃ f', f = f' + 1 := ⟨f - 1, by omega⟩
    rw [fX2_drop_L4]
    refine Rt.ift (by rw [i32_le (by omega) (by omega) (by omega) (by omega)]; omega) (Rt.ret ⟨i32_sub _ 1, fun k hk => ?_⟩)
    rw [if_pos (by omega), if_pos (by omega), if_pos (by omega)]; exact ⟨rfl, rfl, rfl⟩
  | succ d ih =>
    intro f j a1 a2 a3 hj h1 hf
    obtain ⟨f, rfl⟩ : ∃ f', f = f' + 1 := ⟨f - 1, by omega⟩
    rw [fX2_drop_L4]
    refine Rt.iff (by rw [i32_le (by omega) (by omega) (by omega) (by omega)]; omega) ?_
    rw [show i32 (j : Int) - 1 = i32 ((j - 1 : Nat) : Int) by rw [i32_litN 1, i32_sub]; exact congrArg i32 (by omega)]
    refine Rt.gd (by omega) (by omega) (by omega) (Rt.gd (by omega) (by omega) (by omega) (Rt.gd (by omega) (by omega) (by omega) (Rt.gd (by omega) (by omega) (by omega) (Rt.gd (by omega) (by omega) (by omega) (Rt.gd (by omega) (by omega) (by omega) ?_)))))
    rw [i32_nat (by omega) (by omega), i32_nat (by omega) (by omega), Int.toNat_natCast, Int.toNat_natCast, i32_p1]
    refine (ih f (j + 1) _ _ _ (by omega) (by omega) (by omega)).mono (fun r hr => ⟨hr.1, fun k hk => ?_⟩)
    obtain ⟨g1, g2, g3⟩ := hr.2 k hk
    rw [g1, g2, g3]
    exact ⟨dr_step h1, dr_step h1, dr_step h1⟩
def shY (y : Nat → Int) (lo k : Nat) : Nat → Int := fun j => if lo ≤ j ∧ j < k then y (j + 3) else y j
def anY (y : Nat → Int) (n i : Nat) : Nat → Int := va_up (shY y (110 + 3 * i) 167) 11 ((n : Int) - 1)
theorem v_annL {n i : Nat} (e : y 11 = (n : Int)) (hn : n ≤ 20) (hi : i < n) {th st : Int32} {ref : Nat → Int32} : ∀ (d f k : Nat) (row : Nat → Int32), k + d = 167 → 110 + 3 * i ≤ k → d < f → RM (shY y (110 + 3 * i) k) row → Rt (fX12_annul_L38 Fu f th st ref row (i32 (k : Int))) (fun r => r.1 = i32 ((n : Int) - 1) ∧ r.2.2.1 = 0 ∧ r.2.2.2.1 = ref ∧ RM (anY y n i) r.2.2.2.2) := by
  intro d
  induction d with
  | zero =>
    intro f k row hk h1 hf hM
    obtain ⟨f, rfl⟩ : ∃ f', f = f' + 1 := ⟨f - 1, by omega⟩
    obtain rfl : k = 167 := by omega
    have e11 : row 11 = i32 (n : Int) := by
      rw [hM 11 (by omega)]
      show i32 (if 110 + 3 * i ≤ 11 ∧ 11 < 167 then y (11 + 3) else y 11) = _
      rw [if_neg (by omega), e]
    rw [fX12_annul_L38]
    refine Rt.ift (by rw [i32_litN 167, i32_le (by omega) (by omega) (by omega) (by omega)]; omega) ?_
    rw [gd9 (by decide) (by decide), gd9 (by decide) (by decide), gd9 (by decide) (by decide), i32_nn9 (by decide), va_up_at, e11, show i32 (n : Int) - 1 = i32 ((n : Int) - 1) from i32_sub _ 1, v_tell (by omega) (by omega)]
    exact Rt.eqb rfl (Rt.ret ⟨rfl, rfl, rfl, hM.up _ _⟩)
  | succ d ih =>
    intro f k row hk h1 hf hM
    obtain ⟨f, rfl⟩ : ∃ f', f = f' + 1 := ⟨f - 1, by omega⟩
    rw [fX12_annul_L38]
    refine Rt.iff (by rw [i32_litN 167, i32_le (by omega) (by omega) (by omega) (by omega)]; omega) ?_
    rw [show i32 (k : Int) + 3 = i32 ((k + 3 : Nat) : Int) by rw [i32_litN 3, i32_add]; exact congrArg i32 (by omega)]
    refine Rt.gd (by omega) (by omega) (by omega) (Rt.gd (by omega) (by omega) (by omega) ?_)
    rw [i32_nat (by omega) (by omega), i32_nat (by omega) (by omega), Int.toNat_natCast, Int.toNat_natCast, i32_p1]
    refine ih f (k + 1) _ (by omega) (by omega) (by omega) (fun j hj => ?_)
    show _ = i32 (if 110 + 3 * i ≤ j ∧ j < k + 1 then y (j + 3) else y j)
    by_cases c : j = k
    · subst c
      rw [va_up_at, if_pos ⟨h1, by omega⟩, hM (j + 3) (by omega)]
      show i32 (if 110 + 3 * i ≤ j + 3 ∧ j + 3 < j then _ else y (j + 3)) = _
      rw [if_neg (by omega)]
    · rw [va_up_ne _ _ c, hM j hj]
      show i32 (if 110 + 3 * i ≤ j ∧ j < k then y (j + 3) else y j) = _
      by_cases q : 110 + 3 * i ≤ j ∧ j < k
      · rw [if_pos q, if_pos (by omega)]
      · rw [if_neg q, if_neg (by omega)]
theorem anY_k {n i : Nat} (hn : n ≤ 20) (hi : i < n) : (∀ k, k ≠ 11 → k < 110 ∨ 170 ≤ k → anY y n i k = y k) ∧ anY y n i 11 = (n : Int) - 1 ∧ (∀ k w, w < 3 → k + 1 < n → anY y n i (110 + w + 3 * k) = if k + 1 < i + 1 then y (110 + w + 3 * k) else y (110 + w + 3 * (k + 1))) := by
  unfold anY shY
  refine ⟨fun k h1 h2 => ?_, va_up_at _ _ _, fun k w hw hk => ?_⟩
  · rw [va_up_ne _ _ h1]; exact if_neg (by omega)
  · rw [va_up_ne _ _ (by omega)]
    by_cases c : k + 1 < i + 1
    · rw [if_pos c]; exact if_neg (by omega)
    · rw [if_neg c, show 110 + w + 3 * (k + 1) = 110 + w + 3 * k + 3 by omega]; exact if_pos (by omega)
theorem q_annul (hFu : 6000 ≤ Fu) (hM : RM y row) (hW : WF y) (hX : RX y beasts meals seats laws inForce tr mh te cases rs ju vo) (hR : RR last a78 status refusals) (x1 : Int32) :
    ∃ Rx Rm y', fX11_annul Fu last cases rs ju vo known a78 x1 = some Rx ∧ fX12_annul Fu thrown status refusals row x1 = some Rm ∧ Rx.1 = Rm.1 ∧ RR Rx.2.1 Rx.2.2.2.2.2.2.2 Rm.2.2.1 Rm.2.2.2.1 ∧ RM y' Rm.2.2.2.2 ∧ WF y' ∧ RX y' beasts meals seats laws inForce tr mh te Rx.2.2.1 Rx.2.2.2.1 Rx.2.2.2.2.1 Rx.2.2.2.2.2.1 ∧ EqL y y' ∧ (Rx.2.2.2.2.2.2.1 = 0 ∨ Rx.2.2.2.2.2.2.1 = known ∧ y' = y) := by
  obtain ⟨z, z1, z2, rfl⟩ := i32_any x1
  have h11 := hW.2.2.2.2.2.2.1
  obtain ⟨n, en⟩ := Int.eq_ofNat_of_zero_le h11.1
  have ec := hX.2.2.2.2.2.2.2.2.1
  rw [en] at ec
  subst ec
  have em := hM 11 (by omega)
  rw [en] at em
  unfold fX11_annul fX12_annul fX11_annul_L18
  rw [gd9 (by decide) (by decide), i32_nn9 (by decide), em, i32_64 z1 z2, i32_64 (by omega) (by omega), show (0 : Int64) = i64 0 from rfl, show i64 (n : Int) - 1 = i64 ((n : Int) - 1) from i64_sub _ 1, v_in (by omega) (by omega) (by omega) (by omega) (by omega) (by omega), Option.bind_some]
  by_cases c : 0 ≤ z ∧ z ≤ (n : Int) - 1
  · obtain ⟨i, rfl⟩ := Int.eq_ofNat_of_zero_le c.1
    have hi : i < n := by omega
    have hn : n ≤ 20 := by omega
    have cz : ¬ bI (0 ≤ (i : Int) ∧ (i : Int) ≤ (n : Int) - 1) = 0 := by rw [bI_0]; exact fun q => q c
    rw [if_neg (show ¬ i32 (i : Int) < 0 by rw [i32_litN 0, i32_lt (by omega) (by omega) (by omega) (by omega)]; omega), if_pos (show i32 (i : Int) < i32 (n : Int) by rw [i32_lt (by omega) (by omega) (by omega) (by omega)]; omega), if_neg cz]
    obtain ⟨r, hr, g1, g2⟩ := x_dropL (Fu := Fu) hn (n - (i + 1)) Fu (i + 1) rs ju vo (by omega) (by omega) (by omega)
    obtain ⟨m, hm, m1, m2, m3, m4⟩ := v_annL (Fu := Fu) (th := 0) (st := status) (ref := refusals) en hn hi (167 - (110 + 3 * i)) Fu (110 + 3 * i) row (by omega) (by omega) (by omega) (fun j hj => by
      show row j = i32 (if 110 + 3 * i ≤ j ∧ j < 110 + 3 * i then y (j + 3) else y j)
      rw [if_neg (by omega)]; exact hM j hj)
    rw [show (110 : Int32) + 3 * i32 (i : Int) = i32 ((110 + 3 * i : Nat) : Int) by rw [i32_litN 110, i32_litN 3, i32_mul, i32_add]; exact congrArg i32 (by omega), hm]
    unfold fX2_drop
    rw [i32_p1, hr, Option.bind_some, x_accept, Option.bind_some]
    obtain ⟨k1, k2, k3⟩ := anY_k (y := y) hn hi
    have key : ∀ k : Nat, (k : Int) < anY y n i 11 → anY y n i (110 + 3 * k) = (if k + 1 < i + 1 then y (110 + 3 * k) else y (110 + 3 * (k + 1))) ∧ anY y n i (111 + 3 * k) = (if k + 1 < i + 1 then y (111 + 3 * k) else y (111 + 3 * (k + 1))) ∧ anY y n i (112 + 3 * k) = (if k + 1 < i + 1 then y (112 + 3 * k) else y (112 + 3 * (k + 1))) ∧ k + 1 < n := by
      intro k hk
      rw [k2] at hk
      have hk2 : k + 1 < n := by omega
      exact ⟨k3 k 0 (by omega) hk2, k3 k 1 (by omega) hk2, k3 k 2 (by omega) hk2, hk2⟩
    refine ⟨_, _, anY y n i, rfl, rfl, by show r.1 = m.1; rw [g1, m1], by show RR 0 a78 m.2.2.1 m.2.2.2.1; rw [m2, m3]; exact hR.acc, m4, WF_cas hW k1 (by rw [k2]; omega) (fun k hk => ?_), RX_cas hW hX k1 (by show r.1 = _; rw [g1, k2]) (fun k hk => ?_), ⟨k1 2 (by omega) (by omega), fun k hk => k1 k (by omega) (by omega)⟩, Or.inl rfl⟩
    · obtain ⟨a1, a2, a3, a4⟩ := key k hk
      rw [a1, a2, a3]
      by_cases q : k + 1 < i + 1
      · rw [if_pos q, if_pos q, if_pos q]; exact hW.2.2.2.2.2.2.2.2.2 k (by omega)
      · rw [if_neg q, if_neg q, if_neg q]; exact hW.2.2.2.2.2.2.2.2.2 (k + 1) (by omega)
    · obtain ⟨a1, a2, a3, a4⟩ := key k hk
      obtain ⟨b1, b2, b3⟩ := g2 k a4
      rw [a1, a2, a3]
      show r.2.1 k = _ ∧ r.2.2.1 k = _ ∧ r.2.2.2 k = _
      rw [b1, b2, b3]
      by_cases q : k + 1 < i + 1
      · rw [if_pos q, if_pos q, if_pos q, if_pos q, if_pos q, if_pos q]; exact hX.2.2.2.2.2.2.2.2.2 k (by omega)
      · rw [if_neg q, if_neg q, if_neg q, if_neg q, if_neg q, if_neg q]; exact hX.2.2.2.2.2.2.2.2.2 (k + 1) (by omega)
  · have cz : bI (0 ≤ z ∧ z ≤ (n : Int) - 1) = 0 := by rw [bI_0]; exact c
    rw [if_pos cz, show (-2 : Int32) = i32 (-2) from rfl, x_refuse (by omega) (by omega), v_tell_neg (by omega) (by omega), Option.bind_some]
    have hx : ∀ {α : Type} (A B : α), (if i32 z < 0 then A else if i32 z < i32 (n : Int) then B else A) = A := by
      intro α A B
      by_cases d : z < 0
      · rw [if_pos (show i32 z < 0 by rw [i32_litN 0, i32_lt (by omega) (by omega) (by omega) (by omega)]; omega)]
      · rw [if_neg (show ¬ i32 z < 0 by rw [i32_litN 0, i32_lt (by omega) (by omega) (by omega) (by omega)]; omega), if_neg (show ¬ i32 z < i32 (n : Int) by rw [i32_lt (by omega) (by omega) (by omega) (by omega)]; omega)]
    rw [hx]
    exact ⟨_, _, y, rfl, rfl, rfl, hR.ref _ _, hM, hW, hX, EqL.rfl, Or.inr ⟨rfl, rfl⟩⟩
end ANNUL
