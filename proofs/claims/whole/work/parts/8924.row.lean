section ROW
variable {Fu : Nat} {beasts meals seats laws inForce : Int32} {tr mh te : Nat → Int32} {last status known th taped : Int32} {a78 refusals a t : Nat → Int32}
theorem i32_p3 (j : Nat) : i32 (j : Int) + 3 = i32 ((j + 3 : Nat) : Int) := by rw [i32_litN 3, i32_add]; exact congrArg i32 (by omega)
theorem i32_p2 (j : Nat) : i32 (j : Int) + 2 = i32 ((j + 2 : Nat) : Int) := by rw [i32_litN 2, i32_add]; exact congrArg i32 (by omega)
theorem x_at {L j : Nat} (hL : L ≤ 400) (hj : j < L) : fX9_at (i32 (L : Int)) a (i32 (j : Int)) = some (a j) := by
  unfold fX9_at
  rw [if_neg (show ¬ i32 (j : Int) < 0 by rw [i32_litN 0, i32_lt (by omega) (by omega) (by omega) (by omega)]; omega), if_neg (show ¬ i32 (L : Int) ≤ i32 (j : Int) by rw [i32_le (by omega) (by omega) (by omega) (by omega)]; omega), gd_ok (by omega) (by omega) (by omega), i32_nat (by omega) (by omega), Int.toNat_natCast]
theorem q_rowL {L : Nat} (hL : L ≤ 400) (ht : ∀ k, k < 400 → a k = t k) (hR : RR last a78 status refusals) : ∀ (d f g j c : Nat) (q : Int32) (y : Nat → Int) (row : Nat → Int32) (cases : Int32) (rs ju vo : Nat → Int32), L ≤ j + 3 * d → j ≤ 403 → c ≤ j → d < f → d < g → RM y row → WF y → RX y beasts meals seats laws inForce tr mh te cases rs ju vo →
    ∃ Rx Rm y', fX11_row_L26 Fu f q last cases rs ju vo (i32 (L : Int)) a known a78 (i32 (c : Int)) (i32 (j : Int)) = some Rx ∧ fX12_row_L35 Fu g th status refusals row t taped q (i32 (L : Int)) (i32 (c : Int)) (i32 (j : Int)) = some Rm ∧ Rx.1 = Rm.1 ∧ Rx.2.1 = Rm.2.2.2.2.2.2 ∧ RR Rx.2.2.1 Rx.2.2.2.2.2.2.2.2.2 Rm.2.2.1 Rm.2.2.2.1 ∧ RM y' Rm.2.2.2.2.1 ∧ WF y' ∧ RX y' beasts meals seats laws inForce tr mh te Rx.2.2.2.1 Rx.2.2.2.2.1 Rx.2.2.2.2.2.1 Rx.2.2.2.2.2.2.1 ∧ EqL y y' ∧ Rx.2.2.2.2.2.2.2.1 = 0 ∧ Rm.2.2.2.2.2.1 = taped ∧ Rx.2.2.2.2.2.2.2.2.1 = 0 := by
  intro d
  induction d with
  | zero =>
    intro f g j c q y row cases rs ju vo h1 h2 h3 hf hg hM hW hX
    obtain ⟨f, rfl⟩ : ∃ f', f = f' + 1 := ⟨f - 1, by omega⟩
    obtain ⟨g, rfl⟩ : ∃ f', g = f' + 1 := ⟨g - 1, by omega⟩
    rw [fX11_row_L26, fX12_row_L35]
    have le : i32 (L : Int) ≤ i32 (j : Int) := by rw [i32_le (by omega) (by omega) (by omega) (by omega)]; omega
    rw [if_pos le, if_pos le, x_accept, v_tell (by omega) (by omega)]
    exact ⟨_, _, y, rfl, rfl, rfl, rfl, hR.acc, hM, hW, hX, EqL.rfl, rfl, rfl, rfl⟩
  | succ d ih =>
    intro f g j c q y row cases rs ju vo h1 h2 h3 hf hg hM hW hX
    obtain ⟨f, rfl⟩ : ∃ f', f = f' + 1 := ⟨f - 1, by omega⟩
    obtain ⟨g, rfl⟩ : ∃ f', g = f' + 1 := ⟨g - 1, by omega⟩
    rw [fX11_row_L26, fX12_row_L35]
    by_cases le : L ≤ j
    · have le : i32 (L : Int) ≤ i32 (j : Int) := by rw [i32_le (by omega) (by omega) (by omega) (by omega)]; omega
      rw [if_pos le, if_pos le, x_accept, v_tell (by omega) (by omega)]
      exact ⟨_, _, y, rfl, rfl, rfl, rfl, hR.acc, hM, hW, hX, EqL.rfl, rfl, rfl, rfl⟩
    · have nle : ¬ i32 (L : Int) ≤ i32 (j : Int) := by rw [i32_le (by omega) (by omega) (by omega) (by omega)]; omega
      have h11 := hW.2.2.2.2.2.2.1
      obtain ⟨n, en⟩ := Int.eq_ofNat_of_zero_le h11.1
      have ec := hX.2.2.2.2.2.2.2.2.1
      rw [en] at ec
      subst ec
      have em := hM 11 (by omega)
      rw [en] at em
      have quash := ih f g (j + 3) c (q + 1) y row (i32 (n : Int)) rs ju vo (by omega) (by omega) (by omega) (by omega) (by omega) hM hW hX
      rw [if_neg nle, if_neg nle]
      unfold fX12_row_L63 fX12_row_L64 fX12_row_L103 fX12_row_L104 fX11_row_L55 fX11_row_L153
      simp only [if_true, i32_p3, i32_p2, i32_p1]
      by_cases c3 : L ≤ j + 2
      · rw [if_pos (show i32 (L : Int) < i32 ((j + 3 : Nat) : Int) by rw [i32_lt (by omega) (by omega) (by omega) (by omega)]; omega), if_pos (show i32 (L : Int) ≤ i32 ((j + 2 : Nat) : Int) by rw [i32_le (by omega) (by omega) (by omega) (by omega)]; omega)]
        exact quash
      · have n1 : ¬ (1 : Int32) = 0 := by decide
        rw [if_neg (show ¬ i32 (L : Int) < i32 ((j + 3 : Nat) : Int) by rw [i32_lt (by omega) (by omega) (by omega) (by omega)]; omega), if_neg (show ¬ i32 (L : Int) ≤ i32 ((j + 2 : Nat) : Int) by rw [i32_le (by omega) (by omega) (by omega) (by omega)]; omega)]
        simp only [if_neg n1]
        rw [gd9 (by decide) (by decide), i32_nn9 (by decide), em]
        obtain ⟨s, s1, s2, es⟩ := i32_any (t j)
        obtain ⟨b, b1, b2, eb⟩ := i32_any (t (j + 1))
        obtain ⟨v, v1, v2, ev⟩ := i32_any (t (j + 2))
        have f1 : fX9_at (i32 (L : Int)) a (i32 (j : Int)) = some (i32 s) := by rw [x_at hL (by omega), ht j (by omega), es]
        have f2 : fX9_at (i32 (L : Int)) a (i32 ((j + 1 : Nat) : Int)) = some (i32 b) := by rw [x_at hL (by omega), ht (j + 1) (by omega), eb]
        have f3 : fX9_at (i32 (L : Int)) a (i32 ((j + 2 : Nat) : Int)) = some (i32 v) := by rw [x_at hL (by omega), ht (j + 2) (by omega), ev]
        rw [f1, f2, f3]
        simp only [Option.bind_some]
        rw [x_canJudge s1 s2 b1 b2 v1 v2, Option.bind_some]
        have g1 : ∀ {α : Type} (k : Option α), gd (i32 (j : Int)) 400 k = k := fun k => gd_ok (by omega) (by omega) (by omega)
        have g2 : ∀ {α : Type} (k : Option α), gd (i32 ((j + 1 : Nat) : Int)) 400 k = k := fun k => gd_ok (by omega) (by omega) (by omega)
        have g3 : ∀ {α : Type} (k : Option α), gd (i32 ((j + 2 : Nat) : Int)) 400 k = k := fun k => gd_ok (by omega) (by omega) (by omega)
        have t1 : (i32 (j : Int)).toNatClampNeg = j := by rw [i32_nat (by omega) (by omega), Int.toNat_natCast]
        have t2 : (i32 ((j + 1 : Nat) : Int)).toNatClampNeg = j + 1 := by rw [i32_nat (by omega) (by omega), Int.toNat_natCast]
        have t3 : (i32 ((j + 2 : Nat) : Int)).toNatClampNeg = j + 2 := by rw [i32_nat (by omega) (by omega), Int.toNat_natCast]
        simp only [g1, g2, g3, t1, t2, t3, es, eb, ev]
        rw [v_isCase s1 s2 b1 b2 v1 v2, Option.bind_some]
        by_cases cn : n < 20
        · have e20 : ¬ (20 : Int32) ≤ i32 (n : Int) := by rw [i32_litN 20, i32_le (by omega) (by omega) (by omega) (by omega)]; omega
          have l20 : i32 (n : Int) < 20 := by rw [i32_litN 20, i32_lt (by omega) (by omega) (by omega) (by omega)]; omega
          rw [if_neg e20, if_neg e20]
          by_cases cc : (0 ≤ s ∧ s ≤ 1) ∧ (0 ≤ b ∧ b ≤ 255) ∧ (0 ≤ v ∧ v.toNat &&& b.toNat = v.toNat)
          · have cz : ¬ bI ((0 ≤ s ∧ s ≤ 1) ∧ (0 ≤ b ∧ b ≤ 255) ∧ (0 ≤ v ∧ v.toNat &&& b.toNat = v.toNat)) = 0 := by rw [bI_0]; exact fun q => q cc
            obtain ⟨r, hr, hm⟩ := v_addCase hM en cn (s := s) (b := b) (v := v)
            have ok := ca_ok hW hX en cn cc.1 cc.2.1 cc.2.2
            rw [if_neg cz, if_neg cz, hr, Option.bind_some]
            unfold fX2_add
            rw [if_pos l20, gd_ok (by omega) (by omega) (by omega), gd_ok (by omega) (by omega) (by omega), gd_ok (by omega) (by omega) (by omega), i32_nat (by omega) (by omega), Int.toNat_natCast, Option.bind_some]
            obtain ⟨Rx, Rm, y', q1, q2, q3, q4, q5, q6, q7, q8, q9, q10⟩ := ih f g (j + 3) (c + 1) q (caY y n s b v) r (i32 ((n : Int) + 1)) (va_up rs n (i32 s)) (va_up ju n (i32 b)) (va_up vo n (i32 v)) (by omega) (by omega) (by omega) (by omega) (by omega) hm ok.1 ok.2
            refine ⟨Rx, Rm, y', ?_, q2, q3, q4, q5, q6, q7, q8, ?_, q10⟩
            · rw [← q1, show i32 (n : Int) + 1 = i32 ((n : Int) + 1) from i32_add _ 1]
            · refine ⟨q9.1.trans ((caY_k cn).1 2 (by omega) (by omega)), fun k hk => (q9.2 k hk).trans ((caY_k cn).1 k (by omega) (by omega))⟩
          · have cz : bI ((0 ≤ s ∧ s ≤ 1) ∧ (0 ≤ b ∧ b ≤ 255) ∧ (0 ≤ v ∧ v.toNat &&& b.toNat = v.toNat)) = 0 := by rw [bI_0]; exact cc
            rw [if_pos cz, if_pos cz]
            exact quash
        · have e20 : (20 : Int32) ≤ i32 (n : Int) := by rw [i32_litN 20, i32_le (by omega) (by omega) (by omega) (by omega)]; omega
          rw [if_pos e20, if_pos e20]
          have same : ∀ {α : Type} (p : Prop) [Decidable p] (A : α), (if p then A else A) = A := by
            intro α p _ A; by_cases h : p
            · rw [if_pos h]
            · rw [if_neg h]
          rw [same]
          exact quash
theorem q_row (hFu : 6000 ≤ Fu) {y : Nat → Int} {row : Nat → Int32} {cases len q qx : Int32} {rs ju vo : Nat → Int32} (hM : RM y row) (hW : WF y) (hX : RX y beasts meals seats laws inForce tr mh te cases rs ju vo) (hR : RR last a78 status refusals) (hT : Tp len a t taped) (hq : qx = q) :
    ∃ Rx Rm y', fX11_row Fu qx last cases rs ju vo len a known a78 = some Rx ∧ fX12_row Fu th status refusals row t taped q = some Rm ∧ Rx.1 = Rm.1 ∧ Rx.2.1 = Rm.2.2.2.2.2.2 ∧ RR Rx.2.2.1 Rx.2.2.2.2.2.2.2.2.2 Rm.2.2.1 Rm.2.2.2.1 ∧ RM y' Rm.2.2.2.2.1 ∧ WF y' ∧ RX y' beasts meals seats laws inForce tr mh te Rx.2.2.2.1 Rx.2.2.2.2.1 Rx.2.2.2.2.2.1 Rx.2.2.2.2.2.2.1 ∧ EqL y y' ∧ Tp Rx.2.2.2.2.2.2.2.1 a t Rm.2.2.2.2.2.1 ∧ (Rx.2.2.2.2.2.2.2.2.1 = 0 ∨ Rx.2.2.2.2.2.2.2.2.1 = known ∧ y' = y) := by
  subst hq
  obtain ⟨⟨L, hL, rfl, rfl⟩, ht⟩ := hT
  unfold fX11_row fX12_row
  by_cases c : L = 0
  · subst c
    rw [if_pos (show i32 ((0 : Nat) : Int) = 0 from rfl), if_pos (show i32 ((0 : Nat) : Int) = 0 from rfl), show (-6 : Int32) = i32 (-6) from rfl, x_refuse (by omega) (by omega), v_tell_neg (by omega) (by omega)]
    exact ⟨_, _, y, rfl, rfl, rfl, rfl, hR.ref _ _, hM, hW, hX, EqL.rfl, ⟨⟨0, by omega, rfl, rfl⟩, ht⟩, Or.inr ⟨rfl, rfl⟩⟩
  · have n0 : ¬ i32 (L : Int) = 0 := by rw [i32_litN 0, i32_eq (by omega) (by omega) (by omega) (by omega)]; omega
    obtain ⟨Rx, Rm, y', q1, q2, q3, q4, q5, q6, q7, q8, q9, q10, q11, q12⟩ := q_rowL (Fu := Fu) (known := known) (th := 0) (taped := 0) hL ht hR 134 Fu Fu 0 0 0 y row cases rs ju vo (by omega) (by omega) (by omega) (by omega) (by omega) hM hW hX
    rw [if_neg n0, if_neg n0]
    exact ⟨Rx, Rm, y', q1, q2, q3, q4, q5, q6, q7, q8, q9, ⟨⟨0, by omega, q10, q11⟩, ht⟩, Or.inl q12⟩
end ROW
