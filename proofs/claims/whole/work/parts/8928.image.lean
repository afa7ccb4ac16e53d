section IMAGE
def IMG (B : (Nat → Int) → (Nat → Option Nat) → Prop) (kp : Int32) (i : Nat) (images : Nat → Int32) (beasts : Int32) (meals : Int32) (seats : Int32) (laws : Int32) (inForce : Int32) (tr : Nat → Int32) (mh : Nat → Int32) (te : Nat → Int32) (a5 : Nat → Option Nat) (cases : Int32) (rs : Nat → Int32) (ju : Nat → Int32) (vo : Nat → Int32) : Prop := kp = 0 ∨ kp = 1 ∧ ∃ yi, WF yi ∧ RX yi beasts meals seats laws inForce tr mh te cases rs ju vo ∧ B yi a5 ∧ ∀ k, k < 5570 → images (5570 * i + k) = i32 (yi k)
variable {y : Nat → Int} {Fu : Nat} {row images kept a29 : Nat → Int32} {last status known th : Int32} {a78 refusals : Nat → Int32} {B : (Nat → Int) → (Nat → Option Nat) → Prop}
theorem RX.ext {beasts : Int32} {meals : Int32} {seats : Int32} {laws : Int32} {inForce : Int32} {tr : Nat → Int32} {mh : Nat → Int32} {te : Nat → Int32} {a5 : Nat → Option Nat} {cases : Int32} {rs : Nat → Int32} {ju : Nat → Int32} {vo : Nat → Int32} {tr' mh' te' rs' ju' vo' : Nat → Int32} (hW : WF y) (h : RX y beasts meals seats laws inForce tr mh te cases rs ju vo) (h1 : ∀ k, k < 48 → tr' k = tr k) (h2 : ∀ k, k < 8 → mh' k = mh k) (h3 : ∀ k, k < 6 → te' k = te k) (h4 : ∀ k, k < 20 → rs' k = rs k) (h5 : ∀ k, k < 20 → ju' k = ju k) (h6 : ∀ k, k < 20 → vo' k = vo k) : RX y beasts meals seats laws inForce tr' mh' te' cases rs' ju' vo' := by
  have w := hW.2.2.2.2.2.2.1
  obtain ⟨g1, g2, g3, g4, g5, g6, g7, g8, g9, g10⟩ := h
  refine ⟨g1, g2, g3, g4, g5, fun k hk => by rw [h1 k hk]; exact g6 k hk, fun k hk => by rw [h3 k hk]; exact g7 k hk, fun b hb => ?_, g9, fun k hk => ?_⟩
  · rw [h2 b hb]; exact g8 b hb
  · rw [h4 k (by omega), h5 k (by omega), h6 k (by omega)]; exact g10 k hk
theorem cpy0 {α : Type} {f g : Nat → α} {n : Nat} : ∀ k, k < n → va_cpy f g 0 0 n k = f k := by
  intro k hk
  unfold va_cpy
  rw [if_pos (by omega), show 0 + (k - 0) = k by omega]
theorem x_ybecL {beastsT : Int32} {mealsT : Int32} {seatsT : Int32} {lawsT : Int32} {inForceT : Int32} {trT : Nat → Int32} {mhT : Nat → Int32} {teT : Nat → Int32} {casesT : Int32} {rsT : Nat → Int32} {juT : Nat → Int32} {voT : Nat → Int32} {beastsU : Int32} {mealsU : Int32} {seatsU : Int32} {lawsU : Int32} {inForceU : Int32} {trU : Nat → Int32} {mhU : Nat → Int32} {teU : Nat → Int32} {a5U : Nat → Option Nat} {casesU : Int32} {rsU : Nat → Int32} {juU : Nat → Int32} {voU : Nat → Int32} (hW : WF y) (hX : RX y beastsU mealsU seatsU lawsU inForceU trU mhU teU casesU rsU juU voU) (h1 : ∀ k, k < 48 → trT k = trU k) (h2 : ∀ k, k < 8 → mhT k = mhU k) (h3 : ∀ k, k < 6 → teT k = teU k) : ∀ (d f j : Nat) (a5T : Nat → Option Nat), j + d = 6 → d < f → (∀ k, k < j → a5T k = a5U k) → Rt (fX10_become_L56 Fu f beastsT mealsT seatsT lawsT inForceT trT mhT teT a5T casesT rsT juT voT beastsU mealsU seatsU lawsU inForceU trU mhU teU a5U casesU rsU juU voU (i32 (j : Int))) (fun r => RX y r.1 r.2.1 r.2.2.1 r.2.2.2.1 r.2.2.2.2.1 r.2.2.2.2.2.1 r.2.2.2.2.2.2.1 r.2.2.2.2.2.2.2.1 r.2.2.2.2.2.2.2.2.2.1 r.2.2.2.2.2.2.2.2.2.2.1 r.2.2.2.2.2.2.2.2.2.2.2.1 r.2.2.2.2.2.2.2.2.2.2.2.2 ∧ ∀ k, k < 6 → r.2.2.2.2.2.2.2.2.1 k = a5U k) := by
  intro d
  induction d with
  | zero =>
    intro f j a5T hj hf ha
    obtain ⟨f, rfl⟩ : ∃ f', f = f' + 1 := ⟨f - 1, by omega⟩
    rw [fX10_become_L56]
    refine Rt.ift (by rw [i32_litN 6, i32_le (by omega) (by omega) (by omega) (by omega)]; omega) ?_
    unfold fX2_become
    exact Rt.eqb rfl (Rt.ret ⟨hX.ext (a5 := a5U) hW h1 h2 h3 cpy0 cpy0 cpy0, fun k hk => ha k (by omega)⟩)
  | succ d ih =>
    intro f j a5T hj hf ha
    obtain ⟨f, rfl⟩ : ∃ f', f = f' + 1 := ⟨f - 1, by omega⟩
    rw [fX10_become_L56]
    refine Rt.iff (by rw [i32_litN 6, i32_le (by omega) (by omega) (by omega) (by omega)]; omega) ?_
    rw [gd_ok (by omega) (by omega) (by omega), gd_ok (by omega) (by omega) (by omega), i32_nat (by omega) (by omega), Int.toNat_natCast, i32_p1]
    refine ih f (j + 1) _ (by omega) (by omega) (fun k hk => ?_)
    by_cases c : k = j
    · subst c; rw [va_up_at]
    · rw [va_up_ne _ _ c]; exact ha k (by omega)
theorem x_ybecome (hFu : 6000 ≤ Fu) {beastsT : Int32} {mealsT : Int32} {seatsT : Int32} {lawsT : Int32} {inForceT : Int32} {trT : Nat → Int32} {mhT : Nat → Int32} {teT : Nat → Int32} {a5T : Nat → Option Nat} {casesT : Int32} {rsT : Nat → Int32} {juT : Nat → Int32} {voT : Nat → Int32} {beastsU : Int32} {mealsU : Int32} {seatsU : Int32} {lawsU : Int32} {inForceU : Int32} {trU : Nat → Int32} {mhU : Nat → Int32} {teU : Nat → Int32} {a5U : Nat → Option Nat} {casesU : Int32} {rsU : Nat → Int32} {juU : Nat → Int32} {voU : Nat → Int32} (hW : WF y) (hX : RX y beastsU mealsU seatsU lawsU inForceU trU mhU teU casesU rsU juU voU) : Rt (fX10_become Fu beastsT mealsT seatsT lawsT inForceT trT mhT teT a5T casesT rsT juT voT beastsU mealsU seatsU lawsU inForceU trU mhU teU a5U casesU rsU juU voU) (fun r => RX y r.1 r.2.1 r.2.2.1 r.2.2.2.1 r.2.2.2.2.1 r.2.2.2.2.2.1 r.2.2.2.2.2.2.1 r.2.2.2.2.2.2.2.1 r.2.2.2.2.2.2.2.2.2.1 r.2.2.2.2.2.2.2.2.2.2.1 r.2.2.2.2.2.2.2.2.2.2.2.1 r.2.2.2.2.2.2.2.2.2.2.2.2 ∧ ∀ k, k < 6 → r.2.2.2.2.2.2.2.2.1 k = a5U k) := by
  unfold fX10_become
  exact x_ybecL hW hX cpy0 cpy0 cpy0 6 Fu 0 a5T (by omega) (by omega) (fun k hk => by omega)
theorem v_imgL {i : Nat} (hi : i < 2) : ∀ (d g j : Nat) (images : Nat → Int32), j + d = 5570 → d < g → Rt (fX12_image_L23 Fu g th status refusals row images kept (i32 (i : Int)) (i32 (j : Int))) (fun r => r.1 = 0 ∧ r.2.2.1 = 0 ∧ r.2.2.2.1 = refusals ∧ r.2.2.2.2.2 = va_up kept i 1 ∧ ∀ k, r.2.2.2.2.1 k = if 5570 * i + j ≤ k ∧ k < 5570 * i + 5570 then row (k - 5570 * i) else images k) := by
  intro d
  induction d with
  | zero =>
    intro g j images hj hg
    obtain ⟨g, rfl⟩ : ∃ f', g = f' + 1 := ⟨g - 1, by omega⟩
    rw [fX12_image_L23]
    refine Rt.ift (by rw [i32_litN 5570, i32_le (by omega) (by omega) (by omega) (by omega)]; omega) ?_
    rw [gd_ok (by omega) (by omega) (by omega), i32_nat (by omega) (by omega), Int.toNat_natCast]
    refine Rt.eqb (v_tell (z := 0) (by omega) (by omega)) (Rt.ret ⟨rfl, rfl, rfl, rfl, fun k => ?_⟩)
    rw [if_neg (by omega)]
  | succ d ih =>
    intro g j images hj hg
    obtain ⟨g, rfl⟩ : ∃ f', g = f' + 1 := ⟨g - 1, by omega⟩
    rw [fX12_image_L23]
    refine Rt.iff (by rw [i32_litN 5570, i32_le (by omega) (by omega) (by omega) (by omega)]; omega) ?_
    rw [show (5570 : Int32) * i32 (i : Int) + i32 (j : Int) = i32 ((5570 * i + j : Nat) : Int) by rw [i32_litN 5570, i32_mul, i32_add]; exact congrArg i32 (by omega)]
    rw [gd_ok (by omega) (by omega) (by omega), gd_ok (by omega) (by omega) (by omega), i32_nat (by omega) (by omega), i32_nat (by omega) (by omega), Int.toNat_natCast, Int.toNat_natCast, i32_p1]
    refine (ih g (j + 1) _ (by omega) (by omega)).mono (fun r hr => ⟨hr.1, hr.2.1, hr.2.2.1, hr.2.2.2.1, fun k => ?_⟩)
    rw [hr.2.2.2.2 k]
    by_cases c : k = 5570 * i + j
    · subst c; rw [if_neg (by omega), if_pos (by omega), va_up_at, show 5570 * i + j - 5570 * i = j by omega]
    · rw [va_up_ne _ _ c]
      by_cases e : 5570 * i + (j + 1) ≤ k ∧ k < 5570 * i + 5570
      · rw [if_pos e, if_pos (by omega)]
      · rw [if_neg e, if_neg (by omega)]
theorem v_bakL {i : Nat} (hi : i < 2) : ∀ (d g j : Nat) (row : Nat → Int32), j + d = 5570 → d < g → (∀ k, k < j → row k = images (5570 * i + k)) → Rt (fX12_back_L39 Fu g th status refusals row images kept (i32 (i : Int)) (i32 (j : Int))) (fun r => r.1 = 0 ∧ r.2.2.1 = 0 ∧ r.2.2.2.1 = refusals ∧ ∀ k, k < 5570 → r.2.2.2.2 k = images (5570 * i + k)) := by
  intro d
  induction d with
  | zero =>
    intro g j row hj hg hr
    obtain ⟨g, rfl⟩ : ∃ f', g = f' + 1 := ⟨g - 1, by omega⟩
    rw [fX12_back_L39]
    refine Rt.ift (by rw [i32_litN 5570, i32_le (by omega) (by omega) (by omega) (by omega)]; omega) ?_
    exact Rt.eqb (v_tell (z := 0) (by omega) (by omega)) (Rt.ret ⟨rfl, rfl, rfl, fun k hk => hr k (by omega)⟩)
  | succ d ih =>
    intro g j row hj hg hr
    obtain ⟨g, rfl⟩ : ∃ f', g = f' + 1 := ⟨g - 1, by omega⟩
    rw [fX12_back_L39]
    refine Rt.iff (by rw [i32_litN 5570, i32_le (by omega) (by omega) (by omega) (by omega)]; omega) ?_
    rw [show (5570 : Int32) * i32 (i : Int) + i32 (j : Int) = i32 ((5570 * i + j : Nat) : Int) by rw [i32_litN 5570, i32_mul, i32_add]; exact congrArg i32 (by omega)]
    rw [gd_ok (by omega) (by omega) (by omega), gd_ok (by omega) (by omega) (by omega), i32_nat (by omega) (by omega), i32_nat (by omega) (by omega), Int.toNat_natCast, Int.toNat_natCast, i32_p1]
    refine ih g (j + 1) _ (by omega) (by omega) (fun k hk => ?_)
    by_cases c : k = j
    · subst c; rw [va_up_at]
    · rw [va_up_ne _ _ c]; exact hr k (by omega)
theorem q_image (hFu : 6000 ≤ Fu) {beasts : Int32} {meals : Int32} {seats : Int32} {laws : Int32} {inForce : Int32} {tr : Nat → Int32} {mh : Nat → Int32} {te : Nat → Int32} {a5 : Nat → Option Nat} {cases : Int32} {rs : Nat → Int32} {ju : Nat → Int32} {vo : Nat → Int32} {beasts0 : Int32} {meals0 : Int32} {seats0 : Int32} {laws0 : Int32} {inForce0 : Int32} {tr0 : Nat → Int32} {mh0 : Nat → Int32} {te0 : Nat → Int32} {a50 : Nat → Option Nat} {cases0 : Int32} {rs0 : Nat → Int32} {ju0 : Nat → Int32} {vo0 : Nat → Int32} {beasts1 : Int32} {meals1 : Int32} {seats1 : Int32} {laws1 : Int32} {inForce1 : Int32} {tr1 : Nat → Int32} {mh1 : Nat → Int32} {te1 : Nat → Int32} {a51 : Nat → Option Nat} {cases1 : Int32} {rs1 : Nat → Int32} {ju1 : Nat → Int32} {vo1 : Nat → Int32} (hM : RM y row) (hW : WF y) (hX : RX y beasts meals seats laws inForce tr mh te cases rs ju vo) (hB : B y a5) (hE : ∀ y a a', B y a → (∀ k, k < 6 → a' k = a k) → B y a') (hR : RR last a78 status refusals) (hK : ∀ i, i < 2 → a29 i = kept i) (h0 : IMG B (a29 0) 0 images beasts0 meals0 seats0 laws0 inForce0 tr0 mh0 te0 a50 cases0 rs0 ju0 vo0) (h1 : IMG B (a29 1) 1 images beasts1 meals1 seats1 laws1 inForce1 tr1 mh1 te1 a51 cases1 rs1 ju1 vo1) (x1 : Int32) :
    ∃ Rx Rm, fX11_image Fu last beasts meals seats laws inForce tr mh te a5 cases rs ju vo beasts0 meals0 seats0 laws0 inForce0 tr0 mh0 te0 a50 cases0 rs0 ju0 vo0 beasts1 meals1 seats1 laws1 inForce1 tr1 mh1 te1 a51 cases1 rs1 ju1 vo1 a29 known a78 x1 = some Rx ∧ fX12_image Fu th status refusals row images kept x1 = some Rm ∧ Rx.1 = Rm.1 ∧ RR Rx.2.1 Rx.2.2.2.2.2.2.2.2.2.2.2.2.2.2.2.2.2.2.2.2.2.2.2.2.2.2.2.2.2.2 Rm.2.2.1 Rm.2.2.2.1 ∧ (∀ i, i < 2 → Rx.2.2.2.2.2.2.2.2.2.2.2.2.2.2.2.2.2.2.2.2.2.2.2.2.2.2.2.2.1 i = Rm.2.2.2.2.2 i) ∧ IMG B (Rx.2.2.2.2.2.2.2.2.2.2.2.2.2.2.2.2.2.2.2.2.2.2.2.2.2.2.2.2.1 0) 0 Rm.2.2.2.2.1 Rx.2.2.1 Rx.2.2.2.1 Rx.2.2.2.2.1 Rx.2.2.2.2.2.1 Rx.2.2.2.2.2.2.1 Rx.2.2.2.2.2.2.2.1 Rx.2.2.2.2.2.2.2.2.1 Rx.2.2.2.2.2.2.2.2.2.1 Rx.2.2.2.2.2.2.2.2.2.2.1 Rx.2.2.2.2.2.2.2.2.2.2.2.1 Rx.2.2.2.2.2.2.2.2.2.2.2.2.1 Rx.2.2.2.2.2.2.2.2.2.2.2.2.2.1 Rx.2.2.2.2.2.2.2.2.2.2.2.2.2.2.1 ∧ IMG B (Rx.2.2.2.2.2.2.2.2.2.2.2.2.2.2.2.2.2.2.2.2.2.2.2.2.2.2.2.2.1 1) 1 Rm.2.2.2.2.1 Rx.2.2.2.2.2.2.2.2.2.2.2.2.2.2.2.1 Rx.2.2.2.2.2.2.2.2.2.2.2.2.2.2.2.2.1 Rx.2.2.2.2.2.2.2.2.2.2.2.2.2.2.2.2.2.1 Rx.2.2.2.2.2.2.2.2.2.2.2.2.2.2.2.2.2.2.1 Rx.2.2.2.2.2.2.2.2.2.2.2.2.2.2.2.2.2.2.2.1 Rx.2.2.2.2.2.2.2.2.2.2.2.2.2.2.2.2.2.2.2.2.1 Rx.2.2.2.2.2.2.2.2.2.2.2.2.2.2.2.2.2.2.2.2.2.1 Rx.2.2.2.2.2.2.2.2.2.2.2.2.2.2.2.2.2.2.2.2.2.2.1 Rx.2.2.2.2.2.2.2.2.2.2.2.2.2.2.2.2.2.2.2.2.2.2.2.1 Rx.2.2.2.2.2.2.2.2.2.2.2.2.2.2.2.2.2.2.2.2.2.2.2.2.1 Rx.2.2.2.2.2.2.2.2.2.2.2.2.2.2.2.2.2.2.2.2.2.2.2.2.2.1 Rx.2.2.2.2.2.2.2.2.2.2.2.2.2.2.2.2.2.2.2.2.2.2.2.2.2.2.1 Rx.2.2.2.2.2.2.2.2.2.2.2.2.2.2.2.2.2.2.2.2.2.2.2.2.2.2.2.1 ∧ (Rx.2.2.2.2.2.2.2.2.2.2.2.2.2.2.2.2.2.2.2.2.2.2.2.2.2.2.2.2.2.1 = 0 ∨ Rx.2.2.2.2.2.2.2.2.2.2.2.2.2.2.2.2.2.2.2.2.2.2.2.2.2.2.2.2.2.1 = known) := by
  obtain ⟨z, z1, z2, rfl⟩ := i32_any x1
  unfold fX11_image fX12_image
  rw [x_isEither z z1 z2, i32_64 z1 z2, show (0 : Int64) = i64 0 from rfl, show (1 : Int64) = i64 1 from rfl, v_in (by omega) (by omega) (by omega) (by omega) (by omega) (by omega), Option.bind_some, Option.bind_some]
  by_cases c : 0 ≤ z ∧ z ≤ 1
  case neg =>
    have cz : bI (0 ≤ z ∧ z ≤ 1) = 0 := by rw [bI_0]; exact c
    rw [if_pos cz, if_pos cz, show (-1 : Int32) = i32 (-1) from rfl, x_refuse (by omega) (by omega), v_tell_neg (by omega) (by omega)]
    exact ⟨_, _, rfl, rfl, rfl, hR.ref _ _, hK, h0, h1, Or.inr rfl⟩
  have cz : ¬ bI (0 ≤ z ∧ z ≤ 1) = 0 := by rw [bI_0]; exact fun q => q c
  rw [if_neg cz, if_neg cz]
  have k1 : ∀ (i j : Nat), (va_up a29 i 1 : Nat → Int32) j = va_up kept i 1 j ∨ 2 ≤ j := by
    intro i j
    by_cases h : j < 2
    · left
      unfold va_up
      by_cases e : j = i
      · rw [if_pos e, if_pos e]
      · rw [if_neg e, if_neg e]; exact hK j h
    · right; omega
  by_cases c0 : z = 0
  · subst c0
    obtain ⟨r, r1, r2, r3⟩ := x_ybecome (Fu := Fu) (beastsT := beasts0) (mealsT := meals0) (seatsT := seats0) (lawsT := laws0) (inForceT := inForce0) (trT := tr0) (mhT := mh0) (teT := te0) (a5T := a50) (casesT := cases0) (rsT := rs0) (juT := ju0) (voT := vo0) hFu hW hX
    obtain ⟨Rm, m1, m2, m3, m4, m5, m6⟩ := v_imgL (Fu := Fu) (th := 0) (status := status) (refusals := refusals) (row := row) (kept := kept) (i := 0) (by omega) 5570 Fu 0 images (by omega) (by omega)
    have m1' : fX12_image_L23 Fu Fu 0 status refusals row images kept (i32 0) 0 = some Rm := m1
    rw [if_pos (show i32 0 = 0 from rfl), r1, m1', Option.bind_some, gd_ok (by omega) (by omega) (by omega), x_accept, Option.bind_some, i32_nat (by omega) (by omega)]
    refine ⟨_, Rm, rfl, rfl, m2.symm, ?_, fun j hj => ?_, Or.inr ⟨rfl, y, hW, r2, hE _ _ _ hB r3, fun k hk => ?_⟩, ?_, Or.inl rfl⟩
    · show RR 0 a78 Rm.2.2.1 Rm.2.2.2.1
      rw [m3, m4]; exact hR.acc
    · rw [m5]
      rcases k1 0 j with h | h
      · exact h
      · omega
    · rw [m6, if_pos (by omega), show 5570 * 0 + k - 5570 * 0 = k by omega]; exact hM k hk
    · show IMG B (va_up a29 0 1 1) 1 Rm.2.2.2.2.1 _ _ _ _ _ _ _ _ _ _ _ _ _
      rw [va_up_ne _ _ (by omega)]
      rcases h1 with h | ⟨h, yi, q1, q2, q3, q4⟩
      · exact Or.inl h
      · refine Or.inr ⟨h, yi, q1, q2, q3, fun k hk => ?_⟩
        rw [m6, if_neg (by omega)]; exact q4 k hk
  · obtain rfl : z = 1 := by omega
    obtain ⟨r, r1, r2, r3⟩ := x_ybecome (Fu := Fu) (beastsT := beasts1) (mealsT := meals1) (seatsT := seats1) (lawsT := laws1) (inForceT := inForce1) (trT := tr1) (mhT := mh1) (teT := te1) (a5T := a51) (casesT := cases1) (rsT := rs1) (juT := ju1) (voT := vo1) hFu hW hX
    obtain ⟨Rm, m1, m2, m3, m4, m5, m6⟩ := v_imgL (Fu := Fu) (th := 0) (status := status) (refusals := refusals) (row := row) (kept := kept) (i := 1) (by omega) 5570 Fu 0 images (by omega) (by omega)
    have m1' : fX12_image_L23 Fu Fu 0 status refusals row images kept (i32 1) 0 = some Rm := m1
    rw [if_neg (show ¬ i32 1 = 0 by decide), if_pos (show i32 1 = 1 from rfl), r1, m1', Option.bind_some, gd_ok (by omega) (by omega) (by omega), x_accept, Option.bind_some, i32_nat (by omega) (by omega)]
    refine ⟨_, Rm, rfl, rfl, m2.symm, ?_, fun j hj => ?_, ?_, Or.inr ⟨rfl, y, hW, r2, hE _ _ _ hB r3, fun k hk => ?_⟩, Or.inl rfl⟩
    · show RR 0 a78 Rm.2.2.1 Rm.2.2.2.1
      rw [m3, m4]; exact hR.acc
    · rw [m5]
      rcases k1 1 j with h | h
      · exact h
      · omega
    · show IMG B (va_up a29 1 1 0) 0 Rm.2.2.2.2.1 _ _ _ _ _ _ _ _ _ _ _ _ _
      rw [va_up_ne _ _ (by omega)]
      rcases h0 with h | ⟨h, yi, q1, q2, q3, q4⟩
      · exact Or.inl h
      · refine Or.inr ⟨h, yi, q1, q2, q3, fun k hk => ?_⟩
        rw [m6, if_neg (by omega)]; exact q4 k hk
    · rw [m6, if_pos (by omega), show 5570 * 1 + k - 5570 * 1 = k by omega]; exact hM k hk
theorem q_back (hFu : 6000 ≤ Fu) {beasts : Int32} {meals : Int32} {seats : Int32} {laws : Int32} {inForce : Int32} {tr : Nat → Int32} {mh : Nat → Int32} {te : Nat → Int32} {a5 : Nat → Option Nat} {cases : Int32} {rs : Nat → Int32} {ju : Nat → Int32} {vo : Nat → Int32} {beasts0 : Int32} {meals0 : Int32} {seats0 : Int32} {laws0 : Int32} {inForce0 : Int32} {tr0 : Nat → Int32} {mh0 : Nat → Int32} {te0 : Nat → Int32} {a50 : Nat → Option Nat} {cases0 : Int32} {rs0 : Nat → Int32} {ju0 : Nat → Int32} {vo0 : Nat → Int32} {beasts1 : Int32} {meals1 : Int32} {seats1 : Int32} {laws1 : Int32} {inForce1 : Int32} {tr1 : Nat → Int32} {mh1 : Nat → Int32} {te1 : Nat → Int32} {a51 : Nat → Option Nat} {cases1 : Int32} {rs1 : Nat → Int32} {ju1 : Nat → Int32} {vo1 : Nat → Int32} (hM : RM y row) (hW : WF y) (hX : RX y beasts meals seats laws inForce tr mh te cases rs ju vo) (hB : B y a5) (hE : ∀ y a a', B y a → (∀ k, k < 6 → a' k = a k) → B y a') (hR : RR last a78 status refusals) (hK : ∀ i, i < 2 → a29 i = kept i) (h0 : IMG B (a29 0) 0 images beasts0 meals0 seats0 laws0 inForce0 tr0 mh0 te0 a50 cases0 rs0 ju0 vo0) (h1 : IMG B (a29 1) 1 images beasts1 meals1 seats1 laws1 inForce1 tr1 mh1 te1 a51 cases1 rs1 ju1 vo1) (x1 : Int32) :
    ∃ Rx Rm y', fX11_back Fu last beasts meals seats laws inForce tr mh te a5 cases rs ju vo beasts0 meals0 seats0 laws0 inForce0 tr0 mh0 te0 a50 cases0 rs0 ju0 vo0 beasts1 meals1 seats1 laws1 inForce1 tr1 mh1 te1 a51 cases1 rs1 ju1 vo1 a29 known a78 x1 = some Rx ∧ fX12_back Fu th status refusals row images kept x1 = some Rm ∧ Rx.1 = Rm.1 ∧ RR Rx.2.1 Rx.2.2.2.2.2.2.2.2.2.2.2.2.2.2.2.2 Rm.2.2.1 Rm.2.2.2.1 ∧ RM y' Rm.2.2.2.2 ∧ WF y' ∧ RX y' Rx.2.2.1 Rx.2.2.2.1 Rx.2.2.2.2.1 Rx.2.2.2.2.2.1 Rx.2.2.2.2.2.2.1 Rx.2.2.2.2.2.2.2.1 Rx.2.2.2.2.2.2.2.2.1 Rx.2.2.2.2.2.2.2.2.2.1 Rx.2.2.2.2.2.2.2.2.2.2.2.1 Rx.2.2.2.2.2.2.2.2.2.2.2.2.1 Rx.2.2.2.2.2.2.2.2.2.2.2.2.2.1 Rx.2.2.2.2.2.2.2.2.2.2.2.2.2.2.1 ∧ B y' Rx.2.2.2.2.2.2.2.2.2.2.1 ∧ (Rx.2.2.2.2.2.2.2.2.2.2.2.2.2.2.2.1 = 0 ∨ Rx.2.2.2.2.2.2.2.2.2.2.2.2.2.2.2.1 = known ∧ y' = y ∧ Rx.2.2.2.2.2.2.2.2.2.2.1 = a5) := by
  obtain ⟨z, z1, z2, rfl⟩ := i32_any x1
  unfold fX11_back fX12_back
  rw [x_isEither z z1 z2, i32_64 z1 z2, show (0 : Int64) = i64 0 from rfl, show (1 : Int64) = i64 1 from rfl, v_in (by omega) (by omega) (by omega) (by omega) (by omega) (by omega), Option.bind_some, Option.bind_some]
  by_cases c : 0 ≤ z ∧ z ≤ 1
  case neg =>
    have cz : bI (0 ≤ z ∧ z ≤ 1) = 0 := by rw [bI_0]; exact c
    rw [if_pos cz, if_pos cz, show (-1 : Int32) = i32 (-1) from rfl, x_refuse (by omega) (by omega), v_tell_neg (by omega) (by omega)]
    exact ⟨_, _, y, rfl, rfl, rfl, hR.ref _ _, hM, hW, hX, hB, Or.inr ⟨rfl, rfl, rfl⟩⟩
  have cz : ¬ bI (0 ≤ z ∧ z ≤ 1) = 0 := by rw [bI_0]; exact fun q => q c
  rw [if_neg cz, if_neg cz, gd_ok (by omega) (by omega) (by omega), gd_ok (by omega) (by omega) (by omega), i32_nat (by omega) (by omega), ← hK z.toNat (by omega)]
  by_cases ck : a29 z.toNat = 0
  case pos =>
    rw [if_pos ck, if_pos ck, show (-2 : Int32) = i32 (-2) from rfl, x_refuse (by omega) (by omega), v_tell_neg (by omega) (by omega)]
    exact ⟨_, _, y, rfl, rfl, rfl, hR.ref _ _, hM, hW, hX, hB, Or.inr ⟨rfl, rfl, rfl⟩⟩
  rw [if_neg ck, if_neg ck]
  by_cases c0 : z = 0
  · subst c0
    rcases h0 with h | ⟨h, yi, q1, q2, q3, q4⟩
    · exact absurd h ck
    obtain ⟨r, r1, r2, r3⟩ := x_ybecome (Fu := Fu) (beastsT := beasts) (mealsT := meals) (seatsT := seats) (lawsT := laws) (inForceT := inForce) (trT := tr) (mhT := mh) (teT := te) (a5T := a5) (casesT := cases) (rsT := rs) (juT := ju) (voT := vo) hFu q1 q2
    obtain ⟨Rm, m1, m2, m3, m4, m5⟩ := v_bakL (Fu := Fu) (th := 0) (status := status) (refusals := refusals) (images := images) (kept := kept) (i := 0) (by omega) 5570 Fu 0 row (by omega) (by omega) (fun k hk => by omega)
    have m1' : fX12_back_L39 Fu Fu 0 status refusals row images kept (i32 0) 0 = some Rm := m1
    rw [if_pos (show i32 0 = 0 from rfl), r1, m1', Option.bind_some, x_accept, Option.bind_some]
    refine ⟨_, Rm, yi, rfl, rfl, m2.symm, ?_, fun k hk => by rw [m5 k hk]; exact q4 k hk, q1, r2, hE _ _ _ q3 r3, Or.inl rfl⟩
    show RR 0 a78 Rm.2.2.1 Rm.2.2.2.1
    rw [m3, m4]; exact hR.acc
  · obtain rfl : z = 1 := by omega
    rcases h1 with h | ⟨h, yi, q1, q2, q3, q4⟩
    · exact absurd h ck
    obtain ⟨r, r1, r2, r3⟩ := x_ybecome (Fu := Fu) (beastsT := beasts) (mealsT := meals) (seatsT := seats) (lawsT := laws) (inForceT := inForce) (trT := tr) (mhT := mh) (teT := te) (a5T := a5) (casesT := cases) (rsT := rs) (juT := ju) (voT := vo) hFu q1 q2
    obtain ⟨Rm, m1, m2, m3, m4, m5⟩ := v_bakL (Fu := Fu) (th := 0) (status := status) (refusals := refusals) (images := images) (kept := kept) (i := 1) (by omega) 5570 Fu 0 row (by omega) (by omega) (fun k hk => by omega)
    have m1' : fX12_back_L39 Fu Fu 0 status refusals row images kept (i32 1) 0 = some Rm := m1
    rw [if_neg (show ¬ i32 1 = 0 by decide), if_pos (show i32 1 = 1 from rfl), r1, m1', Option.bind_some, x_accept, Option.bind_some]
    refine ⟨_, Rm, yi, rfl, rfl, m2.symm, ?_, fun k hk => by rw [m5 k hk]; exact q4 k hk, q1, r2, hE _ _ _ q3 r3, Or.inl rfl⟩
    show RR 0 a78 Rm.2.2.1 Rm.2.2.2.1
    rw [m3, m4]; exact hR.acc
end IMAGE
