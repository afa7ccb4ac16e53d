section ODDS2
variable {y : Nat → Int} {row : Nat → Int32} {beasts meals seats laws inForce cases : Int32} {tr mh te rs ju vo : Nat → Int32}
/-! chance and price -/
def chanceS (y : Nat → Int) (LO : Option LwS) (b h f : Int) : Int := if (0 ≤ b ∧ b < y 0) ∧ (0 ≤ h ∧ h ≤ 23) ∧ (0 ≤ f ∧ f ≤ 3) then chn y LO b.toNat h f 0 else -1
def priceS (y : Nat → Int) (LO : Option LwS) (b s : Int) : Int := if (0 ≤ b ∧ b < y 0) ∧ (0 ≤ s ∧ s ≤ 1) then prc y LO b.toNat s else -1
theorem m_chance {Fu : Nat} (hFu : 6000 ≤ Fu) {LO : Option LwS} (hM : RM y row) (hW : WF y) (hO : MO y LO) {th lw : Int32} {set rs : Nat → Int64} {br : Int32} {val sum : Int64} {b h f : Int} (b1 : -2147483648 ≤ b) (b2 : b ≤ 2147483647) (h1 : -2147483648 ≤ h) (h2 : h ≤ 2147483647) (f1 : -2147483648 ≤ f) (f2 : f ≤ 2147483647) :
    Rt (fX12_chance Fu th row lw set rs br val sum (i32 b) (i32 h) (i32 f)) (fun r => r.1 = i32 (chanceS y LO b h f)) := by
  have hB := hW.1
  unfold fX12_chance fX12_chance_L43 chanceS
  rw [v_isBeast (hM 0 (by omega)) hB.1 hB.2 b b1 b2, v_isHour h h1 h2]
  simp (disch := omega) only [i32_64, i64_lit, v_in]
  refine Rt.eqb rfl ?_
  by_cases cb : 0 ≤ b ∧ b < y 0
  · refine Rt.iff (by rw [bI_0]; exact fun q => q cb) (Rt.eqb rfl ?_)
    by_cases ch : 0 ≤ h ∧ h ≤ 23
    · refine Rt.iff (by rw [bI_0]; exact fun q => q ch) (Rt.eqb rfl ?_)
      by_cases cf : 0 ≤ f ∧ f ≤ 3
      · refine Rt.iff (by rw [bI_0]; exact fun q => q cf) ?_
        rw [if_pos ⟨cb, ch, cf⟩]
        obtain ⟨b, rfl⟩ := Int.eq_ofNat_of_zero_le cb.1
        obtain ⟨h, rfl⟩ := Int.eq_ofNat_of_zero_le ch.1
        refine Rt.bind (v_chanceOf (min := 0) hFu hM hW hO (show b < 8 by omega) (show h < 24 by omega) (by omega) (by omega) (by omega) (by omega)) (fun r hr => Rt.ret hr)
      · refine Rt.ift (by rw [bI_0]; exact cf) ?_
        rw [if_neg (fun q => cf q.2.2)]; exact Rt.ret rfl
    · refine Rt.ift (by rw [bI_0]; exact ch) ?_
      rw [if_neg (fun q => ch q.2.1)]; exact Rt.ret rfl
  · refine Rt.ift (by rw [bI_0]; exact cb) ?_
    rw [if_neg (fun q => cb q.1)]; exact Rt.ret rfl
theorem m_price {Fu : Nat} (hFu : 6000 ≤ Fu) {LO : Option LwS} (hM : RM y row) (hW : WF y) (hO : MO y LO) {th lw : Int32} {set rs : Nat → Int64} {br : Int32} {val sum : Int64} {b s : Int} (b1 : -2147483648 ≤ b) (b2 : b ≤ 2147483647) (h1 : -2147483648 ≤ s) (h2 : s ≤ 2147483647) :
    Rt (fX12_price Fu th row lw set rs br val sum (i32 b) (i32 s)) (fun r => r.1 = i32 (priceS y LO b s)) := by
  have hB := hW.1
  unfold fX12_price fX12_price_L29 priceS
  rw [v_isBeast (hM 0 (by omega)) hB.1 hB.2 b b1 b2, v_isSide s h1 h2]
  refine Rt.eqb rfl ?_
  by_cases cb : 0 ≤ b ∧ b < y 0
  · refine Rt.iff (by rw [bI_0]; exact fun q => q cb) (Rt.eqb rfl ?_)
    by_cases ch : 0 ≤ s ∧ s ≤ 1
    · refine Rt.iff (by rw [bI_0]; exact fun q => q ch) ?_
      rw [if_pos ⟨cb, ch⟩]
      obtain ⟨b, rfl⟩ := Int.eq_ofNat_of_zero_le cb.1
      refine Rt.bind (v_priceOf hFu hM hW hO (show b < 8 by omega) (by omega) (by omega)) (fun r hr => Rt.ret hr)
    · refine Rt.ift (by rw [bI_0]; exact ch) ?_
      rw [if_neg (fun q => ch q.2)]; exact Rt.ret rfl
  · refine Rt.ift (by rw [bI_0]; exact cb) ?_
    rw [if_neg (fun q => cb q.1)]; exact Rt.ret rfl
/-! whose vote turns it -/
def tl1 (y : Nat → Int) (LO : Option LwS) (w : Int) : List Int := cl (fun j => (y 4).toNat.testBit j && decide ((j : Int) ≠ w)) (fun j => chn y LO j (((y 6).toNat : Nat) : Int) (y (17 + 6 * j)) 0) 8
def tipsS (y : Nat → Int) (LO : Option LwS) (b : Int) : Int := if (0 ≤ b ∧ b < y 0) ∧ (y 4).toNat.testBit b.toNat = true then vt (tl1 y LO b) ((y 5).toNat - 1) else -1
theorem m_tips {Fu : Nat} (hFu : 6000 ≤ Fu) {LO : Option LwS} (hM : RM y row) (hW : WF y) (hO : MO y LO) {th lw : Int32} {set rs : Nat → Int64} {br : Int32} {val sum : Int64} {ch : Nat → Int32} {vs : Nat → Int64} {b : Int} (b1 : -2147483648 ≤ b) (b2 : b ≤ 2147483647) :
    Rt (fX12_tips Fu th row lw set rs br val sum ch vs (i32 b)) (fun r => r.1 = i64 (tipsS y LO b)) := by
  obtain ⟨s, n, e4, e0, hn, hs1, hs, hb⟩ := hW.seats
  have h5 := hW.quota
  have h6 := hW.hour
  unfold fX12_tips tipsS
  rw [show row (4 : Int32).toNatClampNeg = i32 (y 4) from hM 4 (by omega), e4, e0, v_quota hM]
  simp (disch := omega) only [i32_64, i64_lit, v_in]
  refine Rt.eqb rfl ?_
  by_cases c : 0 ≤ b ∧ b ≤ 7
  · refine Rt.iff (by rw [bI_0]; exact fun q => q c) ?_
    obtain ⟨b, rfl⟩ := Int.eq_ofNat_of_zero_le c.1
    rw [gd9 (by decide) (by decide), v_is (by omega) (by omega), Int.toNat_natCast, Int.toNat_natCast]
    refine Rt.eqb rfl ?_
    by_cases c2 : s.testBit b = true
    · refine Rt.iff (by rw [bI_0]; exact fun q => q c2) ?_
      have hbn : b < n := by
        apply Nat.lt_of_not_le
        intro q
        rw [hb b q] at c2; cases c2
      rw [if_pos ⟨by omega, c2⟩]
      refine Rt.bind (v_layNow hFu hM hW hO) (fun r hr => ?_)
      have es : i32 (s : Int) &&& ((1 : Int32) <<< (i32 (b : Int) &&& 31) ^^^ (-1 : Int32)) = i32 ((ndiff s (1 * 2 ^ b) : Nat) : Int) := by
        have hp : 2 ^ b ≤ 2 ^ 7 := Nat.pow_le_pow_right (by omega) (by omega)
        have e1 : (1 : Int32) <<< (i32 (b : Int) &&& 31) = i32 ((1 * 2 ^ b : Nat) : Int) := by rw [i32_31 (by omega), i32_litN 1, i32_shl (by omega)]
        rw [e1, i32_diff (by omega) (by omega)]
      have es2 : (ndiff s (1 * 2 ^ b)) < 256 := Nat.lt_of_le_of_lt (ndiff_le _ _) hs
      have et : ∀ j, (ndiff s (1 * 2 ^ b)).testBit j = (s.testBit j && decide ((j : Int) ≠ (b : Int))) := by
        intro j
        rw [ndiff_bit, Nat.one_mul, Nat.testBit_two_pow]
        by_cases cj : b = j
        · subst cj; simp
        · have : ¬ (j : Int) = (b : Int) := by omega
          simp [cj, this]
      rw [gd9 (by decide) (by decide), es]
      refine Rt.bind (v_countVotes (z := 0) (o := 0) (p := fun b f => chn y LO b (((y 6).toNat : Nat) : Int) (f : Int) 0) hFu hM hW es2 (by decide) (by decide) (fun b f => chn_rng) (fun j f j1 j2 j3 => hr j f ?_ j3)) (fun r2 hr2 => ?_)
      · rw [et] at j2
        simp at j2
        have : ¬ n ≤ j := fun hnb => by rw [hb j hnb] at j2; cases j2.1
        omega
      · refine Rt.eqb rfl ?_
        rw [show i32 (y 5) - 1 = i32 (((y 5).toNat - 1 : Nat) : Int) by rw [i32_litN 1, i32_sub]; congr 1; omega]
        rw [gd_ok (by omega) (by omega) (by omega), i32_nat (by omega) (by omega), Int.toNat_natCast]
        refine Rt.ret ?_
        have el : tl1 y LO (b : Int) = cl (ndiff s (1 * 2 ^ b)).testBit (fun j => chn y LO j (((y 6).toNat : Nat) : Int) ((fv y 0 0 j : Nat) : Int) 0) 8 := by
          unfold tl1
          rw [e4, Int.toNat_natCast]
          refine cl_ext 8 (fun j _ => (et j).symm) (fun j j8 _ => ?_)
          rw [fv_00 hW j8]
        show r2 _ = _
        rw [el]
        exact hr2 _ (by omega)
    · refine Rt.ift (by rw [bI_0]; exact c2) ?_
      rw [if_neg (fun q => c2 q.2)]; exact Rt.ret rfl
  · refine Rt.ift (by rw [bI_0]; exact c) ?_
    rw [if_neg (fun q => c ⟨q.1.1, by omega⟩)]; exact Rt.ret rfl
/-! the fairest hour -/
def frS (g : Nat → Int) : Nat → Nat
  | 0 => 0
  | n + 1 => if g n < g (frS g n) then n else frS g n
def ab (v : Int) : Int := if 0 ≤ v then v else -v
def farS (y : Nat → Int) (LO : Option LwS) (h : Nat) : Int := ab (2 * al (bl y LO h) (y 5).toNat - 100 ^ bcn (y 4).toNat 8)
theorem far_rng {LO : Option LwS} {h : Nat} : 0 ≤ farS y LO h ∧ farS y LO h ≤ 40000000000000000 := by
  have a := al_le (q := (y 5).toNat) (bl_fact (y := y) (LO := LO) (h := h)).1 (bl_fact (y := y) (LO := LO) (h := h)).2
  have p1 := pow100 (n := (bl y LO h).length) (bl_fact (y := y) (LO := LO) (h := h)).2
  have p2 := pow100 (n := bcn (y 4).toNat 8) (bcn_le _ 8)
  unfold farS ab
  split <;> omega
theorem m_fairL {Fu : Nat} (hFu : 6000 ≤ Fu) {LO : Option LwS} (hM : RM y row) (hW : WF y) (hO : MO y LO) {th : Int32} :
    ∀ (d f h : Nat) (lw : Int32) (set rs : Nat → Int64) (br : Int32) (val sum : Int64) (ch : Nat → Int32) (vs : Nat → Int64), h + d = 24 → d < f → Rt (fX12_fairest_L28 Fu f th row lw set rs br val sum ch vs (i64 (100 ^ bcn (y 4).toNat 8)) (i32 ((frS (farS y LO) h : Nat) : Int)) (i64 (if h = 0 then -1 else farS y LO (frS (farS y LO) h))) (i32 (h : Int))) (fun r => r.1 = i32 ((frS (farS y LO) 24 : Nat) : Int)) := by
  have h5 := hW.quota
  intro d
  induction d with
  | zero =>
    intro f h lw set rs br val sum ch vs hh hf
    obtain ⟨f, rfl⟩ : ∃ f', f = f' + 1 := ⟨f - 1, by omega⟩
    obtain rfl : h = 24 := by omega
    rw [fX12_fairest_L28, if_pos (by decide)]
    exact Rt.ret rfl
  | succ d ih =>
    intro f h lw set rs br val sum ch vs hh hf
    obtain ⟨f, rfl⟩ : ∃ f', f = f' + 1 := ⟨f - 1, by omega⟩
    rw [fX12_fairest_L28, if_neg (by rw [i32_litN 24, i32_le (by omega) (by omega) (by omega) (by omega)]; omega)]
    refine Rt.bind (v_layChances hFu hM hW hO (show h < 24 by omega)) (fun r hr => ?_)
    rw [gd9 (by decide) (by decide), v_quota hM, i32_nn9 (by decide), hM 4 (by omega), show y 5 = (((y 5).toNat : Nat) : Int) by omega]
    refine Rt.eqb rfl ?_
    refine Rt.bind (v_wins0 hFu hM hW hr (by omega)) (fun r2 hr2 => ?_)
    have a := al_le (q := (y 5).toNat) (bl_fact (y := y) (LO := LO) (h := h)).1 (bl_fact (y := y) (LO := LO) (h := h)).2
    have p1 := pow100 (n := (bl y LO h).length) (bl_fact (y := y) (LO := LO) (h := h)).2
    have p2 := pow100 (n := bcn (y 4).toNat 8) (bcn_le _ 8)
    have fr := far_rng (y := y) (LO := LO) (h := h)
    have fr2 := far_rng (y := y) (LO := LO) (h := frS (farS y LO) h)
    rw [hr2.1]
    have key : ∀ v : Int, v = farS y LO h → Rt (fX12_fairest_L80 Fu (fX12_fairest_L28 Fu f) th row r.1 r.2.1 r.2.2.1 r.2.2.2.1 r.2.2.2.2.1 r.2.2.2.2.2.1 r.2.2.2.2.2.2 r2.2 (i64 (100 ^ bcn (y 4).toNat 8)) (i32 ((frS (farS y LO) h : Nat) : Int)) (i64 (if h = 0 then -1 else farS y LO (frS (farS y LO) h))) (i32 (h : Int)) (i64 v)) (fun r => r.1 = i32 ((frS (farS y LO) 24 : Nat) : Int)) := by
      intro v hv
      subst hv
      unfold fX12_fairest_L80 fX12_fairest_L103
      rw [i32_p1]
      have es : frS (farS y LO) (h + 1) = if farS y LO h < farS y LO (frS (farS y LO) h) then h else frS (farS y LO) h := rfl
      have go := ih f (h + 1) r.1 r.2.1 r.2.2.1 r.2.2.2.1 r.2.2.2.2.1 r.2.2.2.2.2.1 r.2.2.2.2.2.2 r2.2 (by omega) (by omega)
      rw [if_neg (show ¬ h + 1 = 0 by omega)] at go
      by_cases c0 : h = 0
      · subst c0
        have e1 : frS (farS y LO) (0 + 1) = 0 := by rw [es]; split <;> rfl
        rw [e1] at go
        rw [if_pos rfl]
        refine Rt.ift (by decide) ?_
        exact Rt.ift (by decide) go
      · rw [if_neg c0]
        have n1 : ¬ i64 (farS y LO (frS (farS y LO) h)) < 0 := by rw [i64_litN 0, i64_lt (by omega) (by omega) (by omega) (by omega)]; omega
        refine Rt.iff n1 ?_
        by_cases c : farS y LO (frS (farS y LO) h) ≤ farS y LO h
        · rw [if_neg (show ¬ farS y LO h < farS y LO (frS (farS y LO) h) by omega)] at es
          rw [es] at go
          have n2 : i64 (farS y LO (frS (farS y LO) h)) ≤ i64 (farS y LO h) := by rw [i64_le (by omega) (by omega) (by omega) (by omega)]; exact c
          exact Rt.ift n2 (Rt.iff n1 (Rt.ift n2 go))
        · rw [if_pos (show farS y LO h < farS y LO (frS (farS y LO) h) by omega)] at es
          rw [es] at go
          have n2 : ¬ i64 (farS y LO (frS (farS y LO) h)) ≤ i64 (farS y LO h) := by rw [i64_le (by omega) (by omega) (by omega) (by omega)]; exact c
          exact Rt.iff n2 (Rt.iff n1 (Rt.iff n2 go))
    rw [i64_litN 2, i64_mul, i64_sub, i64_neg]
    by_cases c : 0 ≤ 2 * al (bl y LO h) (y 5).toNat - 100 ^ bcn (y 4).toNat 8
    · refine Rt.ift (by rw [i64_litN 0, i64_le (by omega) (by omega) (by omega) (by omega)]; exact c) (key _ ?_)
      unfold farS ab; rw [if_pos c]; rfl
    · refine Rt.iff (by rw [i64_litN 0, i64_le (by omega) (by omega) (by omega) (by omega)]; exact c) (key _ ?_)
      unfold farS ab; rw [if_neg c]; rfl
theorem m_fairest {Fu : Nat} (hFu : 6000 ≤ Fu) {LO : Option LwS} (hM : RM y row) (hW : WF y) (hO : MO y LO) {th lw : Int32} {set rs : Nat → Int64} {br : Int32} {val sum : Int64} {ch : Nat → Int32} {vs : Nat → Int64} :
    Rt (fX12_fairest Fu th row lw set rs br val sum ch vs) (fun r => r.1 = i32 ((frS (farS y LO) 24 : Nat) : Int)) := by
  obtain ⟨s, n, e4, e0, hn, hs1, hs, hb⟩ := hW.seats
  unfold fX12_fairest
  rw [gd9 (by decide) (by decide), i32_nn9 (by decide), hM 4 (by omega)]
  have eb : fX12_bits Fu (i32 (y 4)) = some (i32 ((bcn (y 4).toNat 8 : Nat) : Int)) := by rw [e4, Int.toNat_natCast]; exact v_bits hFu hs
  rw [eb]
  refine Rt.eqb rfl ?_
  rw [v_power hFu (by have := bcn_le (y 4).toNat 8; omega)]
  refine Rt.eqb rfl ?_
  exact m_fairL hFu hM hW hO 24 Fu 0 lw set rs br val sum ch vs (by omega) (by omega)
theorem c_chance_N {Fu : Nat} (hFu : 6000 ≤ Fu) {LO : Option LwS} {a5 : Nat → Option Nat} (hW : WF y) (hX : RX y beasts meals seats laws inForce tr mh te cases rs ju vo) (hH : HN y LO) (a38 : Nat → Int32) {b h f : Int} (b1 : -2147483648 ≤ b) (b2 : b ≤ 2147483647) (h1 : -2147483648 ≤ h) (h2 : h ≤ 2147483647) (f1 : -2147483648 ≤ f) (f2 : f ≤ 2147483647) :
    Rt (fX11_chance_N Fu beasts laws inForce tr mh te a5 a38 (i32 b) (i32 h) (i32 f)) (fun r => r.1 = i32 (chanceS y LO b h f)) := by
  have hB := hW.1
  have eN : ¬ ((0 ≤ b ∧ b < y 0) ∧ (0 ≤ h ∧ h ≤ 23) ∧ (0 ≤ f ∧ f ≤ 3)) → chanceS y LO b h f = -1 := fun q => if_neg q
  have eY : ((0 ≤ b ∧ b < y 0) ∧ (0 ≤ h ∧ h ≤ 23) ∧ (0 ≤ f ∧ f ≤ 3)) → chanceS y LO b h f = chn y LO b.toNat h f 0 := fun q => if_pos q
  unfold fX11_chance_N
  rw [hX.1, x_hasBeast hB.1 hB.2 b b1 b2, x_isHour h h1 h2]
  simp (disch := omega) only [i32_lit, i32_lt, i32_le]
  refine Rt.eqb rfl ?_
  by_cases cb : 0 ≤ b ∧ b < y 0
  · refine Rt.iff (by rw [bI_0']; exact fun q => q cb) (Rt.eqb rfl ?_)
    by_cases ch : 0 ≤ h ∧ h ≤ 23
    · refine Rt.iff (by rw [bI_0']; exact fun q => q ch) ?_
      by_cases cf : 0 ≤ f ∧ f ≤ 3
      · refine Rt.iff (by omega) (Rt.ift cf.2 ?_)
        rw [eY ⟨cb, ch, cf⟩]
        obtain ⟨b, rfl⟩ := Int.eq_ofNat_of_zero_le cb.1
        obtain ⟨h, rfl⟩ := Int.eq_ofNat_of_zero_le ch.1
        refine Rt.bind (x_chanceOf_N (min := 0) hFu hW hX hH a38 (show b < 8 by omega) (show h < 24 by omega) (by omega) (by omega) (by omega) (by omega)) (fun r hr => Rt.ret hr)
      · rw [eN (fun q => cf q.2.2)]
        refine Rt.ite (fun _ => Rt.ret rfl) (fun _ => Rt.iff (by omega) (Rt.ret rfl))
    · refine Rt.ift (by rw [bI_0']; exact ch) ?_
      rw [eN (fun q => ch q.2.1)]; exact Rt.ret rfl
  · refine Rt.ift (by rw [bI_0']; exact cb) ?_
    rw [eN (fun q => cb q.1)]; exact Rt.ret rfl
theorem c_price_N {Fu : Nat} (hFu : 6000 ≤ Fu) {LO : Option LwS} {a5 : Nat → Option Nat} (hW : WF y) (hX : RX y beasts meals seats laws inForce tr mh te cases rs ju vo) (hH : HN y LO) (a38 : Nat → Int32) {b s : Int} (b1 : -2147483648 ≤ b) (b2 : b ≤ 2147483647) (h1 : -2147483648 ≤ s) (h2 : s ≤ 2147483647) :
    Rt (fX11_price_N Fu beasts laws inForce tr mh te a5 a38 (i32 b) (i32 s)) (fun r => r.1 = i32 (priceS y LO b s)) := by
  have hB := hW.1
  unfold fX11_price_N priceS
  rw [hX.1, x_hasBeast hB.1 hB.2 b b1 b2, x_isSide s h1 h2]
  refine Rt.eqb rfl ?_
  by_cases cb : 0 ≤ b ∧ b < y 0
  · refine Rt.iff (by rw [bI_0]; exact fun q => q cb) (Rt.eqb rfl ?_)
    by_cases ch : 0 ≤ s ∧ s ≤ 1
    · refine Rt.iff (by rw [bI_0]; exact fun q => q ch) ?_
      rw [if_pos ⟨cb, ch⟩]
      obtain ⟨b, rfl⟩ := Int.eq_ofNat_of_zero_le cb.1
      refine Rt.bind (x_priceOf_N hFu hW hX hH a38 (show b < 8 by omega) (by omega) (by omega)) (fun r hr => Rt.ret hr)
    · refine Rt.ift (by rw [bI_0]; exact ch) ?_
      rw [if_neg (fun q => ch q.2)]; exact Rt.ret rfl
  · refine Rt.ift (by rw [bI_0]; exact cb) ?_
    rw [if_neg (fun q => cb q.1)]; exact Rt.ret rfl
theorem c_tips_N {Fu : Nat} (hFu : 6000 ≤ Fu) {LO : Option LwS} {a5 : Nat → Option Nat} (hW : WF y) (hX : RX y beasts meals seats laws inForce tr mh te cases rs ju vo) (hH : HN y LO) (a38 : Nat → Int32) (vot : Int32) (ways : Nat → Int64) {b : Int} (b1 : -2147483648 ≤ b) (b2 : b ≤ 2147483647) :
    Rt (fX11_tips_N Fu beasts seats laws inForce tr mh te a5 a38 vot ways (i32 b)) (fun r => r.1 = i64 (tipsS y LO b)) := by
  obtain ⟨s, n, e4, e0, hn, hs1, hs, hb⟩ := hW.seats
  have h5 := hW.quota
  have h6 := hW.hour
  have t1 : te (1 : Int32).toNatClampNeg = i32 (((y 6).toNat : Nat) : Int) := by rw [show (((y 6).toNat : Nat) : Int) = y 6 by omega]; exact hX.2.2.2.2.2.2.1 1 (by omega)
  have t0 : te (0 : Int32).toNatClampNeg = i32 (y 5) := hX.2.2.2.2.2.2.1 0 (by omega)
  have eS : fX10_isSeated beasts seats (i32 b) = some (bI ((0 ≤ b ∧ b < y 0) ∧ s.testBit b.toNat = true)) := by
    rw [hX.1, hX.2.2.1, e4, x_seated (by omega) (by omega) hs b b1 b2]
  unfold fX11_tips_N tipsS
  rw [t1, t0, eS, e4, Int.toNat_natCast]
  refine Rt.eqb rfl ?_
  by_cases c : (0 ≤ b ∧ b < y 0) ∧ s.testBit b.toNat = true
  · refine Rt.iff (by rw [bI_0]; exact fun q => q c) ?_
    rw [if_pos c, gd9 (by decide) (by decide)]
    refine Rt.bind (x_tally_N hFu hW hX hH e4 e0 hn hs hb (show (y 6).toNat < 24 by omega) (show -1 ≤ b by omega) (by omega) a38 vot ways) (fun r hr => ?_)
    rw [gd9 (by decide) (by decide), show i32 (y 5) - 1 = i32 (y 5 - 1) by rw [i32_litN 1, i32_sub]; rfl, x_just hr (by omega) (by omega), if_neg (by omega)]
    refine Rt.ret ?_
    unfold tl1
    rw [e4, Int.toNat_natCast, show (y 5 - 1).toNat = (y 5).toNat - 1 by omega]
  · refine Rt.ift (by rw [bI_0]; exact c) ?_
    rw [if_neg c]; exact Rt.ret rfl
theorem c_fairL_N {Fu : Nat} (hFu : 6000 ≤ Fu) {LO : Option LwS} {a5 : Nat → Option Nat} (hW : WF y) (hX : RX y beasts meals seats laws inForce tr mh te cases rs ju vo) (hH : HN y LO) :
    ∀ (d f h : Nat) (a38 : Nat → Int32) (vot : Int32) (ways : Nat → Int64), h + d = 24 → d < f → Rt (fX11_fairest_N_L24 Fu f beasts seats laws inForce tr mh te a5 a38 vot ways (i64 (100 ^ bcn (y 4).toNat 8)) (i32 ((frS (farS y LO) h : Nat) : Int)) (i64 (if h = 0 then 9223372036854775807 else farS y LO (frS (farS y LO) h))) (i32 (h : Int))) (fun r => r.1 = i32 ((frS (farS y LO) 24 : Nat) : Int)) := by
  have h5 := hW.quota
  have t0 : te (0 : Int32).toNatClampNeg = i32 (((y 5).toNat : Nat) : Int) := by rw [show (((y 5).toNat : Nat) : Int) = y 5 by omega]; exact hX.2.2.2.2.2.2.1 0 (by omega)
  intro d
  induction d with
  | zero =>
    intro f h a38 vot ways hh hf
    obtain ⟨f, rfl⟩ : ∃ f', f = f' + 1 := ⟨f - 1, by omega⟩
    obtain rfl : h = 24 := by omega
    rw [fX11_fairest_N_L24, if_pos (by decide)]
    exact Rt.ret rfl
  | succ d ih =>
    intro f h a38 vot ways hh hf
    obtain ⟨f, rfl⟩ : ∃ f', f = f' + 1 := ⟨f - 1, by omega⟩
    rw [fX11_fairest_N_L24, if_neg (by rw [i32_litN 24, i32_le (by omega) (by omega) (by omega) (by omega)]; omega)]
    refine Rt.bind (x_tally0_N hFu hW hX hH (show h < 24 by omega) a38 vot ways) (fun r hr => ?_)
    rw [gd9 (by decide) (by decide), t0, x_atLeast hFu hr (by omega)]
    refine Rt.eqb rfl ?_
    have a := al_le (q := (y 5).toNat) (bl_fact (y := y) (LO := LO) (h := h)).1 (bl_fact (y := y) (LO := LO) (h := h)).2
    have p1 := pow100 (n := (bl y LO h).length) (bl_fact (y := y) (LO := LO) (h := h)).2
    have p2 := pow100 (n := bcn (y 4).toNat 8) (bcn_le _ 8)
    have fr := far_rng (y := y) (LO := LO) (h := h)
    have fr2 := far_rng (y := y) (LO := LO) (h := frS (farS y LO) h)
    have ea : (if (0 : Int64) < 2 * i64 (al (bl y LO h) (y 5).toNat) - i64 (100 ^ bcn (y 4).toNat 8) then 2 * i64 (al (bl y LO h) (y 5).toNat) - i64 (100 ^ bcn (y 4).toNat 8) else -(2 * i64 (al (bl y LO h) (y 5).toNat) - i64 (100 ^ bcn (y 4).toNat 8))) = i64 (farS y LO h) := by
      rw [i64_litN 2, i64_mul, i64_sub, i64_neg]
      unfold farS ab
      by_cases c : 0 < 2 * al (bl y LO h) (y 5).toNat - 100 ^ bcn (y 4).toNat 8
      · rw [if_pos (by rw [i64_litN 0, i64_lt (by omega) (by omega) (by omega) (by omega)]; exact c), if_pos (show 0 ≤ 2 * al (bl y LO h) (y 5).toNat - 100 ^ bcn (y 4).toNat 8 by omega)]; rfl
      · rw [if_neg (by rw [i64_litN 0, i64_lt (by omega) (by omega) (by omega) (by omega)]; exact c)]
        congr 1
        show -(2 * al (bl y LO h) (y 5).toNat - 100 ^ bcn (y 4).toNat 8) = _
        split <;> omega
    rw [ea, i32_p1]
    have es : frS (farS y LO) (h + 1) = if farS y LO h < farS y LO (frS (farS y LO) h) then h else frS (farS y LO) h := rfl
    have go := ih f (h + 1) r.1 (r.2).1 (r.2).2 (by omega) (by omega)
    rw [if_neg (show ¬ h + 1 = 0 by omega)] at go
    by_cases c0 : h = 0
    · subst c0
      have e1 : frS (farS y LO) (0 + 1) = 0 := by rw [es]; split <;> rfl
      rw [e1] at go
      rw [if_pos rfl]
      exact Rt.iff (by rw [i64_le (by omega) (by omega) (by omega) (by omega)]; omega) go
    · rw [if_neg c0]
      by_cases c : farS y LO (frS (farS y LO) h) ≤ farS y LO h
      · rw [if_neg (show ¬ farS y LO h < farS y LO (frS (farS y LO) h) by omega)] at es
        rw [es] at go
        exact Rt.ift (by rw [i64_le (by omega) (by omega) (by omega) (by omega)]; exact c) go
      · rw [if_pos (show farS y LO h < farS y LO (frS (farS y LO) h) by omega)] at es
        rw [es] at go
        exact Rt.iff (by rw [i64_le (by omega) (by omega) (by omega) (by omega)]; exact c) go
theorem c_fairest_N {Fu : Nat} (hFu : 6000 ≤ Fu) {LO : Option LwS} {a5 : Nat → Option Nat} (hW : WF y) (hX : RX y beasts meals seats laws inForce tr mh te cases rs ju vo) (hH : HN y LO) (a38 : Nat → Int32) (vot : Int32) (ways : Nat → Int64) :
    Rt (fX11_fairest_N Fu beasts seats laws inForce tr mh te a5 a38 vot ways ) (fun r => r.1 = i32 ((frS (farS y LO) 24 : Nat) : Int)) := by
  obtain ⟨s, n, e4, e0, hn, hs1, hs, hb⟩ := hW.seats
  unfold fX11_fairest_N
  have eb : fJ6_bitCount_0f7a4 seats = some (i32 ((bcn (y 4).toNat 8 : Nat) : Int)) := by rw [hX.2.2.1, e4, Int.toNat_natCast]; exact x_bitCount ⟨s, hs⟩
  rw [eb]
  refine Rt.eqb rfl ?_
  rw [x_power hFu (bcn_le _ 8)]
  refine Rt.eqb rfl ?_
  exact c_fairL_N hFu hW hX hH 24 Fu 0 a38 vot ways (by omega) (by omega)
theorem c_chance_L {Fu : Nat} (hFu : 6000 ≤ Fu) {LO : Option LwS} {nh nt ne ns bb q : Nat} {a5 : Nat → Option Nat} {aL1 aL2 aL3 aL4 : Nat → Int32} (hW : WF y) (hX : RX y beasts meals seats laws inForce tr mh te cases rs ju vo) (hH : HL y LO nh nt ne ns bb q a5 aL1 aL2 aL3 aL4) (ht : Int32) (an : Int64) (a38 : Nat → Int32) (a39 : Nat → Int64) {b h f : Int} (b1 : -2147483648 ≤ b) (b2 : b ≤ 2147483647) (h1 : -2147483648 ≤ h) (h2 : h ≤ 2147483647) (f1 : -2147483648 ≤ f) (f2 : f ≤ 2147483647) :
    Rt (fX11_chance_L Fu nh nt ne ns bb q beasts laws inForce tr mh te a5 ht an a38 a39 aL1 aL2 aL3 aL4 (i32 b) (i32 h) (i32 f)) (fun r => r.1 = i32 (chanceS y LO b h f)) := by
  have hB := hW.1
  have eN : ¬ ((0 ≤ b ∧ b < y 0) ∧ (0 ≤ h ∧ h ≤ 23) ∧ (0 ≤ f ∧ f ≤ 3)) → chanceS y LO b h f = -1 := fun q => if_neg q
  have eY : ((0 ≤ b ∧ b < y 0) ∧ (0 ≤ h ∧ h ≤ 23) ∧ (0 ≤ f ∧ f ≤ 3)) → chanceS y LO b h f = chn y LO b.toNat h f 0 := fun q => if_pos q
  unfold fX11_chance_L
  rw [hX.1, x_hasBeast hB.1 hB.2 b b1 b2, x_isHour h h1 h2]
  simp (disch := omega) only [i32_lit, i32_lt, i32_le]
  refine Rt.eqb rfl ?_
  by_cases cb : 0 ≤ b ∧ b < y 0
  · refine Rt.iff (by rw [bI_0']; exact fun q => q cb) (Rt.eqb rfl ?_)
    by_cases ch : 0 ≤ h ∧ h ≤ 23
    · refine Rt.iff (by rw [bI_0']; exact fun q => q ch) ?_
      by_cases cf : 0 ≤ f ∧ f ≤ 3
      · refine Rt.iff (by omega) (Rt.ift cf.2 ?_)
        rw [eY ⟨cb, ch, cf⟩]
        obtain ⟨b, rfl⟩ := Int.eq_ofNat_of_zero_le cb.1
        obtain ⟨h, rfl⟩ := Int.eq_ofNat_of_zero_le ch.1
        refine Rt.bind (x_chanceOf_L (min := 0) hFu hW hX hH ht an a38 a39 (show b < 8 by omega) (show h < 24 by omega) (by omega) (by omega) (by omega) (by omega)) (fun r hr => Rt.ret hr)
      · rw [eN (fun q => cf q.2.2)]
        refine Rt.ite (fun _ => Rt.ret rfl) (fun _ => Rt.iff (by omega) (Rt.ret rfl))
    · refine Rt.ift (by rw [bI_0']; exact ch) ?_
      rw [eN (fun q => ch q.2.1)]; exact Rt.ret rfl
  · refine Rt.ift (by rw [bI_0']; exact cb) ?_
    rw [eN (fun q => cb q.1)]; exact Rt.ret rfl
theorem c_price_L {Fu : Nat} (hFu : 6000 ≤ Fu) {LO : Option LwS} {nh nt ne ns bb q : Nat} {a5 : Nat → Option Nat} {aL1 aL2 aL3 aL4 : Nat → Int32} (hW : WF y) (hX : RX y beasts meals seats laws inForce tr mh te cases rs ju vo) (hH : HL y LO nh nt ne ns bb q a5 aL1 aL2 aL3 aL4) (ht : Int32) (an : Int64) (a38 : Nat → Int32) (a39 : Nat → Int64) {b s : Int} (b1 : -2147483648 ≤ b) (b2 : b ≤ 2147483647) (h1 : -2147483648 ≤ s) (h2 : s ≤ 2147483647) :
    Rt (fX11_price_L Fu nh nt ne ns bb q beasts laws inForce tr mh te a5 ht an a38 a39 aL1 aL2 aL3 aL4 (i32 b) (i32 s)) (fun r => r.1 = i32 (priceS y LO b s)) := by
  have hB := hW.1
  unfold fX11_price_L priceS
  rw [hX.1, x_hasBeast hB.1 hB.2 b b1 b2, x_isSide s h1 h2]
  refine Rt.eqb rfl ?_
  by_cases cb : 0 ≤ b ∧ b < y 0
  · refine Rt.iff (by rw [bI_0]; exact fun q => q cb) (Rt.eqb rfl ?_)
    by_cases ch : 0 ≤ s ∧ s ≤ 1
    · refine Rt.iff (by rw [bI_0]; exact fun q => q ch) ?_
      rw [if_pos ⟨cb, ch⟩]
      obtain ⟨b, rfl⟩ := Int.eq_ofNat_of_zero_le cb.1
      refine Rt.bind (x_priceOf_L hFu hW hX hH ht an a38 a39 (show b < 8 by omega) (by omega) (by omega)) (fun r hr => Rt.ret hr)
    · refine Rt.ift (by rw [bI_0]; exact ch) ?_
      rw [if_neg (fun q => ch q.2)]; exact Rt.ret rfl
  · refine Rt.ift (by rw [bI_0]; exact cb) ?_
    rw [if_neg (fun q => cb q.1)]; exact Rt.ret rfl
theorem c_tips_L {Fu : Nat} (hFu : 6000 ≤ Fu) {LO : Option LwS} {nh nt ne ns bb q : Nat} {a5 : Nat → Option Nat} {aL1 aL2 aL3 aL4 : Nat → Int32} (hW : WF y) (hX : RX y beasts meals seats laws inForce tr mh te cases rs ju vo) (hH : HL y LO nh nt ne ns bb q a5 aL1 aL2 aL3 aL4) (ht : Int32) (an : Int64) (a38 : Nat → Int32) (a39 : Nat → Int64) (vot : Int32) (ways : Nat → Int64) {b : Int} (b1 : -2147483648 ≤ b) (b2 : b ≤ 2147483647) :
    Rt (fX11_tips_L Fu nh nt ne ns bb q beasts seats laws inForce tr mh te a5 ht an a38 a39 vot ways aL1 aL2 aL3 aL4 (i32 b)) (fun r => r.1 = i64 (tipsS y LO b)) := by
  obtain ⟨s, n, e4, e0, hn, hs1, hs, hb⟩ := hW.seats
  have h5 := hW.quota
  have h6 := hW.hour
  have t1 : te (1 : Int32).toNatClampNeg = i32 (((y 6).toNat : Nat) : Int) := by rw [show (((y 6).toNat : Nat) : Int) = y 6 by omega]; exact hX.2.2.2.2.2.2.1 1 (by omega)
  have t0 : te (0 : Int32).toNatClampNeg = i32 (y 5) := hX.2.2.2.2.2.2.1 0 (by omega)
  have eS : fX10_isSeated beasts seats (i32 b) = some (bI ((0 ≤ b ∧ b < y 0) ∧ s.testBit b.toNat = true)) := by
    rw [hX.1, hX.2.2.1, e4, x_seated (by omega) (by omega) hs b b1 b2]
  unfold fX11_tips_L tipsS
  rw [t1, t0, eS, e4, Int.toNat_natCast]
  refine Rt.eqb rfl ?_
  by_cases c : (0 ≤ b ∧ b < y 0) ∧ s.testBit b.toNat = true
  · refine Rt.iff (by rw [bI_0]; exact fun q => q c) ?_
    rw [if_pos c, gd9 (by decide) (by decide)]
    refine Rt.bind (x_tally_L hFu hW hX hH e4 e0 hn hs hb (show (y 6).toNat < 24 by omega) (show -1 ≤ b by omega) (by omega) ht an a38 a39 vot ways) (fun r hr => ?_)
    rw [gd9 (by decide) (by decide), show i32 (y 5) - 1 = i32 (y 5 - 1) by rw [i32_litN 1, i32_sub]; rfl, x_just hr (by omega) (by omega), if_neg (by omega)]
    refine Rt.ret ?_
    unfold tl1
    rw [e4, Int.toNat_natCast, show (y 5 - 1).toNat = (y 5).toNat - 1 by omega]
  · refine Rt.ift (by rw [bI_0]; exact c) ?_
    rw [if_neg c]; exact Rt.ret rfl
theorem c_fairL_L {Fu : Nat} (hFu : 6000 ≤ Fu) {LO : Option LwS} {nh nt ne ns bb q : Nat} {a5 : Nat → Option Nat} {aL1 aL2 aL3 aL4 : Nat → Int32} (hW : WF y) (hX : RX y beasts meals seats laws inForce tr mh te cases rs ju vo) (hH : HL y LO nh nt ne ns bb q a5 aL1 aL2 aL3 aL4) :
    ∀ (d f h : Nat) (ht : Int32) (an : Int64) (a38 : Nat → Int32) (a39 : Nat → Int64) (vot : Int32) (ways : Nat → Int64), h + d = 24 → d < f → Rt (fX11_fairest_L_L24 Fu nh nt ne ns bb q f beasts seats laws inForce tr mh te a5 ht an a38 a39 vot ways aL1 aL2 aL3 aL4 (i64 (100 ^ bcn (y 4).toNat 8)) (i32 ((frS (farS y LO) h : Nat) : Int)) (i64 (if h = 0 then 9223372036854775807 else farS y LO (frS (farS y LO) h))) (i32 (h : Int))) (fun r => r.1 = i32 ((frS (farS y LO) 24 : Nat) : Int)) := by
  have h5 := hW.quota
  have t0 : te (0 : Int32).toNatClampNeg = i32 (((y 5).toNat : Nat) : Int) := by rw [show (((y 5).toNat : Nat) : Int) = y 5 by omega]; exact hX.2.2.2.2.2.2.1 0 (by omega)
  intro d
  induction d with
  | zero =>
    intro f h ht an a38 a39 vot ways hh hf
    obtain ⟨f, rfl⟩ : ∃ f', f = f' + 1 := ⟨f - 1, by omega⟩
    obtain rfl : h = 24 := by omega
    rw [fX11_fairest_L_L24, if_pos (by decide)]
    exact Rt.ret rfl
  | succ d ih =>
    intro f h ht an a38 a39 vot ways hh hf
    obtain ⟨f, rfl⟩ : ∃ f', f = f' + 1 := ⟨f - 1, by omega⟩
    rw [fX11_fairest_L_L24, if_neg (by rw [i32_litN 24, i32_le (by omega) (by omega) (by omega) (by omega)]; omega)]
    refine Rt.bind (x_tally0_L hFu hW hX hH (show h < 24 by omega) ht an a38 a39 vot ways) (fun r hr => ?_)
    rw [gd9 (by decide) (by decide), t0, x_atLeast hFu hr (by omega)]
    refine Rt.eqb rfl ?_
    have a := al_le (q := (y 5).toNat) (bl_fact (y := y) (LO := LO) (h := h)).1 (bl_fact (y := y) (LO := LO) (h := h)).2
    have p1 := pow100 (n := (bl y LO h).length) (bl_fact (y := y) (LO := LO) (h := h)).2
    have p2 := pow100 (n := bcn (y 4).toNat 8) (bcn_le _ 8)
    have fr := far_rng (y := y) (LO := LO) (h := h)
    have fr2 := far_rng (y := y) (LO := LO) (h := frS (farS y LO) h)
    have ea : (if (0 : Int64) < 2 * i64 (al (bl y LO h) (y 5).toNat) - i64 (100 ^ bcn (y 4).toNat 8) then 2 * i64 (al (bl y LO h) (y 5).toNat) - i64 (100 ^ bcn (y 4).toNat 8) else -(2 * i64 (al (bl y LO h) (y 5).toNat) - i64 (100 ^ bcn (y 4).toNat 8))) = i64 (farS y LO h) := by
      rw [i64_litN 2, i64_mul, i64_sub, i64_neg]
      unfold farS ab
      by_cases c : 0 < 2 * al (bl y LO h) (y 5).toNat - 100 ^ bcn (y 4).toNat 8
      · rw [if_pos (by rw [i64_litN 0, i64_lt (by omega) (by omega) (by omega) (by omega)]; exact c), if_pos (show 0 ≤ 2 * al (bl y LO h) (y 5).toNat - 100 ^ bcn (y 4).toNat 8 by omega)]; rfl
      · rw [if_neg (by rw [i64_litN 0, i64_lt (by omega) (by omega) (by omega) (by omega)]; exact c)]
        congr 1
        show -(2 * al (bl y LO h) (y 5).toNat - 100 ^ bcn (y 4).toNat 8) = _
        split <;> omega
    rw [ea, i32_p1]
    have es : frS (farS y LO) (h + 1) = if farS y LO h < farS y LO (frS (farS y LO) h) then h else frS (farS y LO) h := rfl
    have go := ih f (h + 1) r.1 r.2.1 r.2.2.1 r.2.2.2.1 (r.2.2.2.2).1 (r.2.2.2.2).2 (by omega) (by omega)
    rw [if_neg (show ¬ h + 1 = 0 by omega)] at go
    by_cases c0 : h = 0
    · subst c0
      have e1 : frS (farS y LO) (0 + 1) = 0 := by rw [es]; split <;> rfl
      rw [e1] at go
      rw [if_pos rfl]
      exact Rt.iff (by rw [i64_le (by omega) (by omega) (by omega) (by omega)]; omega) go
    · rw [if_neg c0]
      by_cases c : farS y LO (frS (farS y LO) h) ≤ farS y LO h
      · rw [if_neg (show ¬ farS y LO h < farS y LO (frS (farS y LO) h) by omega)] at es
        rw [es] at go
        exact Rt.ift (by rw [i64_le (by omega) (by omega) (by omega) (by omega)]; exact c) go
      · rw [if_pos (show farS y LO h < farS y LO (frS (farS y LO) h) by omega)] at es
        rw [es] at go
        exact Rt.iff (by rw [i64_le (by omega) (by omega) (by omega) (by omega)]; exact c) go
theorem c_fairest_L {Fu : Nat} (hFu : 6000 ≤ Fu) {LO : Option LwS} {nh nt ne ns bb q : Nat} {a5 : Nat → Option Nat} {aL1 aL2 aL3 aL4 : Nat → Int32} (hW : WF y) (hX : RX y beasts meals seats laws inForce tr mh te cases rs ju vo) (hH : HL y LO nh nt ne ns bb q a5 aL1 aL2 aL3 aL4) (ht : Int32) (an : Int64) (a38 : Nat → Int32) (a39 : Nat → Int64) (vot : Int32) (ways : Nat → Int64) :
    Rt (fX11_fairest_L Fu nh nt ne ns bb q beasts seats laws inForce tr mh te a5 ht an a38 a39 vot ways aL1 aL2 aL3 aL4) (fun r => r.1 = i32 ((frS (farS y LO) 24 : Nat) : Int)) := by
  obtain ⟨s, n, e4, e0, hn, hs1, hs, hb⟩ := hW.seats
  unfold fX11_fairest_L
  have eb : fJ6_bitCount_0f7a4 seats = some (i32 ((bcn (y 4).toNat 8 : Nat) : Int)) := by rw [hX.2.2.1, e4, Int.toNat_natCast]; exact x_bitCount ⟨s, hs⟩
  rw [eb]
  refine Rt.eqb rfl ?_
  rw [x_power hFu (bcn_le _ 8)]
  refine Rt.eqb rfl ?_
  exact c_fairL_L hFu hW hX hH 24 Fu 0 ht an a38 a39 vot ways (by omega) (by omega)
end ODDS2
