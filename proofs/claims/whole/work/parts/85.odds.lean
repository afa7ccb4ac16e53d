/-! ===== odds ===== -/
def bl (y : Nat → Int) (LO : Option LwS) (h : Nat) : List Int := cl (y 4).toNat.testBit (fun b => chn y LO b (h : Int) (y (17 + 6 * b)) 0) 8
def CH (y : Nat → Int) (LO : Option LwS) (h : Nat) (ch : Nat → Int32) : Prop := ∀ b f : Nat, (b : Int) < y 0 → f < 4 → ch (4 * b + f) = i32 (chn y LO b (h : Int) (f : Int) 0)
theorem WF.seats {y : Nat → Int} (hW : WF y) : ∃ s n : Nat, y 4 = (s : Int) ∧ y 0 = (n : Int) ∧ n ≤ 8 ∧ s < 2 ^ n ∧ s < 256 ∧ ∀ b, n ≤ b → s.testBit b = false := by
  have h0 := hW.1
  have h4 := hW.2.2.2.2.1
  obtain ⟨s, hs⟩ := Int.eq_ofNat_of_zero_le h4.1
  obtain ⟨n, hn⟩ := Int.eq_ofNat_of_zero_le h0.1
  have h5 : s < 2 ^ n := by
    have := h4.2
    rw [hs, hn, Int.toNat_natCast] at this
    have e : ((2 ^ n : Nat) : Int) = 2 ^ n := by simp
    rw [← e] at this
    omega
  have hp : 2 ^ n ≤ 2 ^ 8 := Nat.pow_le_pow_right (by omega) (by omega)
  refine ⟨s, n, hs, hn, by omega, h5, by omega, fun b hb => ?_⟩
  apply Nat.testBit_lt_two_pow
  exact Nat.lt_of_lt_of_le h5 (Nat.pow_le_pow_right (by omega) hb)
theorem bl_fact {y : Nat → Int} {LO : Option LwS} {h : Nat} : okL (bl y LO h) ∧ (bl y LO h).length ≤ 8 := ⟨cl_ok (fun b => chn_rng) 8, cl_len _ _ 8⟩
theorem fv_00 {y : Nat → Int} (hW : WF y) {b : Nat} (hb : b < 8) : ((fv y 0 0 b : Nat) : Int) = y (17 + 6 * b) := by
  have := hW.fav hb
  unfold fv
  simp
  omega
theorem cl_8 {t : Nat → Bool} {p : Nat → Int} {n : Nat} (hn : n ≤ 8) (h : ∀ b, n ≤ b → t b = false) : cl t p 8 = cl t p n := by
  have := cl_up (t := t) (p := p) (n := n) (8 - n) h
  rw [show n + (8 - n) = 8 by omega] at this; exact this
section ODDS
variable {y : Nat → Int} {row : Nat → Int32} {beasts meals seats laws inForce cases : Int32} {tr mh te rs ju vo : Nat → Int32}
theorem v_layL14 {Fu : Nat} (hFu : 6000 ≤ Fu) {LO : Option LwS} (hM : RM y row) (hW : WF y) (hO : MO y LO) {h b : Nat} (hh : h < 24) (hb : b < 8) {k2 : (Nat → Int32) → Int32 → (Nat → Int64) → (Nat → Int64) → Int32 → Int64 → Int64 → (Nat → Int32) → Int32 → Int32 → Option (Int32 × (Nat → Int64) × (Nat → Int64) × Int32 × Int64 × Int64 × (Nat → Int32))} {P : (Int32 × (Nat → Int64) × (Nat → Int64) × Int32 × Int64 × Int64 × (Nat → Int32)) → Prop}
    (hk : ∀ (lw : Int32) (set rs : Nat → Int64) (br : Int32) (val sum : Int64) (ch : Nat → Int32), (∀ b' f : Nat, b' < b + 1 → f < 4 → ch (4 * b' + f) = i32 (chn y LO b' (h : Int) (f : Int) 0)) → Rt (k2 row lw set rs br val sum ch (i32 (h : Int)) (i32 (b : Int) + 1)) P) :
    ∀ (d fu j : Nat) (lw : Int32) (set rs : Nat → Int64) (br : Int32) (val sum : Int64) (ch : Nat → Int32), j + d = 4 → d < fu → (∀ b' f : Nat, b' < b ∧ f < 4 ∨ b' = b ∧ f < j → ch (4 * b' + f) = i32 (chn y LO b' (h : Int) (f : Int) 0)) → Rt (fX12_layChances_L14 Fu k2 fu row lw set rs br val sum ch (i32 (h : Int)) (i32 (b : Int)) (i32 (j : Int))) P := by
  intro d
  induction d with
  | zero =>
    intro fu j lw set rs br val sum ch hj hf hc
    obtain ⟨fu, rfl⟩ : ∃ f', fu = f' + 1 := ⟨fu - 1, by omega⟩
    obtain rfl : j = 4 := by omega
    rw [fX12_layChances_L14, if_pos (by decide)]
    exact hk lw set rs br val sum ch (fun b' f h1 h2 => hc b' f (by omega))
  | succ d ih =>
    intro fu j lw set rs br val sum ch hj hf hc
    obtain ⟨fu, rfl⟩ : ∃ f', fu = f' + 1 := ⟨fu - 1, by omega⟩
    rw [fX12_layChances_L14, if_neg (by rw [i32_litN 4, i32_le (by omega) (by omega) (by omega) (by omega)]; omega)]
    refine Rt.bind (v_chanceOf (min := 0) hFu hM hW hO hb hh (show (-1 : Int) ≤ (j : Int) by omega) (by omega) (by omega) (by omega)) (fun r hr => ?_)
    rw [show (4 : Int32) * i32 (b : Int) + i32 (j : Int) = i32 ((4 * b + j : Nat) : Int) by rw [i32_litN 4, i32_mul, i32_add]; congr 1 <;> omega]
    rw [gd_ok (by omega) (by omega) (by omega), i32_nat (by omega) (by omega), Int.toNat_natCast, i32_p1]
    refine ih fu (j + 1) _ _ _ _ _ _ _ (by omega) (by omega) (fun b' f hbf => ?_)
    by_cases c : b' = b ∧ f = j
    · obtain ⟨rfl, rfl⟩ := c
      rw [va_up_at, hr]
    · rw [va_up_ne _ _ (by omega)]
      exact hc b' f (by omega)
theorem v_layL2 {Fu : Nat} (hFu : 6000 ≤ Fu) {LO : Option LwS} (hM : RM y row) (hW : WF y) (hO : MO y LO) {h : Nat} (hh : h < 24) :
    ∀ (d fu b : Nat) (lw : Int32) (set rs : Nat → Int64) (br : Int32) (val sum : Int64) (ch : Nat → Int32), (b : Int) + d = y 0 → d < fu → (∀ b' f : Nat, b' < b → f < 4 → ch (4 * b' + f) = i32 (chn y LO b' (h : Int) (f : Int) 0)) → Rt (fX12_layChances_L2 Fu fu row lw set rs br val sum ch (i32 (h : Int)) (i32 (b : Int))) (fun r => CH y LO h r.2.2.2.2.2.2) := by
  have h0 := hW.1
  intro d
  induction d with
  | zero =>
    intro fu b lw set rs br val sum ch hb hf hc
    obtain ⟨fu, rfl⟩ : ∃ f', fu = f' + 1 := ⟨fu - 1, by omega⟩
    rw [fX12_layChances_L2, gd9 (by decide) (by decide), i32_0, hM 0 (by omega), if_pos (by rw [i32_le (by omega) (by omega) (by omega) (by omega)]; omega)]
    exact Rt.ret (fun b' f h1 h2 => hc b' f (by omega) h2)
  | succ d ih =>
    intro fu b lw set rs br val sum ch hb hf hc
    obtain ⟨fu, rfl⟩ : ∃ f', fu = f' + 1 := ⟨fu - 1, by omega⟩
    rw [fX12_layChances_L2, gd9 (by decide) (by decide), i32_0, hM 0 (by omega), if_neg (by rw [i32_le (by omega) (by omega) (by omega) (by omega)]; omega)]
    refine v_layL14 hFu hM hW hO hh (show b < 8 by omega) (fun lw set rs br val sum ch' hc' => ?_) 4 Fu 0 lw set rs br val sum ch (by omega) (by omega) (fun b' f hbf => hc b' f (by omega) (by omega))
    rw [i32_p1]
    exact ih fu (b + 1) lw set rs br val sum ch' (by omega) (by omega) hc'
theorem v_layChances {Fu : Nat} (hFu : 6000 ≤ Fu) {LO : Option LwS} (hM : RM y row) (hW : WF y) (hO : MO y LO) {h : Nat} (hh : h < 24) {lw : Int32} {set rs : Nat → Int64} {br : Int32} {val sum : Int64} {ch : Nat → Int32} :
    Rt (fX12_layChances Fu row lw set rs br val sum ch (i32 (h : Int))) (fun r => CH y LO h r.2.2.2.2.2.2) := by
  have h0 := hW.1
  exact v_layL2 hFu hM hW hO hh (y 0).toNat Fu 0 lw set rs br val sum ch (by omega) (by omega) (fun b' f h1 => by omega)
theorem v_layNow {Fu : Nat} (hFu : 6000 ≤ Fu) {LO : Option LwS} (hM : RM y row) (hW : WF y) (hO : MO y LO) {lw : Int32} {set rs : Nat → Int64} {br : Int32} {val sum : Int64} {ch : Nat → Int32} :
    Rt (fX12_layNow Fu row lw set rs br val sum ch) (fun r => CH y LO (y 6).toNat r.2.2.2.2.2.2) := by
  have h6 := hW.hour
  have e6 : row (6 : Int32).toNatClampNeg = i32 (((y 6).toNat : Nat) : Int) := by
    rw [show (((y 6).toNat : Nat) : Int) = y 6 by omega]; exact hM 6 (by omega)
  unfold fX12_layNow
  rw [gd9 (by decide) (by decide), e6]
  exact Rt.bind (v_layChances hFu hM hW hO (by omega)) (fun r hr => Rt.ret hr)
theorem v_quota (hM : RM y row) : fX12_quota row = some (i32 (y 5)) := by
  unfold fX12_quota
  rw [gd9 (by decide) (by decide), i32_nn9 (by decide), hM 5 (by omega)]
/-- wins on the bench, nobody bribed -/
theorem v_wins0 {Fu : Nat} (hFu : 6000 ≤ Fu) {LO : Option LwS} (hM : RM y row) (hW : WF y) {h : Nat} {ch : Nat → Int32} (hc : CH y LO h ch) {vs : Nat → Int64} {q : Nat} (hq : q ≤ 8) :
    Rt (fX12_wins Fu row ch vs (i32 (y 4)) 0 0 (i32 (q : Int))) (fun r => r.1 = i64 (al (bl y LO h) q) ∧ ∀ k, k < 9 → r.2 k = i64 (vt (bl y LO h) k)) := by
  obtain ⟨s, n, e4, e0, hn, hs1, hs, hb⟩ := hW.seats
  have ebl : bl y LO h = cl s.testBit (fun j => chn y LO j (h : Int) ((fv y 0 0 j : Nat) : Int) 0) 8 := by
    unfold bl
    rw [e4, Int.toNat_natCast]
    refine cl_ext 8 (fun b _ => rfl) (fun b hb8 _ => ?_)
    rw [fv_00 hW hb8]
  rw [e4, ebl]
  refine v_wins (z := 0) (o := 0) (p := fun b f => chn y LO b (h : Int) (f : Int) 0) hFu hM hW hs (by decide) (by decide) (fun b f => chn_rng) (fun b f h1 h2 h3 => hc b f ?_ h3) hq
  rw [e0]
  have : ¬ n ≤ b := fun hnb => by rw [hb b hnb] at h2; cases h2
  omega
def oddsS (y : Nat → Int) (LO : Option LwS) (v : Int) : Int := if -1 ≤ v ∧ v ≤ 8 then (if v = -1 then al (bl y LO (y 6).toNat) (y 5).toNat else vt (bl y LO (y 6).toNat) v.toNat) else -1
theorem m_odds {Fu : Nat} (hFu : 6000 ≤ Fu) {LO : Option LwS} (hM : RM y row) (hW : WF y) (hO : MO y LO) {th lw : Int32} {set rs : Nat → Int64} {br : Int32} {val sum : Int64} {ch : Nat → Int32} {vs : Nat → Int64} {v : Int} (v1 : -2147483648 ≤ v) (v2 : v ≤ 2147483647) :
    Rt (fX12_odds Fu th row lw set rs br val sum ch vs (i32 v)) (fun r => r.1 = i64 (oddsS y LO v)) := by
  have h5 := hW.quota
  unfold fX12_odds
  simp (disch := omega) only [i32_64, i64_lit, i64_neg, v_in]
  refine Rt.eqb rfl ?_
  unfold oddsS
  by_cases c : -1 ≤ v ∧ v ≤ 8
  · rw [if_neg (by rw [bI_0]; exact fun q => q c), if_pos c]
    refine Rt.bind (v_layNow hFu hM hW hO) (fun r hr => ?_)
    rw [gd9 (by decide) (by decide), v_quota hM, i32_nn9 (by decide), hM 4 (by omega), show y 5 = (((y 5).toNat : Nat) : Int) by omega]
    refine Rt.eqb rfl ?_
    refine Rt.bind (v_wins0 hFu hM hW hr (by omega)) (fun r2 hr2 => ?_)
    by_cases cv : v = -1
    · rw [if_pos cv, cv, if_pos (show i32 (-1) = -1 from rfl)]
      exact Rt.ret hr2.1
    · rw [if_neg cv, if_neg (by rw [i32_m1, i32_eq (by omega) (by omega) (by omega) (by omega)]; exact cv), gd_ok (by omega) (by omega) (by omega), i32_nat (by omega) (by omega)]
      exact Rt.ret (hr2.2 v.toNat (by omega))
  · rw [if_pos (by rw [bI_0]; exact c), if_neg c]
    exact Rt.ret rfl
theorem x_seated {nB : Int} (b0 : 0 ≤ nB) (b1 : nB ≤ 8) {s : Nat} (hs : s < 256) (z : Int) (a1 : -2147483648 ≤ z) (a2 : z ≤ 2147483647) : fX10_isSeated (i32 nB) (i32 (s : Int)) (i32 z) = some (bI ((0 ≤ z ∧ z < nB) ∧ s.testBit z.toNat = true)) := by
  unfold fX10_isSeated fX10_isSeated_L24
  rw [x_hasBeast b0 b1 z a1 a2]
  show (if bI (0 ≤ z ∧ z < nB) = 0 then _ else _) = _
  by_cases c : 0 ≤ z ∧ z < nB
  · obtain ⟨k, rfl⟩ := Int.eq_ofNat_of_zero_le c.1
    rw [if_neg (by rw [bI_0]; exact fun q => q c), i32_bit (by omega) (by omega), Int.toNat_natCast]
    unfold bI
    by_cases c2 : s.testBit k = true
    · rw [if_pos c2, if_pos (show (0 ≤ (k : Int) ∧ (k : Int) < nB) ∧ s.testBit k = true from ⟨c, c2⟩)]; rfl
    · rw [if_neg c2, if_neg (show ¬ ((0 ≤ (k : Int) ∧ (k : Int) < nB) ∧ s.testBit k = true) from fun q => c2 q.2)]; rfl
  · rw [if_pos (by rw [bI_0]; exact c)]
    unfold bI
    rw [if_neg (fun q => c q.1)]
theorem x_tallyL_N {Fu : Nat} (hFu : 6000 ≤ Fu) {LO : Option LwS} {a5 : Nat → Option Nat} (hW : WF y) (hX : RX y beasts meals seats laws inForce tr mh te cases rs ju vo) (hH : HN y LO) {s n : Nat} (e4 : y 4 = (s : Int)) (e0 : y 0 = (n : Int)) (hn : n ≤ 8) (hs : s < 256) {h : Nat} (hh : h < 24) {w : Int} (w1 : -1 ≤ w) (w2 : w ≤ 8) :
    ∀ (d f b : Nat) (a38 : Nat → Int32) (vot : Int32) (ways : Nat → Int64), b + d = n → d < f → RT (cl (fun j => s.testBit j && decide ((j : Int) ≠ w)) (fun j => chn y LO j (h : Int) (y (17 + 6 * j)) 0) b) vot ways → Rt (fX11_tallyBench_N_L9 Fu f beasts seats laws inForce tr mh te a5 a38 vot ways (i32 (h : Int)) (i32 w) (i32 (b : Int))) (fun r => RT (cl (fun j => s.testBit j && decide ((j : Int) ≠ w)) (fun j => chn y LO j (h : Int) (y (17 + 6 * j)) 0) n) (r.2).1 (r.2).2) := by
  have eb := hX.1
  have es := hX.2.2.1
  rw [e0] at eb
  rw [e4] at es
  intro d
  induction d with
  | zero =>
    intro f b a38 vot ways hb hf hR
    obtain ⟨f, rfl⟩ : ∃ f', f = f' + 1 := ⟨f - 1, by omega⟩
    obtain rfl : b = n := by omega
    rw [fX11_tallyBench_N_L9, eb, if_pos (Int32.le_refl _)]
    exact Rt.ret hR
  | succ d ih =>
    intro f b a38 vot ways hb hf hR
    obtain ⟨f, rfl⟩ : ∃ f', f = f' + 1 := ⟨f - 1, by omega⟩
    rw [fX11_tallyBench_N_L9, if_neg (by rw [eb, i32_le (by omega) (by omega) (by omega) (by omega)]; omega), i32_p1]
    have eS : fX10_isSeated beasts seats (i32 (b : Int)) = some (bI (s.testBit b = true)) := by
      rw [eb, es, x_seated (by omega) (by omega) hs (b : Int) (by omega) (by omega), Int.toNat_natCast]
      unfold bI
      by_cases c : s.testBit b = true
      · rw [if_pos c, if_pos ⟨by omega, c⟩]
      · rw [if_neg c, if_neg (fun q => c q.2)]
    rw [eS]
    refine Rt.eqb rfl ?_
    have ec : cl (fun j => s.testBit j && decide ((j : Int) ≠ w)) (fun j => chn y LO j (h : Int) (y (17 + 6 * j)) 0) (b + 1) = if s.testBit b && decide ((b : Int) ≠ w) then chn y LO b (h : Int) (y (17 + 6 * b)) 0 :: cl (fun j => s.testBit j && decide ((j : Int) ≠ w)) (fun j => chn y LO j (h : Int) (y (17 + 6 * j)) 0) b else cl (fun j => s.testBit j && decide ((j : Int) ≠ w)) (fun j => chn y LO j (h : Int) (y (17 + 6 * j)) 0) b := rfl
    by_cases c : s.testBit b = true
    · rw [if_neg (by rw [bI_0]; exact fun q => q c)]
      by_cases cw : (b : Int) = w
      · rw [if_pos (by rw [cw])]
        refine ih f (b + 1) a38 vot ways (by omega) (by omega) ?_
        rw [ec, if_neg (by simp [cw])]; exact hR
      · rw [if_neg (by rw [i32_eq (by omega) (by omega) (by omega) (by omega)]; exact cw), x_fav hX (by omega)]
        refine Rt.eqb rfl ?_
        have hfv := hW.fav (b := b) (by omega)
        refine Rt.bind (x_chanceOf_N (min := 0) hFu hW hX hH a38 (show b < 8 by omega) hh (by omega) (by omega) (by omega) (by omega)) (fun r hr => ?_)
        rw [hr]
        have cr := chn_rng (y := y) (LO := LO) (b := b) (h := (h : Int)) (f := y (17 + 6 * b)) (m := 0)
        have cll := cl_len (fun j => s.testBit j && decide ((j : Int) ≠ w)) (fun j => chn y LO j (h : Int) (y (17 + 6 * j)) 0) b
        refine Rt.bind (x_vote hFu cr.1 cr.2 hR (by omega)) (fun r2 hr2 => ?_)
        refine ih f (b + 1) r.2 r2.1 r2.2 (by omega) (by omega) ?_
        rw [ec, if_pos (by simp [c, cw])]; exact hr2
    · rw [if_pos (by rw [bI_0]; exact c)]
      refine ih f (b + 1) a38 vot ways (by omega) (by omega) ?_
      rw [ec, if_neg (by simp [c])]; exact hR
theorem x_tally_N {Fu : Nat} (hFu : 6000 ≤ Fu) {LO : Option LwS} {a5 : Nat → Option Nat} (hW : WF y) (hX : RX y beasts meals seats laws inForce tr mh te cases rs ju vo) (hH : HN y LO) {s n : Nat} (e4 : y 4 = (s : Int)) (e0 : y 0 = (n : Int)) (hn : n ≤ 8) (hs : s < 256) (hb : ∀ b, n ≤ b → s.testBit b = false) {h : Nat} (hh : h < 24) {w : Int} (w1 : -1 ≤ w) (w2 : w ≤ 8) (a38 : Nat → Int32) (vot : Int32) (ways : Nat → Int64) :
    Rt (fX11_tallyBench_N Fu beasts seats laws inForce tr mh te a5 a38 vot ways (i32 (h : Int)) (i32 w)) (fun r => RT (cl (fun j => s.testBit j && decide ((j : Int) ≠ w)) (fun j => chn y LO j (h : Int) (y (17 + 6 * j)) 0) 8) (r.2).1 (r.2).2) := by
  unfold fX11_tallyBench_N
  refine Rt.bind (x_clear hFu) (fun r hr => ?_)
  have e8 : cl (fun j => s.testBit j && decide ((j : Int) ≠ w)) (fun j => chn y LO j (h : Int) (y (17 + 6 * j)) 0) 8 = cl (fun j => s.testBit j && decide ((j : Int) ≠ w)) (fun j => chn y LO j (h : Int) (y (17 + 6 * j)) 0) n := by
    exact cl_8 hn (fun b hnb => by simp [hb b hnb])
  rw [e8]
  exact x_tallyL_N hFu hW hX hH e4 e0 hn hs hh w1 w2 n Fu 0 a38 r.1 r.2 (by omega) (by omega) hr
theorem x_tally0_N {Fu : Nat} (hFu : 6000 ≤ Fu) {LO : Option LwS} {a5 : Nat → Option Nat} (hW : WF y) (hX : RX y beasts meals seats laws inForce tr mh te cases rs ju vo) (hH : HN y LO) {h : Nat} (hh : h < 24) (a38 : Nat → Int32) (vot : Int32) (ways : Nat → Int64) :
    Rt (fX11_tallyBench_N Fu beasts seats laws inForce tr mh te a5 a38 vot ways (i32 (h : Int)) (-1 : Int32)) (fun r => RT (bl y LO h) (r.2).1 (r.2).2) := by
  obtain ⟨s, n, e4, e0, hn, hs1, hs, hb⟩ := hW.seats
  have e : bl y LO h = cl (fun j => s.testBit j && decide ((j : Int) ≠ -1)) (fun j => chn y LO j (h : Int) (y (17 + 6 * j)) 0) 8 := by
    unfold bl
    rw [e4, Int.toNat_natCast]
    refine cl_ext 8 (fun b _ => ?_) (fun b hb8 _ => rfl)
    have : (b : Int) ≠ -1 := by omega
    simp [this]
  rw [e]
  exact x_tally_N (w := -1) hFu hW hX hH e4 e0 hn hs hb hh (by omega) (by omega) a38 vot ways
theorem c_odds_N {Fu : Nat} (hFu : 6000 ≤ Fu) {LO : Option LwS} {a5 : Nat → Option Nat} (hW : WF y) (hX : RX y beasts meals seats laws inForce tr mh te cases rs ju vo) (hH : HN y LO) (a38 : Nat → Int32) (vot : Int32) (ways : Nat → Int64) {v : Int} (v1 : -2147483648 ≤ v) (v2 : v ≤ 2147483647) :
    Rt (fX11_odds_N Fu beasts seats laws inForce tr mh te a5 a38 vot ways (i32 v)) (fun r => r.1 = i64 (oddsS y LO v)) := by
  have h5 := hW.quota
  have h6 := hW.hour
  have t1 : te (1 : Int32).toNatClampNeg = i32 (((y 6).toNat : Nat) : Int) := by rw [show (((y 6).toNat : Nat) : Int) = y 6 by omega]; exact hX.2.2.2.2.2.2.1 1 (by omega)
  have t0 : te (0 : Int32).toNatClampNeg = i32 (((y 5).toNat : Nat) : Int) := by rw [show (((y 5).toNat : Nat) : Int) = y 5 by omega]; exact hX.2.2.2.2.2.2.1 0 (by omega)
  unfold fX11_odds_N
  rw [t1, t0]
  unfold oddsS
  by_cases c : -1 ≤ v ∧ v ≤ 8
  · rw [if_pos c, if_neg (by rw [i32_m1, i32_lt (by omega) (by omega) (by omega) (by omega)]; omega), if_pos (by rw [i32_litN 8, i32_le (by omega) (by omega) (by omega) (by omega)]; omega), gd9 (by decide) (by decide)]
    refine Rt.bind (x_tally0_N hFu hW hX hH (by omega) a38 vot ways) (fun r hr => ?_)
    by_cases cv : v = -1
    · rw [if_pos cv, cv, if_pos (show i32 (-1) = -1 from rfl), gd9 (by decide) (by decide), x_atLeast hFu hr (by omega)]
      exact Rt.ret rfl
    · rw [if_neg cv, if_neg (by rw [i32_m1, i32_eq (by omega) (by omega) (by omega) (by omega)]; exact cv), x_just hr (by omega) (by omega), if_neg (by omega)]
      exact Rt.ret rfl
  · rw [if_neg c]
    by_cases c1 : v < -1
    · rw [if_pos (by rw [i32_m1, i32_lt (by omega) (by omega) (by omega) (by omega)]; omega)]
      exact Rt.ret rfl
    · rw [if_neg (by rw [i32_m1, i32_lt (by omega) (by omega) (by omega) (by omega)]; omega), if_neg (by rw [i32_litN 8, i32_le (by omega) (by omega) (by omega) (by omega)]; omega)]
      exact Rt.ret rfl
theorem x_tallyL_L {Fu : Nat} (hFu : 6000 ≤ Fu) {LO : Option LwS} {nh nt ne ns bb q : Nat} {a5 : Nat → Option Nat} {aL1 aL2 aL3 aL4 : Nat → Int32} (hW : WF y) (hX : RX y beasts meals seats laws inForce tr mh te cases rs ju vo) (hH : HL y LO nh nt ne ns bb q a5 aL1 aL2 aL3 aL4) {s n : Nat} (e4 : y 4 = (s : Int)) (e0 : y 0 = (n : Int)) (hn : n ≤ 8) (hs : s < 256) {h : Nat} (hh : h < 24) {w : Int} (w1 : -1 ≤ w) (w2 : w ≤ 8) :
    ∀ (d f b : Nat) (ht : Int32) (an : Int64) (a38 : Nat → Int32) (a39 : Nat → Int64) (vot : Int32) (ways : Nat → Int64), b + d = n → d < f → RT (cl (fun j => s.testBit j && decide ((j : Int) ≠ w)) (fun j => chn y LO j (h : Int) (y (17 + 6 * j)) 0) b) vot ways → Rt (fX11_tallyBench_L_L9 Fu nh nt ne ns bb q f beasts seats laws inForce tr mh te a5 ht an a38 a39 vot ways aL1 aL2 aL3 aL4 (i32 (h : Int)) (i32 w) (i32 (b : Int))) (fun r => RT (cl (fun j => s.testBit j && decide ((j : Int) ≠ w)) (fun j => chn y LO j (h : Int) (y (17 + 6 * j)) 0) n) (r.2.2.2.2).1 (r.2.2.2.2).2) := by
  have eb := hX.1
  have es := hX.2.2.1
  rw [e0] at eb
  rw [e4] at es
  intro d
  induction d with
  | zero =>
    intro f b ht an a38 a39 vot ways hb hf hR
    obtain ⟨f, rfl⟩ : ∃ f', f = f' + 1 := ⟨f - 1, by omega⟩
    obtain rfl : b = n := by omega
    rw [fX11_tallyBench_L_L9, eb, if_pos (Int32.le_refl _)]
    exact Rt.ret hR
  | succ d ih =>
    intro f b ht an a38 a39 vot ways hb hf hR
    obtain ⟨f, rfl⟩ : ∃ f', f = f' + 1 := ⟨f - 1, by omega⟩
    rw [fX11_tallyBench_L_L9, if_neg (by rw [eb, i32_le (by omega) (by omega) (by omega) (by omega)]; omega), i32_p1]
    have eS : fX10_isSeated beasts seats (i32 (b : Int)) = some (bI (s.testBit b = true)) := by
      rw [eb, es, x_seated (by omega) (by omega) hs (b : Int) (by omega) (by omega), Int.toNat_natCast]
      unfold bI
      by_cases c : s.testBit b = true
      · rw [if_pos c, if_pos ⟨by omega, c⟩]
      · rw [if_neg c, if_neg (fun q => c q.2)]
    rw [eS]
    refine Rt.eqb rfl ?_
    have ec : cl (fun j => s.testBit j && decide ((j : Int) ≠ w)) (fun j => chn y LO j (h : Int) (y (17 + 6 * j)) 0) (b + 1) = if s.testBit b && decide ((b : Int) ≠ w) then chn y LO b (h : Int) (y (17 + 6 * b)) 0 :: cl (fun j => s.testBit j && decide ((j : Int) ≠ w)) (fun j => chn y LO j (h : Int) (y (17 + 6 * j)) 0) b else cl (fun j => s.testBit j && decide ((j : Int) ≠ w)) (fun j => chn y LO j (h : Int) (y (17 + 6 * j)) 0) b := rfl
    by_cases c : s.testBit b = true
    · rw [if_neg (by rw [bI_0]; exact fun q => q c)]
      by_cases cw : (b : Int) = w
      · rw [if_pos (by rw [cw])]
        refine ih f (b + 1) ht an a38 a39 vot ways (by omega) (by omega) ?_
        rw [ec, if_neg (by simp [cw])]; exact hR
      · rw [if_neg (by rw [i32_eq (by omega) (by omega) (by omega) (by omega)]; exact cw), x_fav hX (by omega)]
        refine Rt.eqb rfl ?_
        have hfv := hW.fav (b := b) (by omega)
        refine Rt.bind (x_chanceOf_L (min := 0) hFu hW hX hH ht an a38 a39 (show b < 8 by omega) hh (by omega) (by omega) (by omega) (by omega)) (fun r hr => ?_)
        rw [hr]
        have cr := chn_rng (y := y) (LO := LO) (b := b) (h := (h : Int)) (f := y (17 + 6 * b)) (m := 0)
        have cll := cl_len (fun j => s.testBit j && decide ((j : Int) ≠ w)) (fun j => chn y LO j (h : Int) (y (17 + 6 * j)) 0) b
        refine Rt.bind (x_vote hFu cr.1 cr.2 hR (by omega)) (fun r2 hr2 => ?_)
        refine ih f (b + 1) r.2.1 r.2.2.1 r.2.2.2.1 r.2.2.2.2 r2.1 r2.2 (by omega) (by omega) ?_
        rw [ec, if_pos (by simp [c, cw])]; exact hr2
    · rw [if_pos (by rw [bI_0]; exact c)]
      refine ih f (b + 1) ht an a38 a39 vot ways (by omega) (by omega) ?_
      rw [ec, if_neg (by simp [c])]; exact hR
theorem x_tally_L {Fu : Nat} (hFu : 6000 ≤ Fu) {LO : Option LwS} {nh nt ne ns bb q : Nat} {a5 : Nat → Option Nat} {aL1 aL2 aL3 aL4 : Nat → Int32} (hW : WF y) (hX : RX y beasts meals seats laws inForce tr mh te cases rs ju vo) (hH : HL y LO nh nt ne ns bb q a5 aL1 aL2 aL3 aL4) {s n : Nat} (e4 : y 4 = (s : Int)) (e0 : y 0 = (n : Int)) (hn : n ≤ 8) (hs : s < 256) (hb : ∀ b, n ≤ b → s.testBit b = false) {h : Nat} (hh : h < 24) {w : Int} (w1 : -1 ≤ w) (w2 : w ≤ 8) (ht : Int32) (an : Int64) (a38 : Nat → Int32) (a39 : Nat → Int64) (vot : Int32) (ways : Nat → Int64) :
    Rt (fX11_tallyBench_L Fu nh nt ne ns bb q beasts seats laws inForce tr mh te a5 ht an a38 a39 vot ways aL1 aL2 aL3 aL4 (i32 (h : Int)) (i32 w)) (fun r => RT (cl (fun j => s.testBit j && decide ((j : Int) ≠ w)) (fun j => chn y LO j (h : Int) (y (17 + 6 * j)) 0) 8) (r.2.2.2.2).1 (r.2.2.2.2).2) := by
  unfold fX11_tallyBench_L
  refine Rt.bind (x_clear hFu) (fun r hr => ?_)
  have e8 : cl (fun j => s.testBit j && decide ((j : Int) ≠ w)) (fun j => chn y LO j (h : Int) (y (17 + 6 * j)) 0) 8 = cl (fun j => s.testBit j && decide ((j : Int) ≠ w)) (fun j => chn y LO j (h : Int) (y (17 + 6 * j)) 0) n := by
    exact cl_8 hn (fun b hnb => by simp [hb b hnb])
  rw [e8]
  exact x_tallyL_L hFu hW hX hH e4 e0 hn hs hh w1 w2 n Fu 0 ht an a38 a39 r.1 r.2 (by omega) (by omega) hr
theorem x_tally0_L {Fu : Nat} (hFu : 6000 ≤ Fu) {LO : Option LwS} {nh nt ne ns bb q : Nat} {a5 : Nat → Option Nat} {aL1 aL2 aL3 aL4 : Nat → Int32} (hW : WF y) (hX : RX y beasts meals seats laws inForce tr mh te cases rs ju vo) (hH : HL y LO nh nt ne ns bb q a5 aL1 aL2 aL3 aL4) {h : Nat} (hh : h < 24) (ht : Int32) (an : Int64) (a38 : Nat → Int32) (a39 : Nat → Int64) (vot : Int32) (ways : Nat → Int64) :
    Rt (fX11_tallyBench_L Fu nh nt ne ns bb q beasts seats laws inForce tr mh te a5 ht an a38 a39 vot ways aL1 aL2 aL3 aL4 (i32 (h : Int)) (-1 : Int32)) (fun r => RT (bl y LO h) (r.2.2.2.2).1 (r.2.2.2.2).2) := by
  obtain ⟨s, n, e4, e0, hn, hs1, hs, hb⟩ := hW.seats
  have e : bl y LO h = cl (fun j => s.testBit j && decide ((j : Int) ≠ -1)) (fun j => chn y LO j (h : Int) (y (17 + 6 * j)) 0) 8 := by
    unfold bl
    rw [e4, Int.toNat_natCast]
    refine cl_ext 8 (fun b _ => ?_) (fun b hb8 _ => rfl)
    have : (b : Int) ≠ -1 := by omega
    simp [this]
  rw [e]
  exact x_tally_L (w := -1) hFu hW hX hH e4 e0 hn hs hb hh (by omega) (by omega) ht an a38 a39 vot ways
theorem c_odds_L {Fu : Nat} (hFu : 6000 ≤ Fu) {LO : Option LwS} {nh nt ne ns bb q : Nat} {a5 : Nat → Option Nat} {aL1 aL2 aL3 aL4 : Nat → Int32} (hW : WF y) (hX : RX y beasts meals seats laws inForce tr mh te cases rs ju vo) (hH : HL y LO nh nt ne ns bb q a5 aL1 aL2 aL3 aL4) (ht : Int32) (an : Int64) (a38 : Nat → Int32) (a39 : Nat → Int64) (vot : Int32) (ways : Nat → Int64) {v : Int} (v1 : -2147483648 ≤ v) (v2 : v ≤ 2147483647) :
    Rt (fX11_odds_L Fu nh nt ne ns bb q beasts seats laws inForce tr mh te a5 ht an a38 a39 vot ways aL1 aL2 aL3 aL4 (i32 v)) (fun r => r.1 = i64 (oddsS y LO v)) := by
  have h5 := hW.quota
  have h6 := hW.hour
  have t1 : te (1 : Int32).toNatClampNeg = i32 (((y 6).toNat : Nat) : Int) := by rw [show (((y 6).toNat : Nat) : Int) = y 6 by omega]; exact hX.2.2.2.2.2.2.1 1 (by omega)
  have t0 : te (0 : Int32).toNatClampNeg = i32 (((y 5).toNat : Nat) : Int) := by rw [show (((y 5).toNat : Nat) : Int) = y 5 by omega]; exact hX.2.2.2.2.2.2.1 0 (by omega)
  unfold fX11_odds_L
  rw [t1, t0]
  unfold oddsS
  by_cases c : -1 ≤ v ∧ v ≤ 8
  · rw [if_pos c, if_neg (by rw [i32_m1, i32_lt (by omega) (by omega) (by omega) (by omega)]; omega), if_pos (by rw [i32_litN 8, i32_le (by omega) (by omega) (by omega) (by omega)]; omega), gd9 (by decide) (by decide)]
    refine Rt.bind (x_tally0_L hFu hW hX hH (by omega) ht an a38 a39 vot ways) (fun r hr => ?_)
    by_cases cv : v = -1
    · rw [if_pos cv, cv, if_pos (show i32 (-1) = -1 from rfl), gd9 (by decide) (by decide), x_atLeast hFu hr (by omega)]
      exact Rt.ret rfl
    · rw [if_neg cv, if_neg (by rw [i32_m1, i32_eq (by omega) (by omega) (by omega) (by omega)]; exact cv), x_just hr (by omega) (by omega), if_neg (by omega)]
      exact Rt.ret rfl
  · rw [if_neg c]
    by_cases c1 : v < -1
    · rw [if_pos (by rw [i32_m1, i32_lt (by omega) (by omega) (by omega) (by omega)]; omega)]
      exact Rt.ret rfl
    · rw [if_neg (by rw [i32_m1, i32_lt (by omega) (by omega) (by omega) (by omega)]; omega), if_neg (by rw [i32_litN 8, i32_le (by omega) (by omega) (by omega) (by omega)]; omega)]
      exact Rt.ret rfl
end ODDS
