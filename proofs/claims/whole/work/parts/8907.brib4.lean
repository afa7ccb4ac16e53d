section BRIB4
variable {y : Nat → Int} {row : Nat → Int32} {beasts meals seats laws inForce cases : Int32} {tr mh te rs ju vo : Nat → Int32} {Fu : Nat} {LO : Option LwS}
/-! the reply -/
def replyS (y : Nat → Int) (LO : Option LwS) (sd o w : Int) : Int := if (0 ≤ sd ∧ sd ≤ 1) ∧ (0 ≤ w ∧ w ≤ 1) ∧ (0 ≤ o ∧ cnS y LO (1 - sd.toNat) o.toNat) then (if w = 0 then rpS y LO sd.toNat o.toNat 256 else cst y LO sd.toNat (rpS y LO sd.toNat o.toNat 256).toNat) else -1
theorem rp_ok (hW : WF y) {sd o : Nat} (hsd : sd < 2) : 0 ≤ rpS y LO sd o 256 ∧ rpS y LO sd o 256 < 256 ∧ cnS y LO sd (rpS y LO sd o 256).toNat := by
  have p : 0 ≤ rpS y LO sd o 256 := bst_some (cnT_0 hW hsd) 255
  rcases rp_fact (y := y) (LO := LO) sd o 256 with h | h
  · omega
  · exact h
theorem m_reply (hFu : 6000 ≤ Fu) (hM : RM y row) (hW : WF y) (hO : MO y LO) {th lw : Int32} {set rs : Nat → Int64} {br : Int32} {val sum : Int64} {ch co pc : Nat → Int32} {vs : Nat → Int64} {sd o w : Int} (s1 : -2147483648 ≤ sd) (s2 : sd ≤ 2147483647) (o1 : -2147483648 ≤ o) (o2 : o ≤ 2147483647) (w1 : -2147483648 ≤ w) (w2 : w ≤ 2147483647) :
    Rt (fX12_reply Fu th row lw set rs br val sum ch vs co pc (i32 sd) (i32 o) (i32 w)) (fun r => r.1 = i32 (replyS y LO sd o w)) := by
  have eN : ¬ ((0 ≤ sd ∧ sd ≤ 1) ∧ (0 ≤ w ∧ w ≤ 1) ∧ (0 ≤ o ∧ cnS y LO (1 - sd.toNat) o.toNat)) → replyS y LO sd o w = -1 := fun q => if_neg q
  have eY : ((0 ≤ sd ∧ sd ≤ 1) ∧ (0 ≤ w ∧ w ≤ 1) ∧ (0 ≤ o ∧ cnS y LO (1 - sd.toNat) o.toNat)) → replyS y LO sd o w = (if w = 0 then rpS y LO sd.toNat o.toNat 256 else cst y LO sd.toNat (rpS y LO sd.toNat o.toNat 256).toNat) := fun q => if_pos q
  unfold fX12_reply
  rw [v_isSide sd s1 s2]
  simp (disch := omega) only [i32_64, i64_lit, v_in]
  refine Rt.eqb rfl ?_
  by_cases cs : 0 ≤ sd ∧ sd ≤ 1
  · refine Rt.iff (by rw [bI_0]; exact fun q => q cs) (Rt.eqb rfl ?_)
    by_cases cw : 0 ≤ w ∧ w ≤ 1
    · refine Rt.iff (by rw [bI_0]; exact fun q => q cw) ?_
      obtain ⟨sd, rfl⟩ := Int.eq_ofNat_of_zero_le cs.1
      rw [Int.toNat_natCast] at eN eY
      refine Rt.bind (v_layBribes hFu hM hW hO) (fun r hr => ?_)
      rw [show (1 : Int32) - i32 (sd : Int) = i32 ((1 - sd : Nat) : Int) by rw [i32_litN 1, i32_sub]; congr 1; omega, v_can hM hW hr.2 (sd := 1 - sd) (by omega) o1 o2]
      refine Rt.eqb rfl ?_
      by_cases cc : 0 ≤ o ∧ cnS y LO (1 - sd) o.toNat
      · refine Rt.iff (by rw [bI_0]; exact fun q => q cc) ?_
        have cl := cn_lt hW cc.2
        obtain ⟨o, rfl⟩ := Int.eq_ofNat_of_zero_le cc.1
        rw [Int.toNat_natCast] at cl eY
        rw [eY ⟨cs, cw, by omega, by have := cc.2; rw [Int.toNat_natCast] at this; exact this⟩]
        have hro := rp_ok (LO := LO) hW (sd := sd) (o := o) (by omega)
        refine Rt.bind (v_replyL hFu hM hW hr.1 hr.2 (sd := sd) (other := o) (by omega) (by omega) 256 Fu 0 vs 0 (by omega) (by omega) (Or.inl ⟨rfl, rfl⟩)) (fun r2 hr2 => ?_)
        rw [hr2]
        by_cases c0 : w = 0
        · subst c0
          exact Rt.ift rfl (Rt.ret rfl)
        · obtain rfl : w = 1 := by omega
          refine Rt.iff (by decide) ?_
          rw [show rpS y LO sd o 256 = (((rpS y LO sd o 256).toNat : Nat) : Int) by omega, show (256 : Int32) * i32 (sd : Int) + i32 (((rpS y LO sd o 256).toNat : Nat) : Int) = i32 ((256 * sd + (rpS y LO sd o 256).toNat : Nat) : Int) by rw [i32_litN 256, i32_mul, i32_add]; congr 1 <;> omega, gd_ok (by omega) (by omega) (by omega), i32_nat (by omega) (by omega), Int.toNat_natCast, hr.2 sd _ (by omega) (by omega)]
          exact Rt.ret rfl
      · refine Rt.ift (by rw [bI_0]; exact cc) ?_
        rw [eN (fun q => cc q.2.2)]; exact Rt.ret rfl
    · refine Rt.ift (by rw [bI_0]; exact cw) ?_
      rw [eN (fun q => cw q.2.1)]; exact Rt.ret rfl
  · refine Rt.ift (by rw [bI_0]; exact cs) ?_
    rw [eN (fun q => cs q.1)]; exact Rt.ret rfl
/-! enough -/
def eck (t ok : Nat → Bool) (co : Nat → Int) : Nat → Int
  | 0 => -1
  | s + 1 => if t s = true ∧ (eck t ok co s = -1 ∨ co s < co (eck t ok co s).toNat) ∧ ok s = true then (s : Int) else eck t ok co s
theorem eck_fact {t ok : Nat → Bool} {co : Nat → Int} : ∀ n : Nat, eck t ok co n = -1 ∨ 0 ≤ eck t ok co n ∧ eck t ok co n < n ∧ t (eck t ok co n).toNat = true := by
  intro n
  induction n with
  | zero => exact Or.inl rfl
  | succ n ih =>
    have e : eck t ok co (n + 1) = if t n = true ∧ (eck t ok co n = -1 ∨ co n < co (eck t ok co n).toNat) ∧ ok n = true then (n : Int) else eck t ok co n := rfl
    by_cases c : t n = true ∧ (eck t ok co n = -1 ∨ co n < co (eck t ok co n).toNat) ∧ ok n = true
    · rw [if_pos c] at e
      rw [e]
      exact Or.inr ⟨by omega, by omega, by rw [Int.toNat_natCast]; exact c.1⟩
    · rw [if_neg c] at e
      rw [e]
      rcases ih with ih | ih
      · exact Or.inl ih
      · exact Or.inr ⟨ih.1, by omega, ih.2.2⟩
theorem eck_up {t ok : Nat → Bool} {co : Nat → Int} {N : Nat} (h : ∀ s, N ≤ s → t s = false) : ∀ m, eck t ok co (N + m) = eck t ok co N := by
  intro m
  induction m with
  | zero => rfl
  | succ m ih =>
    show (if t (N + m) = true ∧ _ then ((N + m : Nat) : Int) else eck t ok co (N + m)) = _
    rw [if_neg (fun q => by rw [h (N + m) (by omega)] at q; cases q.1), ih]
def enR (od mil : Int) (n : Nat) : Prop := if n < 3 then mil ≤ od * 100 ^ (3 - n) else mil * 100 ^ (n - 3) ≤ od
theorem wn_le (hW : WF y) {z o : Nat} : 0 ≤ wn y LO z o ∧ wn y LO z o ≤ 100 ^ bcn (y 4).toNat 8 := by
  unfold wn wnO
  have l := cl_len (y 4).toNat.testBit (fun b => chn y LO b (((y 6).toNat : Nat) : Int) ((fv y z o b : Nat) : Int) 0) 8
  have a := al_le (q := (y 5).toNat) (cl_ok (t := (y 4).toNat.testBit) (p := fun b => chn y LO b (((y 6).toNat : Nat) : Int) ((fv y z o b : Nat) : Int) 0) (fun b => chn_rng) 8) l
  rw [cl_cnt] at a
  exact a
/-- a side's odds by its bribes alone -/
def odB (y : Nat → Int) (LO : Option LwS) (sd s : Nat) : Int := if sd = 0 then wn y LO s 0 else 100 ^ bcn (y 4).toNat 8 - wn y LO 0 s
theorem od_le (hW : WF y) {sd s : Nat} : 0 ≤ odB y LO sd s ∧ odB y LO sd s ≤ 100 ^ bcn (y 4).toNat 8 := by
  have a := wn_le (LO := LO) hW (z := s) (o := 0)
  have b := wn_le (LO := LO) hW (z := 0) (o := s)
  unfold odB
  split <;> omega
theorem v_enough (hFu : 6000 ≤ Fu) {od mil : Int} {n : Nat} (hn : n ≤ 8) (o1 : 0 ≤ od) (o2 : od ≤ 100 ^ n) (m1 : 0 ≤ mil) (m2 : mil ≤ 1000000) [Decidable (enR od mil n)] : fX12_isEnough Fu (i64 od) (i32 mil) (i32 (n : Int)) = some (bI (enR od mil n)) := by
  have ed : enR od mil n ↔ (if n < 3 then mil ≤ od * 100 ^ (3 - n) else mil * 100 ^ (n - 3) ≤ od) := Iff.rfl
  have pn := pow100 hn
  unfold fX12_isEnough
  rw [i32_64 (by omega) (by omega)]
  by_cases c : n < 3
  · rw [if_pos (by rw [i32_litN 2, i32_le (by omega) (by omega) (by omega) (by omega)]; omega), v_power hFu (by omega), Option.bind_some, i64_litN 1000000, i64_mul, i64_mul]
    rw [if_pos c] at ed
    have h3 : n = 0 ∨ n = 1 ∨ n = 2 := by omega
    have e2 : (mil ≤ od * 100 ^ (3 - n)) ↔ ¬ od * 1000000 < mil * 100 ^ n := by
      rcases h3 with rfl | rfl | rfl
      · show (mil ≤ od * 1000000) ↔ ¬ od * 1000000 < mil * 1; omega
      · show (mil ≤ od * 10000) ↔ ¬ od * 1000000 < mil * 100; omega
      · show (mil ≤ od * 100) ↔ ¬ od * 1000000 < mil * 10000; omega
    have b1 : od ≤ 10000 := by
      rcases h3 with rfl | rfl | rfl
      · have : (100 : Int) ^ 0 = 1 := rfl; omega
      · have : (100 : Int) ^ 1 = 100 := rfl; omega
      · have : (100 : Int) ^ 2 = 10000 := rfl; omega
    have b2 : 0 ≤ mil * 100 ^ n ∧ mil * 100 ^ n ≤ 10000000000 := by
      rcases h3 with rfl | rfl | rfl
      · show 0 ≤ mil * 1 ∧ mil * 1 ≤ _; omega
      · show 0 ≤ mil * 100 ∧ mil * 100 ≤ _; omega
      · show 0 ≤ mil * 10000 ∧ mil * 10000 ≤ _; omega
    unfold bI
    by_cases q : enR od mil n
    · rw [if_pos q, if_neg (by rw [i64_lt (by omega) (by omega) (by omega) (by omega)]; exact e2.mp (ed.mp q))]
    · rw [if_neg q, if_pos (by rw [i64_lt (by omega) (by omega) (by omega) (by omega)]; exact Classical.byContradiction (fun h => q (ed.mpr (e2.mpr h))))]
  · rw [if_neg (by rw [i32_litN 2, i32_le (by omega) (by omega) (by omega) (by omega)]; omega), show i32 (n : Int) - 3 = i32 ((n - 3 : Nat) : Int) by rw [i32_litN 3, i32_sub]; congr 1; omega, v_power hFu (by omega), Option.bind_some, i64_mul]
    rw [if_neg c] at ed
    have p3 := pow100 (n := n - 3) (by omega)
    have p3' : (100 : Int) ^ (n - 3) ≤ 10000000000 := by
      have h : n - 3 = 0 ∨ n - 3 = 1 ∨ n - 3 = 2 ∨ n - 3 = 3 ∨ n - 3 = 4 ∨ n - 3 = 5 := by omega
      rcases h with h | h | h | h | h | h <;> rw [h] <;> decide
    have b2 : mil * 100 ^ (n - 3) ≤ 1000000 * 10000000000 := Int.mul_le_mul m2 p3' (by omega) (by omega)
    have b3 : 0 ≤ mil * 100 ^ (n - 3) := Int.mul_nonneg m1 (by omega)
    unfold bI
    by_cases q : enR od mil n
    · have := ed.mp q
      rw [if_pos q, if_neg (by rw [i64_lt (by omega) (by omega) (by omega) (by omega)]; omega)]
    · have : ¬ mil * 100 ^ (n - 3) ≤ od := fun h => q (ed.mpr h)
      rw [if_neg q, if_pos (by rw [i64_lt (by omega) (by omega) (by omega) (by omega)]; omega)]
theorem x_reaches (hFu : 6000 ≤ Fu) {od mil : Int} {n : Nat} (hn : n ≤ 8) (o1 : 0 ≤ od) (o2 : od ≤ 100 ^ n) (m1 : 0 ≤ mil) (m2 : mil ≤ 1000000) [Decidable (enR od mil n)] : fX1_reaches Fu (i32 (n : Int)) (i64 od) (i32 mil) = some (bI (enR od mil n)) := by
  have ed : enR od mil n ↔ (if n < 3 then mil ≤ od * 100 ^ (3 - n) else mil * 100 ^ (n - 3) ≤ od) := Iff.rfl
  have pn := pow100 hn
  unfold fX1_reaches
  rw [i32_64 (by omega) (by omega)]
  by_cases c : n < 3
  · rw [if_neg (by rw [i32_litN 3, i32_le (by omega) (by omega) (by omega) (by omega)]; omega), show (3 : Int32) - i32 (n : Int) = i32 ((3 - n : Nat) : Int) by rw [i32_litN 3, i32_sub]; congr 1; omega, x_power hFu (by omega), Option.bind_some, i64_mul]
    rw [if_pos c] at ed
    have h3 : n = 0 ∨ n = 1 ∨ n = 2 := by omega
    have b1 : od ≤ 10000 := by
      rcases h3 with rfl | rfl | rfl
      · have : (100 : Int) ^ 0 = 1 := rfl; omega
      · have : (100 : Int) ^ 1 = 100 := rfl; omega
      · have : (100 : Int) ^ 2 = 10000 := rfl; omega
    have b2 : 0 ≤ od * 100 ^ (3 - n) ∧ od * 100 ^ (3 - n) ≤ 10000000000 := by
      rcases h3 with rfl | rfl | rfl
      · show 0 ≤ od * 1000000 ∧ od * 1000000 ≤ _; omega
      · show 0 ≤ od * 10000 ∧ od * 10000 ≤ _; omega
      · show 0 ≤ od * 100 ∧ od * 100 ≤ _; omega
    unfold bI
    by_cases q : enR od mil n
    · have := ed.mp q
      rw [if_pos q, if_neg (by rw [i64_lt (by omega) (by omega) (by omega) (by omega)]; omega)]
    · have : ¬ mil ≤ od * 100 ^ (3 - n) := fun h => q (ed.mpr h)
      rw [if_neg q, if_pos (by rw [i64_lt (by omega) (by omega) (by omega) (by omega)]; omega)]
  · rw [if_pos (by rw [i32_litN 3, i32_le (by omega) (by omega) (by omega) (by omega)]; omega), show i32 (n : Int) - 3 = i32 ((n - 3 : Nat) : Int) by rw [i32_litN 3, i32_sub]; congr 1; omega, x_power hFu (by omega), Option.bind_some, i64_mul]
    rw [if_neg c] at ed
    have p3 := pow100 (n := n - 3) (by omega)
    have p3' : (100 : Int) ^ (n - 3) ≤ 10000000000 := by
      have h : n - 3 = 0 ∨ n - 3 = 1 ∨ n - 3 = 2 ∨ n - 3 = 3 ∨ n - 3 = 4 ∨ n - 3 = 5 := by omega
      rcases h with h | h | h | h | h | h <;> rw [h] <;> decide
    have b2 : mil * 100 ^ (n - 3) ≤ 1000000 * 10000000000 := Int.mul_le_mul m2 p3' (by omega) (by omega)
    have b3 : 0 ≤ mil * 100 ^ (n - 3) := Int.mul_nonneg m1 (by omega)
    unfold bI
    by_cases q : enR od mil n
    · have := ed.mp q
      rw [if_pos q, if_neg (by rw [i64_lt (by omega) (by omega) (by omega) (by omega)]; omega)]
    · have : ¬ mil * 100 ^ (n - 3) ≤ od := fun h => q (ed.mpr h)
      rw [if_neg q, if_pos (by rw [i64_lt (by omega) (by omega) (by omega) (by omega)]; omega)]
noncomputable def okE1 (y : Nat → Int) (LO : Option LwS) (sd : Nat) (mil : Int) (s : Nat) : Bool := @decide (enR (odB y LO sd s) mil (bcn (y 4).toNat 8)) (Classical.propDecidable _)
noncomputable def ecS (y : Nat → Int) (LO : Option LwS) (sd : Nat) (mil : Int) (n : Nat) : Int := eck (cnT y LO sd) (okE1 y LO sd mil) (cst y LO sd) n
theorem ec_step (sd : Nat) (mil : Int) (s : Nat) : ecS y LO sd mil (s + 1) = if cnT y LO sd s = true ∧ (ecS y LO sd mil s = -1 ∨ cst y LO sd s < cst y LO sd (ecS y LO sd mil s).toNat) ∧ okE1 y LO sd mil s = true then (s : Int) else ecS y LO sd mil s := rfl
theorem ec_fact (sd : Nat) (mil : Int) (n : Nat) : ecS y LO sd mil n = -1 ∨ 0 ≤ ecS y LO sd mil n ∧ ecS y LO sd mil n < n ∧ cnS y LO sd (ecS y LO sd mil n).toNat := by
  rcases eck_fact (t := cnT y LO sd) (ok := okE1 y LO sd mil) (co := cst y LO sd) n with h | h
  · exact Or.inl h
  · exact Or.inr ⟨h.1, h.2.1, cnT_iff.mp h.2.2⟩
theorem okE1_iff {sd : Nat} {mil : Int} {s : Nat} : okE1 y LO sd mil s = true ↔ enR (odB y LO sd s) mil (bcn (y 4).toNat 8) := by unfold okE1; exact @decide_eq_true_iff _ (Classical.propDecidable _)
theorem x_cheapL (hFu : 6000 ≤ Fu) {vb vs vsd vq : Int32} {a43 a44 a46 a47 a49 : Nat → Int32} (hW : WF y) (hB : BK y LO vb vs vsd vq a43 a44 a46 a47 a49) {sd : Nat} (hsd : sd < 2) {mil : Int} (m1 : 0 ≤ mil) (m2 : mil ≤ 1000000) :
    ∀ (d f s : Nat) (vot : Int32) (ways : Nat → Int64), s + d = (y 4).toNat + 1 → d < f → Rt (fX1_cheapest_L5 Fu f vb vs vsd vq a43 a44 a46 a47 vot ways (i32 (sd : Int)) (i32 mil) (i32 (ecS y LO sd mil s)) (i32 (s : Int))) (fun r => r.1 = i32 (ecS y LO sd mil 256)) := by
  obtain ⟨t, n, e4, e0, hn, hs1, hs, hb⟩ := hW.seats
  have evs := hB.2.1
  have evd := hB.2.2.2.1
  have b8 := bcn_le (y 4).toNat 8
  have p8 := pow100 b8
  intro d
  induction d with
  | zero =>
    intro f s vot ways hs hf
    obtain ⟨f, rfl⟩ : ∃ f', f = f' + 1 := ⟨f - 1, by omega⟩
    rw [fX1_cheapest_L5]
    refine Rt.ift (by rw [evs, i32_lt (by omega) (by omega) (by omega) (by omega)]; omega) (Rt.ret ?_)
    have e : ecS y LO sd mil 256 = ecS y LO sd mil s := by
      obtain rfl : s = (y 4).toNat + 1 := by omega
      have := eck_up (t := cnT y LO sd) (ok := okE1 y LO sd mil) (co := cst y LO sd) (N := (y 4).toNat + 1) (fun s hs => cnT_big hW (by omega)) (255 - (y 4).toNat)
      rw [show (y 4).toNat + 1 + (255 - (y 4).toNat) = 256 by omega] at this
      exact this
    rw [e]
  | succ d ih =>
    intro f s vot ways hs hf
    obtain ⟨f, rfl⟩ : ∃ f', f = f' + 1 := ⟨f - 1, by omega⟩
    have st := ec_step (y := y) (LO := LO) sd mil s
    have rf := ec_fact (y := y) (LO := LO) sd mil s
    have yes : ∀ vot ways, ecS y LO sd mil (s + 1) = (s : Int) → Rt (fX1_cheapest_L5 Fu f vb vs vsd vq a43 a44 a46 a47 vot ways (i32 (sd : Int)) (i32 mil) (i32 (s : Int)) (i32 (s : Int) + 1)) (fun r => r.1 = i32 (ecS y LO sd mil 256)) := by
      intro vot ways q
      have := ih f (s + 1) vot ways (by omega) (by omega)
      rw [q] at this
      rw [i32_p1]; exact this
    have no : ∀ vot ways, ecS y LO sd mil (s + 1) = ecS y LO sd mil s → Rt (fX1_cheapest_L5 Fu f vb vs vsd vq a43 a44 a46 a47 vot ways (i32 (sd : Int)) (i32 mil) (i32 (ecS y LO sd mil s)) (i32 (s : Int) + 1)) (fun r => r.1 = i32 (ecS y LO sd mil 256)) := by
      intro vot ways q
      have := ih f (s + 1) vot ways (by omega) (by omega)
      rw [q] at this
      rw [i32_p1]; exact this
    rw [fX1_cheapest_L5]
    refine Rt.iff (by rw [evs, i32_lt (by omega) (by omega) (by omega) (by omega)]; omega) ?_
    rw [x_canN hW hB hsd (by omega)]
    refine Rt.eqb rfl ?_
    by_cases cc : cnS y LO sd s
    · refine Rt.iff (by rw [bI_0]; exact fun q => q cc) ?_
      have cl := cn_lt hW cc
      have l45 : (ecS y LO sd mil s = -1 ∨ cst y LO sd s < cst y LO sd (ecS y LO sd mil s).toNat) → Rt (fX1_cheapest_L45 Fu (fX1_cheapest_L5 Fu f) vb vs vsd vq a43 a44 a46 a47 vot ways (i32 (sd : Int)) (i32 mil) (i32 (ecS y LO sd mil s)) (i32 (s : Int))) (fun r => r.1 = i32 (ecS y LO sd mil 256)) := by
        intro hch
        have od := od_le (LO := LO) hW (sd := sd) (s := s)
        have := Classical.propDecidable (enR (odB y LO sd s) mil (bcn (y 4).toNat 8))
        have l75 : ∀ vot ways, Rt (fX1_cheapest_L75 Fu (fX1_cheapest_L5 Fu f) vb vs vsd vq a43 a44 a46 a47 vot ways (i32 (sd : Int)) (i32 mil) (i32 (ecS y LO sd mil s)) (i32 (s : Int)) (i64 (odB y LO sd s))) (fun r => r.1 = i32 (ecS y LO sd mil 256)) := by
          intro vot ways
          unfold fX1_cheapest_L75
          have er := x_reaches hFu b8 od.1 od.2 m1 m2
          rw [← evd] at er
          rw [er]
          refine Rt.eqb rfl ?_
          by_cases q : enR (odB y LO sd s) mil (bcn (y 4).toNat 8)
          · refine Rt.iff (by rw [bI_0]; exact fun h => h q) (yes _ _ ?_)
            rw [st, if_pos ⟨cnT_iff.mpr cc, hch, okE1_iff.mpr q⟩]
          · refine Rt.ift (by rw [bI_0]; exact q) (no _ _ ?_)
            rw [st, if_neg (fun h => q (okE1_iff.mp h.2.2))]
        unfold fX1_cheapest_L45
        have wb := x_winBy (vot := vot) (ways := ways) hFu hW hB hsd (own := s) (other := 0) (by omega) (by omega)
        refine Rt.bind wb (fun r hr => ?_)
        rw [hr]
        have hs2 : sd = 0 ∨ sd = 1 := by omega
        rcases hs2 with rfl | rfl
        · exact Rt.ift rfl (l75 _ _)
        · refine Rt.iff (by decide) ?_
          have ep := x_power hFu b8
          rw [← evd] at ep
          rw [ep]
          refine Rt.eqb rfl ?_
          rw [i64_sub]
          exact l75 _ _
      by_cases c1 : ecS y LO sd mil s = -1
      · exact Rt.ift (by rw [c1]; rfl) (l45 (Or.inl c1))
      · refine Rt.iff (by rw [i32_m1, i32_eq (by omega) (by omega) (by omega) (by omega)]; exact c1) ?_
        rcases rf with rf | rf
        · exact absurd rf c1
        · have cl2 := cn_lt hW rf.2.2
          have cr := cst_rng (LO := LO) hW (sd := sd) (s := s)
          have cr2 := cst_rng (LO := LO) hW (sd := sd) (s := (ecS y LO sd mil s).toNat)
          have ec2 := x_cost hW hB hsd cl2.2.1
          rw [show (((ecS y LO sd mil s).toNat : Nat) : Int) = ecS y LO sd mil s by omega] at ec2
          rw [x_cost hW hB hsd cl.2.1, ec2]
          refine Rt.eqb rfl (Rt.eqb rfl ?_)
          by_cases c3 : cst y LO sd s < cst y LO sd (ecS y LO sd mil s).toNat
          · exact Rt.iff (by rw [i32_le (by omega) (by omega) (by omega) (by omega)]; omega) (l45 (Or.inr c3))
          · refine Rt.ift (by rw [i32_le (by omega) (by omega) (by omega) (by omega)]; omega) (no _ _ ?_)
            rw [st, if_neg (fun h => by rcases h.2.1 with h | h; · exact c1 h
                                        · exact c3 h)]
    · refine Rt.ift (by rw [bI_0]; exact cc) (no _ _ ?_)
      rw [st, if_neg (fun q => cc (cnT_iff.mp q.1))]
noncomputable def enoughS (y : Nat → Int) (LO : Option LwS) (sd mil w : Int) : Int := @ite Int ((0 ≤ sd ∧ sd ≤ 1) ∧ (0 ≤ mil ∧ mil ≤ 1000000) ∧ (0 ≤ w ∧ w ≤ 1)) _ (if ecS y LO sd.toNat mil 256 = -1 ∨ w = 0 then ecS y LO sd.toNat mil 256 else cst y LO sd.toNat (ecS y LO sd.toNat mil 256).toNat) (-1)
theorem v_enoughL (hFu : 6000 ≤ Fu) (hM : RM y row) (hW : WF y) {th lw : Int32} {set rs : Nat → Int64} {br : Int32} {val sum : Int64} {ch co pc : Nat → Int32} (hc : CH y LO (y 6).toNat ch) (hC : CT y LO co) {sd : Nat} (hsd : sd < 2) {mil w : Int} (m1 : 0 ≤ mil) (m2 : mil ≤ 1000000) (hw : w = 0 ∨ w = 1) :
    ∀ (d f s : Nat) (vs : Nat → Int64), s + d = 256 → d < f → Rt (fX12_enough_L57 Fu f th row lw set rs br val sum ch vs co pc (i32 (sd : Int)) (i32 mil) (i32 w) (i32 ((bcn (y 4).toNat 8 : Nat) : Int)) (i32 (ecS y LO sd mil s)) (i32 (s : Int))) (fun r => r.1 = i32 (if ecS y LO sd mil 256 = -1 ∨ w = 0 then ecS y LO sd mil 256 else cst y LO sd (ecS y LO sd mil 256).toNat)) := by
  have b8 := bcn_le (y 4).toNat 8
  have p8 := pow100 b8
  intro d
  induction d with
  | zero =>
    intro f s vs hs hf
    obtain ⟨f, rfl⟩ : ∃ f', f = f' + 1 := ⟨f - 1, by omega⟩
    obtain rfl : s = 256 := by omega
    have rf := ec_fact (y := y) (LO := LO) sd mil 256
    rw [fX12_enough_L57]
    refine Rt.ift (by decide) ?_
    by_cases c1 : ecS y LO sd mil 256 = -1
    · refine Rt.ift (by rw [c1]; rfl) (Rt.ret ?_)
      rw [if_pos (Or.inl c1), c1]; rfl
    · refine Rt.iff (by rw [i32_m1, i32_eq (by omega) (by omega) (by omega) (by omega)]; exact c1) ?_
      rcases hw with rfl | rfl
      · refine Rt.ift rfl (Rt.ret ?_)
        rw [if_pos (Or.inr rfl)]
      · refine Rt.iff (by decide) ?_
        rcases rf with rf | rf
        · exact absurd rf c1
        · rw [show i32 (ecS y LO sd mil 256) = i32 (((ecS y LO sd mil 256).toNat : Nat) : Int) by congr 1; omega, show (256 : Int32) * i32 (sd : Int) + i32 (((ecS y LO sd mil 256).toNat : Nat) : Int) = i32 ((256 * sd + (ecS y LO sd mil 256).toNat : Nat) : Int) by rw [i32_litN 256, i32_mul, i32_add]; congr 1 <;> omega, gd_ok (by omega) (by omega) (by omega), i32_nat (by omega) (by omega), Int.toNat_natCast, hC sd _ hsd (by omega)]
          refine Rt.ret ?_
          rw [if_neg (by omega)]
  | succ d ih =>
    intro f s vs hs hf
    obtain ⟨f, rfl⟩ : ∃ f', f = f' + 1 := ⟨f - 1, by omega⟩
    have st := ec_step (y := y) (LO := LO) sd mil s
    have rf := ec_fact (y := y) (LO := LO) sd mil s
    have yes : ∀ vs, ecS y LO sd mil (s + 1) = (s : Int) → Rt (fX12_enough_L57 Fu f th row lw set rs br val sum ch vs co pc (i32 (sd : Int)) (i32 mil) (i32 w) (i32 ((bcn (y 4).toNat 8 : Nat) : Int)) (i32 (s : Int)) (i32 (s : Int) + 1)) (fun r => r.1 = i32 (if ecS y LO sd mil 256 = -1 ∨ w = 0 then ecS y LO sd mil 256 else cst y LO sd (ecS y LO sd mil 256).toNat)) := by
      intro vs q
      have := ih f (s + 1) vs (by omega) (by omega)
      rw [q] at this
      rw [i32_p1]; exact this
    have no : ∀ vs, ecS y LO sd mil (s + 1) = ecS y LO sd mil s → Rt (fX12_enough_L57 Fu f th row lw set rs br val sum ch vs co pc (i32 (sd : Int)) (i32 mil) (i32 w) (i32 ((bcn (y 4).toNat 8 : Nat) : Int)) (i32 (ecS y LO sd mil s)) (i32 (s : Int) + 1)) (fun r => r.1 = i32 (if ecS y LO sd mil 256 = -1 ∨ w = 0 then ecS y LO sd mil 256 else cst y LO sd (ecS y LO sd mil 256).toNat)) := by
      intro vs q
      have := ih f (s + 1) vs (by omega) (by omega)
      rw [q] at this
      rw [i32_p1]; exact this
    rw [fX12_enough_L57]
    refine Rt.iff (by rw [i32_litN 256, i32_le (by omega) (by omega) (by omega) (by omega)]; omega) ?_
    rw [v_canN hM hW hC hsd (by omega)]
    refine Rt.eqb rfl ?_
    by_cases cc : cnS y LO sd s
    · refine Rt.iff (by rw [bI_0]; exact fun q => q cc) ?_
      have od := od_le (LO := LO) hW (sd := sd) (s := s)
      have := Classical.propDecidable (enR (odB y LO sd s) mil (bcn (y 4).toNat 8))
      have l122 : ∀ vs, Rt (fX12_enough_L122 Fu (fX12_enough_L57 Fu f) th row lw set rs br val sum ch vs co pc (i32 (sd : Int)) (i32 mil) (i32 w) (i32 ((bcn (y 4).toNat 8 : Nat) : Int)) (i32 (ecS y LO sd mil s)) (i32 (s : Int)) (i64 (odB y LO sd s))) (fun r => r.1 = i32 (if ecS y LO sd mil 256 = -1 ∨ w = 0 then ecS y LO sd mil 256 else cst y LO sd (ecS y LO sd mil 256).toNat)) := by
        intro vs
        have l164y : (ecS y LO sd mil s = -1 ∨ cst y LO sd s < cst y LO sd (ecS y LO sd mil s).toNat) → Rt (fX12_enough_L164 Fu (fX12_enough_L57 Fu f) th row lw set rs br val sum ch vs co pc (i32 (sd : Int)) (i32 mil) (i32 w) (i32 ((bcn (y 4).toNat 8 : Nat) : Int)) (i32 (ecS y LO sd mil s)) (i32 (s : Int)) (i64 (odB y LO sd s)) 1) (fun r => r.1 = i32 (if ecS y LO sd mil 256 = -1 ∨ w = 0 then ecS y LO sd mil 256 else cst y LO sd (ecS y LO sd mil 256).toNat)) := by
          intro hch
          unfold fX12_enough_L164 fX12_enough_L187 fX12_enough_L189
          refine Rt.iff (by decide) ?_
          rw [v_enough hFu b8 od.1 od.2 m1 m2]
          refine Rt.eqb rfl ?_
          by_cases q : enR (odB y LO sd s) mil (bcn (y 4).toNat 8)
          · refine Rt.iff (by rw [bI_0]; exact fun h => h q) (yes _ ?_)
            rw [st, if_pos ⟨cnT_iff.mpr cc, hch, okE1_iff.mpr q⟩]
          · refine Rt.ift (by rw [bI_0]; exact q) (no _ ?_)
            rw [st, if_neg (fun h => q (okE1_iff.mp h.2.2))]
        unfold fX12_enough_L122
        by_cases c1 : ecS y LO sd mil s = -1
        · exact Rt.ift (by rw [c1]; rfl) (l164y (Or.inl c1))
        · refine Rt.iff (by rw [i32_m1, i32_eq (by omega) (by omega) (by omega) (by omega)]; exact c1) ?_
          rcases rf with rf | rf
          · exact absurd rf c1
          · have cr := cst_rng (LO := LO) hW (sd := sd) (s := s)
            have cr2 := cst_rng (LO := LO) hW (sd := sd) (s := (ecS y LO sd mil s).toNat)
            have ee : (256 : Int32) * i32 (sd : Int) + i32 (ecS y LO sd mil s) = i32 ((256 * sd + (ecS y LO sd mil s).toNat : Nat) : Int) := by rw [i32_litN 256, i32_mul, i32_add]; congr 1; omega
            rw [ee, show (256 : Int32) * i32 (sd : Int) + i32 (s : Int) = i32 ((256 * sd + s : Nat) : Int) by rw [i32_litN 256, i32_mul, i32_add]; congr 1 <;> omega, gd_ok (by omega) (by omega) (by omega), gd_ok (by omega) (by omega) (by omega), i32_nat (by omega) (by omega), i32_nat (by omega) (by omega), Int.toNat_natCast, Int.toNat_natCast, hC sd _ hsd (by omega), hC sd s hsd (by omega)]
            by_cases c3 : cst y LO sd s < cst y LO sd (ecS y LO sd mil s).toNat
            · exact Rt.iff (by rw [i32_le (by omega) (by omega) (by omega) (by omega)]; omega) (l164y (Or.inr c3))
            · refine Rt.ift (by rw [i32_le (by omega) (by omega) (by omega) (by omega)]; omega) ?_
              unfold fX12_enough_L164 fX12_enough_L187 fX12_enough_L189
              refine Rt.ift rfl (no _ ?_)
              rw [st, if_neg (fun h => by rcases h.2.1 with h | h; · exact c1 h
                                          · exact c3 h)]
      have r4 : row (4 : Int32).toNatClampNeg = i32 (y 4) := hM 4 (by omega)
      have hs2 : sd = 0 ∨ sd = 1 := by omega
      rcases hs2 with rfl | rfl
      · refine Rt.ift rfl ?_
        rw [gd9 (by decide) (by decide), v_quota hM, r4]
        refine Rt.eqb rfl ?_
        have := v_winsS (vs := vs) hFu hM hW hc (z := s) (o := 0) (by omega) (by omega)
        refine Rt.bind this (fun r hr => ?_)
        rw [hr]; exact l122 _
      · refine Rt.iff (by decide) ?_
        rw [v_power hFu (by omega)]
        refine Rt.eqb rfl ?_
        rw [gd9 (by decide) (by decide), v_quota hM, r4]
        refine Rt.eqb rfl ?_
        have := v_winsS (vs := vs) hFu hM hW hc (z := 0) (o := s) (by omega) (by omega)
        refine Rt.bind this (fun r hr => ?_)
        rw [hr, i64_sub]; exact l122 _
    · refine Rt.ift (by rw [bI_0]; exact cc) (no _ ?_)
      rw [st, if_neg (fun q => cc (cnT_iff.mp q.1))]
theorem m_enough (hFu : 6000 ≤ Fu) (hM : RM y row) (hW : WF y) (hO : MO y LO) {th lw : Int32} {set rs : Nat → Int64} {br : Int32} {val sum : Int64} {ch co pc : Nat → Int32} {vs : Nat → Int64} {sd mil w : Int} (s1 : -2147483648 ≤ sd) (s2 : sd ≤ 2147483647) (o1 : -2147483648 ≤ mil) (o2 : mil ≤ 2147483647) (w1 : -2147483648 ≤ w) (w2 : w ≤ 2147483647) :
    Rt (fX12_enough Fu th row lw set rs br val sum ch vs co pc (i32 sd) (i32 mil) (i32 w)) (fun r => r.1 = i32 (enoughS y LO sd mil w)) := by
  obtain ⟨t, n, e4, e0, hn, hs1, hs, hb⟩ := hW.seats
  have eN : ¬ ((0 ≤ sd ∧ sd ≤ 1) ∧ (0 ≤ mil ∧ mil ≤ 1000000) ∧ (0 ≤ w ∧ w ≤ 1)) → enoughS y LO sd mil w = -1 := fun q => if_neg q
  have eY : ((0 ≤ sd ∧ sd ≤ 1) ∧ (0 ≤ mil ∧ mil ≤ 1000000) ∧ (0 ≤ w ∧ w ≤ 1)) → enoughS y LO sd mil w = (if ecS y LO sd.toNat mil 256 = -1 ∨ w = 0 then ecS y LO sd.toNat mil 256 else cst y LO sd.toNat (ecS y LO sd.toNat mil 256).toNat) := fun q => if_pos q
  have eb : fX12_bits Fu (i32 (y 4)) = some (i32 ((bcn (y 4).toNat 8 : Nat) : Int)) := by rw [e4, Int.toNat_natCast]; exact v_bits hFu hs
  unfold fX12_enough
  rw [v_isSide sd s1 s2]
  simp (disch := omega) only [i32_64, i64_lit, v_in]
  refine Rt.eqb rfl ?_
  by_cases cs : 0 ≤ sd ∧ sd ≤ 1
  · refine Rt.iff (by rw [bI_0]; exact fun q => q cs) (Rt.eqb rfl ?_)
    by_cases cm : 0 ≤ mil ∧ mil ≤ 1000000
    · refine Rt.iff (by rw [bI_0]; exact fun q => q cm) (Rt.eqb rfl ?_)
      by_cases cw : 0 ≤ w ∧ w ≤ 1
      · refine Rt.iff (by rw [bI_0]; exact fun q => q cw) ?_
        rw [eY ⟨cs, cm, cw⟩]
        obtain ⟨sd, rfl⟩ := Int.eq_ofNat_of_zero_le cs.1
        rw [Int.toNat_natCast]
        refine Rt.bind (v_layBribes hFu hM hW hO) (fun r hr => ?_)
        rw [gd9 (by decide) (by decide), show row (4 : Int32).toNatClampNeg = i32 (y 4) from hM 4 (by omega), eb]
        refine Rt.eqb rfl ?_
        exact v_enoughL hFu hM hW hr.1 hr.2 (by omega) cm.1 cm.2 (by omega) 256 Fu 0 vs (by omega) (by omega)
      · refine Rt.ift (by rw [bI_0]; exact cw) ?_
        rw [eN (fun q => cw q.2.2)]; exact Rt.ret rfl
    · refine Rt.ift (by rw [bI_0]; exact cm) ?_
      rw [eN (fun q => cm q.2.1)]; exact Rt.ret rfl
  · refine Rt.ift (by rw [bI_0]; exact cs) ?_
    rw [eN (fun q => cs q.1)]; exact Rt.ret rfl
theorem c_reply_N (hFu : 6000 ≤ Fu) {a5 : Nat → Option Nat} (hW : WF y) (hX : RX y beasts meals seats laws inForce tr mh te cases rs ju vo) (hH : HN y LO) {vb vs vsd vq kn sv : Int32} {a43 a44 a45 a46 a47 a49 : Nat → Int32} {a48 : Nat → Int64} (hC : CI y LO vb vs vsd vq kn sv a43 a44 a46 a47 a48 a49) (a38 : Nat → Int32) (vot : Int32) (ways : Nat → Int64) {sd o w : Int} (s1 : -2147483648 ≤ sd) (s2 : sd ≤ 2147483647) (o1 : -2147483648 ≤ o) (o2 : o ≤ 2147483647) (w1 : -2147483648 ≤ w) (w2 : w ≤ 2147483647) :
    Rt (fX11_reply_N Fu beasts seats laws inForce tr mh te a5 a38 vb vs vsd vq kn sv a43 a44 a45 a46 a47 a49 vot ways (i32 sd) (i32 o) (i32 w)) (fun r => r.1 = i32 (replyS y LO sd o w) ∧ CI y LO r.2.2.1 r.2.2.2.1 r.2.2.2.2.1 r.2.2.2.2.2.1 r.2.2.2.2.2.2.1 r.2.2.2.2.2.2.2.1 r.2.2.2.2.2.2.2.2.1 r.2.2.2.2.2.2.2.2.2.1 r.2.2.2.2.2.2.2.2.2.2.2.1 r.2.2.2.2.2.2.2.2.2.2.2.2.1 a48 r.2.2.2.2.2.2.2.2.2.2.2.2.2.1) := by
  have eN : ¬ ((0 ≤ sd ∧ sd ≤ 1) ∧ (0 ≤ w ∧ w ≤ 1) ∧ (0 ≤ o ∧ cnS y LO (1 - sd.toNat) o.toNat)) → replyS y LO sd o w = -1 := fun q => if_neg q
  have eY : ((0 ≤ sd ∧ sd ≤ 1) ∧ (0 ≤ w ∧ w ≤ 1) ∧ (0 ≤ o ∧ cnS y LO (1 - sd.toNat) o.toNat)) → replyS y LO sd o w = (if w = 0 then rpS y LO sd.toNat o.toNat 256 else cst y LO sd.toNat (rpS y LO sd.toNat o.toNat 256).toNat) := fun q => if_pos q
  unfold fX11_reply_N
  rw [x_isSide sd s1 s2, x_isEither w w1 w2]
  refine Rt.eqb rfl ?_
  by_cases cs : 0 ≤ sd ∧ sd ≤ 1
  · refine Rt.iff (by rw [bI_0]; exact fun q => q cs) (Rt.eqb rfl ?_)
    by_cases cw : 0 ≤ w ∧ w ≤ 1
    · refine Rt.iff (by rw [bI_0]; exact fun q => q cw) ?_
      obtain ⟨sd, rfl⟩ := Int.eq_ofNat_of_zero_le cs.1
      rw [Int.toNat_natCast] at eN eY
      refine Rt.bind (x_learnB_N (Q := fun sv => sv = 0 ∨ sv = 1 ∧ SV y LO a48) hFu hW hX hH a38 hC (Or.inl rfl)) (fun r hr => ?_)
      obtain ⟨g1, g2, g3⟩ := hr
      rw [show (1 : Int32) - i32 (sd : Int) = i32 ((1 - sd : Nat) : Int) by rw [i32_litN 1, i32_sub]; congr 1; omega, x_can hW g3 (sd := 1 - sd) (by omega) o1 o2]
      refine Rt.eqb rfl ?_
      by_cases cc : 0 ≤ o ∧ cnS y LO (1 - sd) o.toNat
      · refine Rt.iff (by rw [bI_0]; exact fun q => q cc) ?_
        have cl := cn_lt hW cc.2
        obtain ⟨o, rfl⟩ := Int.eq_ofNat_of_zero_le cc.1
        rw [Int.toNat_natCast] at cl eY
        rw [eY ⟨cs, cw, by omega, by have := cc.2; rw [Int.toNat_natCast] at this; exact this⟩]
        have hro := rp_ok (LO := LO) hW (sd := sd) (o := o) (by omega)
        have cl2 := cn_lt hW hro.2.2
        have e2 : ((2 ^ (y 0).toNat : Nat) : Int) = 2 ^ (y 0).toNat := by simp
        refine Rt.bind (x_replyL hFu hW g3 (sd := sd) (other := o) (by omega) (by omega) ((y 4).toNat + 1) Fu 0 vot ways 0 (-9223372036854775808) (by omega) (by have := cn_lt hW (cn_0 (LO := LO) hW (sd := 0) (by omega)); have hs4 := hW.seats; obtain ⟨t, n, e4, e0, hn, hs1, hs, hb⟩ := hs4; omega) (Or.inl ⟨rfl, rfl, rfl⟩)) (fun r2 hr2 => ?_)
        rw [hr2, x_toldB hW g3 (by omega) (by omega) (by omega) (by omega)]
        refine Rt.eqb rfl (Rt.ret ⟨?_, Or.inr ⟨g1, g3, g2⟩⟩)
        by_cases c0 : w = 0
        · rw [if_pos c0, if_pos (Or.inr c0)]
        · rw [if_neg c0, if_neg (by omega)]
      · refine Rt.ift (by rw [bI_0]; exact cc) ?_
        rw [eN (fun q => cc q.2.2)]; exact Rt.ret ⟨rfl, Or.inr ⟨g1, g3, g2⟩⟩
    · refine Rt.ift (by rw [bI_0]; exact cw) ?_
      rw [eN (fun q => cw q.2.1)]; exact Rt.ret ⟨rfl, hC⟩
  · refine Rt.ift (by rw [bI_0]; exact cs) ?_
    rw [eN (fun q => cs q.1)]; exact Rt.ret ⟨rfl, hC⟩
theorem c_enough_N (hFu : 6000 ≤ Fu) {a5 : Nat → Option Nat} (hW : WF y) (hX : RX y beasts meals seats laws inForce tr mh te cases rs ju vo) (hH : HN y LO) {vb vs vsd vq kn sv : Int32} {a43 a44 a45 a46 a47 a49 : Nat → Int32} {a48 : Nat → Int64} (hC : CI y LO vb vs vsd vq kn sv a43 a44 a46 a47 a48 a49) (a38 : Nat → Int32) (vot : Int32) (ways : Nat → Int64) {sd mil w : Int} (s1 : -2147483648 ≤ sd) (s2 : sd ≤ 2147483647) (o1 : -2147483648 ≤ mil) (o2 : mil ≤ 2147483647) (w1 : -2147483648 ≤ w) (w2 : w ≤ 2147483647) :
    Rt (fX11_enough_N Fu beasts seats laws inForce tr mh te a5 a38 vb vs vsd vq kn sv a43 a44 a45 a46 a47 a49 vot ways (i32 sd) (i32 mil) (i32 w)) (fun r => r.1 = i32 (enoughS y LO sd mil w) ∧ CI y LO r.2.2.1 r.2.2.2.1 r.2.2.2.2.1 r.2.2.2.2.2.1 r.2.2.2.2.2.2.1 r.2.2.2.2.2.2.2.1 r.2.2.2.2.2.2.2.2.1 r.2.2.2.2.2.2.2.2.2.1 r.2.2.2.2.2.2.2.2.2.2.2.1 r.2.2.2.2.2.2.2.2.2.2.2.2.1 a48 r.2.2.2.2.2.2.2.2.2.2.2.2.2.1) := by
  have eN : ¬ ((0 ≤ sd ∧ sd ≤ 1) ∧ (0 ≤ mil ∧ mil ≤ 1000000) ∧ (0 ≤ w ∧ w ≤ 1)) → enoughS y LO sd mil w = -1 := fun q => if_neg q
  have eY : ((0 ≤ sd ∧ sd ≤ 1) ∧ (0 ≤ mil ∧ mil ≤ 1000000) ∧ (0 ≤ w ∧ w ≤ 1)) → enoughS y LO sd mil w = (if ecS y LO sd.toNat mil 256 = -1 ∨ w = 0 then ecS y LO sd.toNat mil 256 else cst y LO sd.toNat (ecS y LO sd.toNat mil 256).toNat) := fun q => if_pos q
  unfold fX11_enough_N
  rw [x_isSide sd s1 s2, x_isEither w w1 w2]
  refine Rt.eqb rfl ?_
  by_cases cs : 0 ≤ sd ∧ sd ≤ 1
  · refine Rt.iff (by rw [bI_0]; exact fun q => q cs) ?_
    by_cases cm : 0 ≤ mil ∧ mil ≤ 1000000
    · refine Rt.iff (by rw [i32_litN 0, i32_lt (by omega) (by omega) (by omega) (by omega)]; omega) (Rt.iff (by rw [i32_litN 1000000, i32_lt (by omega) (by omega) (by omega) (by omega)]; omega) (Rt.eqb rfl ?_))
      by_cases cw : 0 ≤ w ∧ w ≤ 1
      · refine Rt.iff (by rw [bI_0]; exact fun q => q cw) ?_
        rw [eY ⟨cs, cm, cw⟩]
        obtain ⟨sd, rfl⟩ := Int.eq_ofNat_of_zero_le cs.1
        rw [Int.toNat_natCast]
        refine Rt.bind (x_learnB_N (Q := fun sv => sv = 0 ∨ sv = 1 ∧ SV y LO a48) hFu hW hX hH a38 hC (Or.inl rfl)) (fun r hr => ?_)
        obtain ⟨g1, g2, g3⟩ := hr
        have hs4 := hW.seats
        obtain ⟨t, n, e4, e0, hn, hs1, hs, hb⟩ := hs4
        refine Rt.bind (x_cheapL hFu hW g3 (sd := sd) (by omega) cm.1 cm.2 ((y 4).toNat + 1) Fu 0 vot ways (by omega) (by omega)) (fun r2 hr2 => ?_)
        have rf := ec_fact (y := y) (LO := LO) sd mil 256
        have e2 : ((2 ^ (y 0).toNat : Nat) : Int) = 2 ^ (y 0).toNat := by simp
        have lt : ecS y LO sd mil 256 < 2 ^ (y 0).toNat := by
          rcases rf with rf | rf
          · have := Nat.pow_pos (n := (y 0).toNat) (show 0 < 2 by omega); omega
          · have := cn_lt hW rf.2.2; omega
        rw [hr2, x_toldB hW g3 (by omega) (by omega) lt (by omega)]
        exact Rt.eqb rfl (Rt.ret ⟨rfl, Or.inr ⟨g1, g3, g2⟩⟩)
      · refine Rt.ift (by rw [bI_0]; exact cw) ?_
        rw [eN (fun q => cw q.2.2)]; exact Rt.ret ⟨rfl, hC⟩
    · rw [eN (fun q => cm q.2.1)]
      refine Rt.ite (fun _ => Rt.ret ⟨rfl, hC⟩) (fun c => Rt.ift ?_ (Rt.ret ⟨rfl, hC⟩))
      rw [i32_litN 0, i32_lt (by omega) (by omega) (by omega) (by omega)] at c
      rw [i32_litN 1000000, i32_lt (by omega) (by omega) (by omega) (by omega)]; omega
  · refine Rt.ift (by rw [bI_0]; exact cs) ?_
    rw [eN (fun q => cs q.1)]; exact Rt.ret ⟨rfl, hC⟩
theorem c_reply_L (hFu : 6000 ≤ Fu) {nh nt ne ns bb q : Nat} {a5 : Nat → Option Nat} {aL1 aL2 aL3 aL4 : Nat → Int32} (hW : WF y) (hX : RX y beasts meals seats laws inForce tr mh te cases rs ju vo) (hH : HL y LO nh nt ne ns bb q a5 aL1 aL2 aL3 aL4) {vb vs vsd vq kn sv : Int32} {a43 a44 a45 a46 a47 a49 : Nat → Int32} {a48 : Nat → Int64} (hC : CI y LO vb vs vsd vq kn sv a43 a44 a46 a47 a48 a49) (ht : Int32) (an : Int64) (a38 : Nat → Int32) (a39 : Nat → Int64) (vot : Int32) (ways : Nat → Int64) {sd o w : Int} (s1 : -2147483648 ≤ sd) (s2 : sd ≤ 2147483647) (o1 : -2147483648 ≤ o) (o2 : o ≤ 2147483647) (w1 : -2147483648 ≤ w) (w2 : w ≤ 2147483647) :
    Rt (fX11_reply_L Fu nh nt ne ns bb q beasts seats laws inForce tr mh te a5 ht an a38 a39 vb vs vsd vq kn sv a43 a44 a45 a46 a47 a49 vot ways aL1 aL2 aL3 aL4 (i32 sd) (i32 o) (i32 w)) (fun r => r.1 = i32 (replyS y LO sd o w) ∧ CI y LO r.2.2.2.2.2.1 r.2.2.2.2.2.2.1 r.2.2.2.2.2.2.2.1 r.2.2.2.2.2.2.2.2.1 r.2.2.2.2.2.2.2.2.2.1 r.2.2.2.2.2.2.2.2.2.2.1 r.2.2.2.2.2.2.2.2.2.2.2.1 r.2.2.2.2.2.2.2.2.2.2.2.2.1 r.2.2.2.2.2.2.2.2.2.2.2.2.2.2.1 r.2.2.2.2.2.2.2.2.2.2.2.2.2.2.2.1 a48 r.2.2.2.2.2.2.2.2.2.2.2.2.2.2.2.2.1) := by
  have eN : ¬ ((0 ≤ sd ∧ sd ≤ 1) ∧ (0 ≤ w ∧ w ≤ 1) ∧ (0 ≤ o ∧ cnS y LO (1 - sd.toNat) o.toNat)) → replyS y LO sd o w = -1 := fun q => if_neg q
  have eY : ((0 ≤ sd ∧ sd ≤ 1) ∧ (0 ≤ w ∧ w ≤ 1) ∧ (0 ≤ o ∧ cnS y LO (1 - sd.toNat) o.toNat)) → replyS y LO sd o w = (if w = 0 then rpS y LO sd.toNat o.toNat 256 else cst y LO sd.toNat (rpS y LO sd.toNat o.toNat 256).toNat) := fun q => if_pos q
  unfold fX11_reply_L
  rw [x_isSide sd s1 s2, x_isEither w w1 w2]
  refine Rt.eqb rfl ?_
  by_cases cs : 0 ≤ sd ∧ sd ≤ 1
  · refine Rt.iff (by rw [bI_0]; exact fun q => q cs) (Rt.eqb rfl ?_)
    by_cases cw : 0 ≤ w ∧ w ≤ 1
    · refine Rt.iff (by rw [bI_0]; exact fun q => q cw) ?_
      obtain ⟨sd, rfl⟩ := Int.eq_ofNat_of_zero_le cs.1
      rw [Int.toNat_natCast] at eN eY
      refine Rt.bind (x_learnB_L (Q := fun sv => sv = 0 ∨ sv = 1 ∧ SV y LO a48) hFu hW hX hH ht an a38 a39 hC (Or.inl rfl)) (fun r hr => ?_)
      obtain ⟨g1, g2, g3⟩ := hr
      rw [show (1 : Int32) - i32 (sd : Int) = i32 ((1 - sd : Nat) : Int) by rw [i32_litN 1, i32_sub]; congr 1; omega, x_can hW g3 (sd := 1 - sd) (by omega) o1 o2]
      refine Rt.eqb rfl ?_
      by_cases cc : 0 ≤ o ∧ cnS y LO (1 - sd) o.toNat
      · refine Rt.iff (by rw [bI_0]; exact fun q => q cc) ?_
        have cl := cn_lt hW cc.2
        obtain ⟨o, rfl⟩ := Int.eq_ofNat_of_zero_le cc.1
        rw [Int.toNat_natCast] at cl eY
        rw [eY ⟨cs, cw, by omega, by have := cc.2; rw [Int.toNat_natCast] at this; exact this⟩]
        have hro := rp_ok (LO := LO) hW (sd := sd) (o := o) (by omega)
        have cl2 := cn_lt hW hro.2.2
        have e2 : ((2 ^ (y 0).toNat : Nat) : Int) = 2 ^ (y 0).toNat := by simp
        refine Rt.bind (x_replyL hFu hW g3 (sd := sd) (other := o) (by omega) (by omega) ((y 4).toNat + 1) Fu 0 vot ways 0 (-9223372036854775808) (by omega) (by have := cn_lt hW (cn_0 (LO := LO) hW (sd := 0) (by omega)); have hs4 := hW.seats; obtain ⟨t, n, e4, e0, hn, hs1, hs, hb⟩ := hs4; omega) (Or.inl ⟨rfl, rfl, rfl⟩)) (fun r2 hr2 => ?_)
        rw [hr2, x_toldB hW g3 (by omega) (by omega) (by omega) (by omega)]
        refine Rt.eqb rfl (Rt.ret ⟨?_, Or.inr ⟨g1, g3, g2⟩⟩)
        by_cases c0 : w = 0
        · rw [if_pos c0, if_pos (Or.inr c0)]
        · rw [if_neg c0, if_neg (by omega)]
      · refine Rt.ift (by rw [bI_0]; exact cc) ?_
        rw [eN (fun q => cc q.2.2)]; exact Rt.ret ⟨rfl, Or.inr ⟨g1, g3, g2⟩⟩
    · refine Rt.ift (by rw [bI_0]; exact cw) ?_
      rw [eN (fun q => cw q.2.1)]; exact Rt.ret ⟨rfl, hC⟩
  · refine Rt.ift (by rw [bI_0]; exact cs) ?_
    rw [eN (fun q => cs q.1)]; exact Rt.ret ⟨rfl, hC⟩
theorem c_enough_L (hFu : 6000 ≤ Fu) {nh nt ne ns bb q : Nat} {a5 : Nat → Option Nat} {aL1 aL2 aL3 aL4 : Nat → Int32} (hW : WF y) (hX : RX y beasts meals seats laws inForce tr mh te cases rs ju vo) (hH : HL y LO nh nt ne ns bb q a5 aL1 aL2 aL3 aL4) {vb vs vsd vq kn sv : Int32} {a43 a44 a45 a46 a47 a49 : Nat → Int32} {a48 : Nat → Int64} (hC : CI y LO vb vs vsd vq kn sv a43 a44 a46 a47 a48 a49) (ht : Int32) (an : Int64) (a38 : Nat → Int32) (a39 : Nat → Int64) (vot : Int32) (ways : Nat → Int64) {sd mil w : Int} (s1 : -2147483648 ≤ sd) (s2 : sd ≤ 2147483647) (o1 : -2147483648 ≤ mil) (o2 : mil ≤ 2147483647) (w1 : -2147483648 ≤ w) (w2 : w ≤ 2147483647) :
    Rt (fX11_enough_L Fu nh nt ne ns bb q beasts seats laws inForce tr mh te a5 ht an a38 a39 vb vs vsd vq kn sv a43 a44 a45 a46 a47 a49 vot ways aL1 aL2 aL3 aL4 (i32 sd) (i32 mil) (i32 w)) (fun r => r.1 = i32 (enoughS y LO sd mil w) ∧ CI y LO r.2.2.2.2.2.1 r.2.2.2.2.2.2.1 r.2.2.2.2.2.2.2.1 r.2.2.2.2.2.2.2.2.1 r.2.2.2.2.2.2.2.2.2.1 r.2.2.2.2.2.2.2.2.2.2.1 r.2.2.2.2.2.2.2.2.2.2.2.1 r.2.2.2.2.2.2.2.2.2.2.2.2.1 r.2.2.2.2.2.2.2.2.2.2.2.2.2.2.1 r.2.2.2.2.2.2.2.2.2.2.2.2.2.2.2.1 a48 r.2.2.2.2.2.2.2.2.2.2.2.2.2.2.2.2.1) := by
  have eN : ¬ ((0 ≤ sd ∧ sd ≤ 1) ∧ (0 ≤ mil ∧ mil ≤ 1000000) ∧ (0 ≤ w ∧ w ≤ 1)) → enoughS y LO sd mil w = -1 := fun q => if_neg q
  have eY : ((0 ≤ sd ∧ sd ≤ 1) ∧ (0 ≤ mil ∧ mil ≤ 1000000) ∧ (0 ≤ w ∧ w ≤ 1)) → enoughS y LO sd mil w = (if ecS y LO sd.toNat mil 256 = -1 ∨ w = 0 then ecS y LO sd.toNat mil 256 else cst y LO sd.toNat (ecS y LO sd.toNat mil 256).toNat) := fun q => if_pos q
  unfold fX11_enough_L
  rw [x_isSide sd s1 s2, x_isEither w w1 w2]
  refine Rt.eqb rfl ?_
  by_cases cs : 0 ≤ sd ∧ sd ≤ 1
  · refine Rt.iff (by rw [bI_0]; exact fun q => q cs) ?_
    by_cases cm : 0 ≤ mil ∧ mil ≤ 1000000
    · refine Rt.iff (by rw [i32_litN 0, i32_lt (by omega) (by omega) (by omega) (by omega)]; omega) (Rt.iff (by rw [i32_litN 1000000, i32_lt (by omega) (by omega) (by omega) (by omega)]; omega) (Rt.eqb rfl ?_))
      by_cases cw : 0 ≤ w ∧ w ≤ 1
      · refine Rt.iff (by rw [bI_0]; exact fun q => q cw) ?_
        rw [eY ⟨cs, cm, cw⟩]
        obtain ⟨sd, rfl⟩ := Int.eq_ofNat_of_zero_le cs.1
        rw [Int.toNat_natCast]
        refine Rt.bind (x_learnB_L (Q := fun sv => sv = 0 ∨ sv = 1 ∧ SV y LO a48) hFu hW hX hH ht an a38 a39 hC (Or.inl rfl)) (fun r hr => ?_)
        obtain ⟨g1, g2, g3⟩ := hr
        have hs4 := hW.seats
        obtain ⟨t, n, e4, e0, hn, hs1, hs, hb⟩ := hs4
        refine Rt.bind (x_cheapL hFu hW g3 (sd := sd) (by omega) cm.1 cm.2 ((y 4).toNat + 1) Fu 0 vot ways (by omega) (by omega)) (fun r2 hr2 => ?_)
        have rf := ec_fact (y := y) (LO := LO) sd mil 256
        have e2 : ((2 ^ (y 0).toNat : Nat) : Int) = 2 ^ (y 0).toNat := by simp
        have lt : ecS y LO sd mil 256 < 2 ^ (y 0).toNat := by
          rcases rf with rf | rf
          · have := Nat.pow_pos (n := (y 0).toNat) (show 0 < 2 by omega); omega
          · have := cn_lt hW rf.2.2; omega
        rw [hr2, x_toldB hW g3 (by omega) (by omega) lt (by omega)]
        exact Rt.eqb rfl (Rt.ret ⟨rfl, Or.inr ⟨g1, g3, g2⟩⟩)
      · refine Rt.ift (by rw [bI_0]; exact cw) ?_
        rw [eN (fun q => cw q.2.2)]; exact Rt.ret ⟨rfl, hC⟩
    · rw [eN (fun q => cm q.2.1)]
      refine Rt.ite (fun _ => Rt.ret ⟨rfl, hC⟩) (fun c => Rt.ift ?_ (Rt.ret ⟨rfl, hC⟩))
      rw [i32_litN 0, i32_lt (by omega) (by omega) (by omega) (by omega)] at c
      rw [i32_litN 1000000, i32_lt (by omega) (by omega) (by omega) (by omega)]; omega
  · refine Rt.ift (by rw [bI_0]; exact cs) ?_
    rw [eN (fun q => cs q.1)]; exact Rt.ret ⟨rfl, hC⟩
end BRIB4
