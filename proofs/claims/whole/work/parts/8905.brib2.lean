/-! ===== bribery: the class's questions, the reference's tables ===== -/
/-- the least of what stands there for such, from a number on -/
def mnF (t : Nat → Bool) (f : Nat → Int) : Nat → Int
  | 0 => 1000000000000000000
  | o + 1 => if t o = true ∧ f o < mnF t f o then f o else mnF t f o
def mxF (t : Nat → Bool) (f : Nat → Int) : Nat → Int
  | 0 => -1
  | o + 1 => if t o = true ∧ mxF t f o < f o then f o else mxF t f o
def cnT (y : Nat → Int) (LO : Option LwS) (sd s : Nat) : Bool := decide (cnS y LO sd s)
def loS (y : Nat → Int) (LO : Option LwS) (z : Nat) : Int := mnF (cnT y LO 1) (fun o => wn y LO z o) 256
def hiS (y : Nat → Int) (LO : Option LwS) (o : Nat) : Int := mxF (cnT y LO 0) (fun z => wn y LO z o) 256
def SV (y : Nat → Int) (LO : Option LwS) (a48 : Nat → Int64) : Prop := (∀ z, cnS y LO 0 z → a48 z = i64 (loS y LO z)) ∧ (∀ o, cnS y LO 1 o → a48 (256 + o) = i64 (hiS y LO o))
def CI (y : Nat → Int) (LO : Option LwS) (vb vs vsd vq kn sv : Int32) (a43 a44 a46 a47 : Nat → Int32) (a48 : Nat → Int64) (a49 : Nat → Int32) : Prop := kn = 0 ∨ kn = 1 ∧ BK y LO vb vs vsd vq a43 a44 a46 a47 a49 ∧ (sv = 0 ∨ sv = 1 ∧ SV y LO a48)
section BRIB2
variable {y : Nat → Int} {row : Nat → Int32} {beasts meals seats laws inForce cases : Int32} {tr mh te rs ju vo : Nat → Int32} {Fu : Nat} {LO : Option LwS}
theorem cn_lt (hW : WF y) {sd s : Nat} (h : cnS y LO sd s) : s ≤ (y 4).toNat ∧ s < 2 ^ (y 0).toNat ∧ s < 256 := by
  obtain ⟨t, n, e4, e0, hn, hs1, hs, hb⟩ := hW.seats
  have h1 : s &&& (y 4).toNat = s := h.1
  have : s ≤ (y 4).toNat := by rw [← h1]; exact Nat.and_le_right
  rw [e4, e0, Int.toNat_natCast, Int.toNat_natCast] at *
  omega
theorem x_cost {vb vs vsd vq : Int32} {a43 a44 a46 a47 a49 : Nat → Int32} (hW : WF y) (hB : BK y LO vb vs vsd vq a43 a44 a46 a47 a49) {sd s : Nat} (hsd : sd < 2) (hs : s < 2 ^ (y 0).toNat) : fX1_cost a46 (i32 (sd : Int)) (i32 (s : Int)) = some (i32 (cst y LO sd s)) := by
  have hp := p2_256 hW
  unfold fX1_cost
  rw [show i32 (sd : Int) * 256 + i32 (s : Int) = i32 ((256 * sd + s : Nat) : Int) by rw [i32_litN 256, i32_mul, i32_add]; congr 1 <;> omega, gd_ok (by omega) (by omega) (by omega), i32_nat (by omega) (by omega), Int.toNat_natCast, hB.2.2.2.2.2.2.1 sd s hsd hs]
theorem x_affords {vb vs vsd vq : Int32} {a43 a44 a46 a47 a49 : Nat → Int32} (hW : WF y) (hB : BK y LO vb vs vsd vq a43 a44 a46 a47 a49) {sd s : Nat} (hsd : sd < 2) (hs : s < 2 ^ (y 0).toNat) : fX1_affords a46 a47 (i32 (sd : Int)) (i32 (s : Int)) = some (bI (cst y LO sd s ≤ y (8 + sd))) := by
  have c := cst_rng (LO := LO) hW (sd := sd) (s := s)
  have p := hW.purse hsd
  unfold fX1_affords
  rw [x_cost hW hB hsd hs, Option.bind_some, gd_ok (by omega) (by omega) (by omega), i32_nat (by omega) (by omega), Int.toNat_natCast, hB.2.2.2.2.2.2.2.1 sd hsd]
  unfold bI
  by_cases q : cst y LO sd s ≤ y (8 + sd)
  · rw [if_pos q, if_neg (by rw [i32_lt (by omega) (by omega) (by omega) (by omega)]; omega)]
  · rw [if_neg q, if_pos (by rw [i32_lt (by omega) (by omega) (by omega) (by omega)]; omega)]
theorem x_can {vb vs vsd vq : Int32} {a43 a44 a46 a47 a49 : Nat → Int32} (hW : WF y) (hB : BK y LO vb vs vsd vq a43 a44 a46 a47 a49) {sd : Nat} (hsd : sd < 2) {v : Int} (v1 : -2147483648 ≤ v) (v2 : v ≤ 2147483647) : fX1_can vs a46 a47 (i32 (sd : Int)) (i32 v) = some (bI (0 ≤ v ∧ cnS y LO sd v.toNat)) := by
  obtain ⟨t, n, e4, e0, hn, hs1, hs, hb⟩ := hW.seats
  have so := sub_of (b := y 4) (v := v) (by omega) (by omega) v1 v2
  unfold fX1_can fX1_can_L24
  rw [hB.2.1]
  by_cases c : 0 ≤ v ∧ v.toNat &&& (y 4).toNat = v.toNat
  · rw [if_pos (so.mpr c)]
    have vl : v.toNat &&& (y 4).toNat ≤ (y 4).toNat := Nat.and_le_right
    have vl2 : v.toNat < 2 ^ (y 0).toNat := by rw [e0, Int.toNat_natCast]; omega
    have := x_affords hW hB hsd (s := v.toNat) vl2
    rw [show ((v.toNat : Nat) : Int) = v by omega] at this
    rw [this, Option.bind_some]
    unfold bI
    by_cases q : cst y LO sd v.toNat ≤ y (8 + sd)
    · rw [if_pos q, if_neg (show ¬ (1 : Int32) = 0 by decide), if_pos ⟨c.1, c.2, q⟩]
    · rw [if_neg q, if_pos rfl, if_neg (show ¬ (0 ≤ v ∧ cnS y LO sd v.toNat) from fun h => q h.2.2)]
  · rw [if_neg (fun h => c (so.mp h))]
    unfold bI
    rw [if_neg (show ¬ (0 ≤ v ∧ cnS y LO sd v.toNat) from fun h => c ⟨h.1, h.2.1⟩)]
theorem x_canN {vb vs vsd vq : Int32} {a43 a44 a46 a47 a49 : Nat → Int32} (hW : WF y) (hB : BK y LO vb vs vsd vq a43 a44 a46 a47 a49) {sd s : Nat} (hsd : sd < 2) (hs : s < 300) : fX1_can vs a46 a47 (i32 (sd : Int)) (i32 (s : Int)) = some (bI (cnS y LO sd s)) := by
  rw [x_can hW hB hsd (by omega) (by omega), Int.toNat_natCast]
  unfold bI
  by_cases q : cnS y LO sd s
  · rw [if_pos q, if_pos ⟨by omega, q⟩]
  · rw [if_neg q, if_neg (fun h => q h.2)]
theorem cl_wn (hW : WF y) {bn z o n : Nat} (e0 : y 0 = (n : Int)) (hn : n ≤ 8) (hbn : bn < 2 ^ n) : cl bn.testBit (fun b => chn y LO b (((y 6).toNat : Nat) : Int) ((fv y z o b : Nat) : Int) 0) 8 = cl bn.testBit (fun b => chn y LO b (((y 6).toNat : Nat) : Int) ((fv y z o b : Nat) : Int) 0) n :=
  cl_8 hn (fun b hb => Nat.testBit_lt_two_pow (Nat.lt_of_lt_of_le hbn (Nat.pow_le_pow_right (by omega) hb)))
theorem x_chanceWith {vb vs vsd vq : Int32} {a43 a44 a46 a47 a49 : Nat → Int32} (hW : WF y) (hB : BK y LO vb vs vsd vq a43 a44 a46 a47 a49) {b : Nat} (hb : (b : Int) < y 0) {z o : Nat} {x : Int32} (hx : x = i32 (((if z.testBit b then 1 else 0) ||| (if o.testBit b then 2 else 0) : Nat) : Int)) : fX1_chanceWith a43 a44 (i32 (b : Int)) x = some (i32 (chn y LO b (((y 6).toNat : Nat) : Int) ((fv y z o b : Nat) : Int) 0)) := by
  have h0 := hW.1
  have hf := hW.fav (b := b) (by omega)
  have fl := fv_lt hW (z := z) (o := o) (b := b) (by omega)
  have e : i32 (y (17 + 6 * b)) ||| x = i32 ((fv y z o b : Nat) : Int) := by
    rw [show y (17 + 6 * b) = (((y (17 + 6 * b)).toNat : Nat) : Int) by omega, hx, i32_or]
    unfold fv
    rw [Nat.or_assoc]
  unfold fX1_chanceWith
  rw [gd_ok (by omega) (by omega) (by omega), i32_nat (by omega) (by omega), Int.toNat_natCast, hB.2.2.2.2.2.1 b hb, e, show i32 (b : Int) * 4 + i32 ((fv y z o b : Nat) : Int) = i32 ((4 * b + fv y z o b : Nat) : Int) by rw [i32_litN 4, i32_mul, i32_add]; congr 1; omega]
  rw [gd_ok (by omega) (by omega) (by omega), i32_nat (by omega) (by omega), Int.toNat_natCast, hB.2.2.2.2.1 b _ hb fl]
theorem bits_zo {z o b : Nat} (hz : z < 256) (ho : o < 256) (hb : b < 8) : (((i32 (z : Int) >>> (i32 (b : Int) &&& 31)) &&& 1) ||| ((((i32 (o : Int) >>> (i32 (b : Int) &&& 31)) &&& 1) : Int32) <<< ((1 : Int32) &&& 31))) = i32 (((if z.testBit b then 1 else 0) ||| (if o.testBit b then 2 else 0) : Nat) : Int) := by
  rw [i32_bit (by omega) (by omega), i32_bit (by omega) (by omega)]
  cases z.testBit b <;> cases o.testBit b <;> decide
theorem x_winL (hFu : 6000 ≤ Fu) {vb vs vsd vq : Int32} {a43 a44 a46 a47 a49 : Nat → Int32} (hW : WF y) (hB : BK y LO vb vs vsd vq a43 a44 a46 a47 a49) {n bn z o q : Nat} (e0 : y 0 = (n : Int)) (hn : n ≤ 8) (hbn : bn < 256) (hz : z < 256) (ho : o < 256) (hq : q ≤ 8) :
    ∀ (d f b : Nat) (vot : Int32) (ways : Nat → Int64), b + d = n → d < f → RT (cl bn.testBit (fun b => chn y LO b (((y 6).toNat : Nat) : Int) ((fv y z o b : Nat) : Int) 0) b) vot ways → Rt (fX1_winningOn_L10 Fu f vb a43 a44 vot ways (i32 (bn : Int)) (i32 (q : Int)) (i32 (z : Int)) (i32 (o : Int)) (i32 (b : Int))) (fun r => r.1 = i64 (al (cl bn.testBit (fun b => chn y LO b (((y 6).toNat : Nat) : Int) ((fv y z o b : Nat) : Int) 0) n) q)) := by
  have eb := hB.1
  rw [e0] at eb
  intro d
  induction d with
  | zero =>
    intro f b vot ways hb hf hR
    obtain ⟨f, rfl⟩ : ∃ f', f = f' + 1 := ⟨f - 1, by omega⟩
    obtain rfl : b = n := by omega
    rw [fX1_winningOn_L10]
    refine Rt.ift (by rw [eb]; exact Int32.le_refl _) ?_
    rw [x_atLeast hFu hR hq]
    exact Rt.ret rfl
  | succ d ih =>
    intro f b vot ways hb hf hR
    obtain ⟨f, rfl⟩ : ∃ f', f = f' + 1 := ⟨f - 1, by omega⟩
    rw [fX1_winningOn_L10]
    refine Rt.iff (by rw [eb, i32_le (by omega) (by omega) (by omega) (by omega)]; omega) ?_
    rw [bits_zo hz ho (by omega), i32_bit (by omega) (by omega), i32_p1]
    have ec : cl bn.testBit (fun b => chn y LO b (((y 6).toNat : Nat) : Int) ((fv y z o b : Nat) : Int) 0) (b + 1) = if bn.testBit b then chn y LO b (((y 6).toNat : Nat) : Int) ((fv y z o b : Nat) : Int) 0 :: cl bn.testBit (fun b => chn y LO b (((y 6).toNat : Nat) : Int) ((fv y z o b : Nat) : Int) 0) b else cl bn.testBit (fun b => chn y LO b (((y 6).toNat : Nat) : Int) ((fv y z o b : Nat) : Int) 0) b := rfl
    by_cases c : bn.testBit b = true
    · rw [if_pos c] at ec
      rw [if_pos c]
      refine Rt.ift rfl ?_
      rw [x_chanceWith hW hB (by omega) rfl]
      refine Rt.eqb rfl ?_
      have cr := chn_rng (y := y) (LO := LO) (b := b) (h := (((y 6).toNat : Nat) : Int)) (f := ((fv y z o b : Nat) : Int)) (m := 0)
      have cll := cl_len bn.testBit (fun b => chn y LO b (((y 6).toNat : Nat) : Int) ((fv y z o b : Nat) : Int) 0) b
      refine Rt.bind (x_vote hFu cr.1 cr.2 hR (by omega)) (fun r hr => ?_)
      refine ih f (b + 1) r.1 r.2 (by omega) (by omega) ?_
      rw [ec]; exact hr
    · rw [if_neg c] at ec
      rw [if_neg c]
      refine Rt.iff (by decide) ?_
      refine ih f (b + 1) vot ways (by omega) (by omega) ?_
      rw [ec]; exact hR
theorem x_winOn (hFu : 6000 ≤ Fu) {vb vs vsd vq : Int32} {a43 a44 a46 a47 a49 : Nat → Int32} (hW : WF y) (hB : BK y LO vb vs vsd vq a43 a44 a46 a47 a49) {bn z o q : Nat} (hbn : bn < 2 ^ (y 0).toNat) (hz : z < 256) (ho : o < 256) (hq : q ≤ 8) {vot : Int32} {ways : Nat → Int64} :
    Rt (fX1_winningOn Fu vb a43 a44 vot ways (i32 (bn : Int)) (i32 (q : Int)) (i32 (z : Int)) (i32 (o : Int))) (fun r => r.1 = i64 (wnO y LO bn q z o)) := by
  obtain ⟨t, n, e4, e0, hn, hs1, hs, hb⟩ := hW.seats
  have hp := p2_256 hW
  rw [e0, Int.toNat_natCast] at hbn
  rw [e0, Int.toNat_natCast] at hp
  unfold fX1_winningOn wnO
  rw [cl_wn hW e0 hn hbn]
  refine Rt.bind (x_clear hFu) (fun r hr => ?_)
  exact x_winL hFu hW hB e0 hn (by omega) hz ho hq n Fu 0 r.1 r.2 (by omega) (by omega) hr
theorem x_winning (hFu : 6000 ≤ Fu) {vb vs vsd vq : Int32} {a43 a44 a46 a47 a49 : Nat → Int32} (hW : WF y) (hB : BK y LO vb vs vsd vq a43 a44 a46 a47 a49) {z o : Nat} (hz : z < 256) (ho : o < 256) {vot : Int32} {ways : Nat → Int64} :
    Rt (fX1_winning Fu vb vs vq a43 a44 vot ways (i32 (z : Int)) (i32 (o : Int))) (fun r => r.1 = i64 (wn y LO z o)) := by
  obtain ⟨t, n, e4, e0, hn, hs1, hs, hb⟩ := hW.seats
  have h5 := hW.quota
  unfold fX1_winning wn
  rw [hB.2.1, hB.2.2.1, show y 4 = (((y 4).toNat : Nat) : Int) by omega, show y 5 = (((y 5).toNat : Nat) : Int) by omega]
  refine Rt.bind (x_winOn hFu hW hB (bn := (y 4).toNat) (q := (y 5).toNat) (by rw [e4, e0, Int.toNat_natCast, Int.toNat_natCast]; exact hs1) hz ho (by omega)) (fun r hr => Rt.ret ?_)
  rw [Int.toNat_natCast, Int.toNat_natCast]; exact hr
/-- by a side -/
def wnB (y : Nat → Int) (LO : Option LwS) (sd own other : Nat) : Int := if sd = 0 then wn y LO own other else wn y LO other own
theorem wnB_rng {sd a b : Nat} : 0 ≤ wnB y LO sd a b ∧ wnB y LO sd a b ≤ 10000000000000000 := by
  unfold wnB
  split <;> exact wnO_rng
theorem x_winBy (hFu : 6000 ≤ Fu) {vb vs vsd vq : Int32} {a43 a44 a46 a47 a49 : Nat → Int32} (hW : WF y) (hB : BK y LO vb vs vsd vq a43 a44 a46 a47 a49) {sd own other : Nat} (hsd : sd < 2) (hz : own < 256) (ho : other < 256) {vot : Int32} {ways : Nat → Int64} :
    Rt (fX1_winningBy Fu vb vs vq a43 a44 vot ways (i32 (sd : Int)) (i32 (own : Int)) (i32 (other : Int))) (fun r => r.1 = i64 (wnB y LO sd own other)) := by
  unfold fX1_winningBy wnB
  have : sd = 0 ∨ sd = 1 := by omega
  rcases this with rfl | rfl
  · rw [if_pos rfl]
    exact Rt.ift rfl (Rt.bind (x_winning hFu hW hB hz ho) (fun r hr => Rt.ret hr))
  · rw [if_neg (show ¬ 1 = 0 by omega)]
    exact Rt.iff (by decide) (Rt.bind (x_winning hFu hW hB ho hz) (fun r hr => Rt.ret hr))
/-! the reference's tables -/
def CT (y : Nat → Int) (LO : Option LwS) (co : Nat → Int32) : Prop := ∀ sd s : Nat, sd < 2 → s < 256 → co (256 * sd + s) = i32 (cst y LO sd s)
theorem v_costL21 (hM : RM y row) (hW : WF y) {co pc : Nat → Int32} {sd s : Nat} (hsd : sd < 2) (hs : s < 256) (hpc : ∀ b : Nat, (b : Int) < y 0 → pc (8 * sd + b) = i32 (prc y LO b (sd : Int))) {k2 : _} {k9 : _} {P : (Nat → Int32) → Prop} (hk : Rt (k9 row (va_up co (256 * sd + s) (i32 (cst y LO sd s))) pc (i32 (sd : Int)) (i32 ((s + 1 : Nat) : Int))) P) :
    ∀ (d f b : Nat), (b : Int) + d = y 0 → d < f → Rt (fX12_layCosts_L21 Fu k2 k9 f row co pc (i32 (sd : Int)) (i32 (s : Int)) (i32 (csn (fun b => prc y LO b (sd : Int)) s b)) (i32 (b : Int))) P := by
  have h0 := hW.1
  intro d
  induction d with
  | zero =>
    intro f b hb hf
    obtain ⟨f, rfl⟩ : ∃ f', f = f' + 1 := ⟨f - 1, by omega⟩
    rw [fX12_layCosts_L21, gd9 (by decide) (by decide), i32_0, hM 0 (by omega)]
    refine Rt.ift (by rw [i32_le (by omega) (by omega) (by omega) (by omega)]; omega) ?_
    rw [show (256 : Int32) * i32 (sd : Int) + i32 (s : Int) = i32 ((256 * sd + s : Nat) : Int) by rw [i32_litN 256, i32_mul, i32_add]; congr 1 <;> omega, gd_ok (by omega) (by omega) (by omega), i32_nat (by omega) (by omega), Int.toNat_natCast, i32_p1]
    have e : cst y LO sd s = csn (fun b => prc y LO b (sd : Int)) s b := by unfold cst; rw [show (y 0).toNat = b by omega]
    rw [e] at hk; exact hk
  | succ d ih =>
    intro f b hb hf
    obtain ⟨f, rfl⟩ : ∃ f', f = f' + 1 := ⟨f - 1, by omega⟩
    rw [fX12_layCosts_L21, gd9 (by decide) (by decide), i32_0, hM 0 (by omega)]
    refine Rt.iff (by rw [i32_le (by omega) (by omega) (by omega) (by omega)]; omega) ?_
    rw [v_is (by omega) (by omega)]
    refine Rt.eqb rfl ?_
    have go := ih f (b + 1) (by omega) (by omega)
    have et : csn (fun b => prc y LO b (sd : Int)) s (b + 1) = csn (fun b => prc y LO b (sd : Int)) s b + (if s.testBit b then prc y LO b (sd : Int) else 0) := rfl
    by_cases c : s.testBit b = true
    · rw [if_pos c] at et
      refine Rt.iff (by rw [bI_0]; exact fun q => q c) ?_
      have ep : fX12_priceAt pc (i32 (sd : Int)) (i32 (b : Int)) = some (i32 (prc y LO b (sd : Int))) := by
        unfold fX12_priceAt
        rw [show (8 : Int32) * i32 (sd : Int) + i32 (b : Int) = i32 ((8 * sd + b : Nat) : Int) by rw [i32_litN 8, i32_mul, i32_add]; congr 1 <;> omega, gd_ok (by omega) (by omega) (by omega), i32_nat (by omega) (by omega), Int.toNat_natCast, hpc b (by omega)]
      rw [ep]
      refine Rt.eqb rfl ?_
      rw [i32_add, i32_p1, ← et]; exact go
    · rw [if_neg c] at et
      refine Rt.ift (by rw [bI_0]; exact c) ?_
      rw [i32_litN 0, i32_add, i32_p1]
      rw [et] at go; exact go
theorem v_costL9 (hFu : 6000 ≤ Fu) (hM : RM y row) (hW : WF y) {pc : Nat → Int32} {sd : Nat} (hsd : sd < 2) (hpc : ∀ b : Nat, (b : Int) < y 0 → pc (8 * sd + b) = i32 (prc y LO b (sd : Int))) {k2 : _} {P : (Nat → Int32) → Prop} {base : Nat → Int32} (hk : ∀ co : Nat → Int32, (∀ s, s < 256 → co (256 * sd + s) = i32 (cst y LO sd s)) → (∀ k, k < 256 * sd → co k = base k) → Rt (k2 row co pc (i32 ((sd + 1 : Nat) : Int))) P) :
    ∀ (d f s : Nat) (co : Nat → Int32), s + d = 256 → d < f → (∀ j, j < s → co (256 * sd + j) = i32 (cst y LO sd j)) → (∀ k, k < 256 * sd → co k = base k) → Rt (fX12_layCosts_L9 Fu k2 f row co pc (i32 (sd : Int)) (i32 (s : Int))) P := by
  have h0 := hW.1
  intro d
  induction d with
  | zero =>
    intro f s co hs hf h1 h2
    obtain ⟨f, rfl⟩ : ∃ f', f = f' + 1 := ⟨f - 1, by omega⟩
    obtain rfl : s = 256 := by omega
    rw [fX12_layCosts_L9, i32_p1]
    exact Rt.ift (by decide) (hk co h1 h2)
  | succ d ih =>
    intro f s co hs hf h1 h2
    obtain ⟨f, rfl⟩ : ∃ f', f = f' + 1 := ⟨f - 1, by omega⟩
    rw [fX12_layCosts_L9]
    refine Rt.iff (by rw [i32_litN 256, i32_le (by omega) (by omega) (by omega) (by omega)]; omega) ?_
    refine v_costL21 (LO := LO) hM hW hsd (show s < 256 by omega) hpc ?_ (y 0).toNat Fu 0 (by omega) (by omega)
    refine ih f (s + 1) _ (by omega) (by omega) (fun j hj => ?_) (fun k hk => ?_)
    · by_cases e : j = s
      · subst e; rw [va_up_at]
      · rw [va_up_ne _ _ (by omega)]; exact h1 j (by omega)
    · rw [va_up_ne _ _ (by omega)]; exact h2 k hk
theorem v_layCosts (hFu : 6000 ≤ Fu) (hM : RM y row) (hW : WF y) {co pc : Nat → Int32} (hpc : ∀ sd b : Nat, sd < 2 → (b : Int) < y 0 → pc (8 * sd + b) = i32 (prc y LO b (sd : Int))) : Rt (fX12_layCosts Fu row co pc) (fun r => CT y LO r) := by
  unfold fX12_layCosts
  obtain ⟨f, rfl⟩ : ∃ f', Fu = f' + 3 := ⟨Fu - 3, by omega⟩
  rw [show f + 3 = (f + 2) + 1 from rfl, fX12_layCosts_L2]
  refine Rt.iff (by decide) ?_
  refine v_costL9 (LO := LO) (sd := 0) (base := co) hFu hM hW (by omega) (fun b hb => hpc 0 b (by omega) hb) (fun c0 g1 g2 => ?_) 256 _ 0 co (by omega) (by omega) (fun j hj => by omega) (fun k hk => rfl)
  rw [show f + 2 = (f + 1) + 1 from rfl, fX12_layCosts_L2]
  refine Rt.iff (by decide) ?_
  refine v_costL9 (LO := LO) (sd := 1) (base := c0) hFu hM hW (by omega) (fun b hb => hpc 1 b (by omega) hb) (fun c1 g3 g4 => ?_) 256 _ 0 c0 (by omega) (by omega) (fun j hj => by omega) (fun k hk => rfl)
  rw [fX12_layCosts_L2]
  refine Rt.ift (by decide) (Rt.ret (fun sd s h1 h2 => ?_))
  have : sd = 0 ∨ sd = 1 := by omega
  rcases this with rfl | rfl
  · rw [g4 _ (by omega)]; exact g1 s h2
  · exact g3 s h2
theorem v_priceL9 (hFu : 6000 ≤ Fu) (hM : RM y row) (hW : WF y) (hO : MO y LO) {co : Nat → Int32} {sd : Nat} (hsd : sd < 2) {k2 : _} {P : _ → Prop} {base : Nat → Int32} (hk : ∀ (lw : Int32) (set rs : Nat → Int64) (br : Int32) (val sum : Int64) (pc : Nat → Int32), (∀ b : Nat, (b : Int) < y 0 → pc (8 * sd + b) = i32 (prc y LO b (sd : Int))) → (∀ k, k < 8 * sd → pc k = base k) → Rt (k2 row lw set rs br val sum co pc (i32 ((sd + 1 : Nat) : Int))) P) :
    ∀ (d f b : Nat) (lw : Int32) (set rs : Nat → Int64) (br : Int32) (val sum : Int64) (pc : Nat → Int32), (b : Int) + d = y 0 → d < f → (∀ j : Nat, j < b → pc (8 * sd + j) = i32 (prc y LO j (sd : Int))) → (∀ k, k < 8 * sd → pc k = base k) → Rt (fX12_layPrices_L9 Fu k2 f row lw set rs br val sum co pc (i32 (sd : Int)) (i32 (b : Int))) P := by
  have h0 := hW.1
  intro d
  induction d with
  | zero =>
    intro f b lw set rs br val sum pc hb hf h1 h2
    obtain ⟨f, rfl⟩ : ∃ f', f = f' + 1 := ⟨f - 1, by omega⟩
    rw [fX12_layPrices_L9, gd9 (by decide) (by decide), i32_0, hM 0 (by omega), i32_p1]
    exact Rt.ift (by rw [i32_le (by omega) (by omega) (by omega) (by omega)]; omega) (hk lw set rs br val sum pc (fun j hj => h1 j (by omega)) h2)
  | succ d ih =>
    intro f b lw set rs br val sum pc hb hf h1 h2
    obtain ⟨f, rfl⟩ : ∃ f', f = f' + 1 := ⟨f - 1, by omega⟩
    rw [fX12_layPrices_L9, gd9 (by decide) (by decide), i32_0, hM 0 (by omega)]
    refine Rt.iff (by rw [i32_le (by omega) (by omega) (by omega) (by omega)]; omega) ?_
    refine Rt.bind (v_priceOf hFu hM hW hO (show b < 8 by omega) (show -1 ≤ (sd : Int) by omega) (by omega)) (fun r hr => ?_)
    rw [show (8 : Int32) * i32 (sd : Int) + i32 (b : Int) = i32 ((8 * sd + b : Nat) : Int) by rw [i32_litN 8, i32_mul, i32_add]; congr 1 <;> omega, gd_ok (by omega) (by omega) (by omega), i32_nat (by omega) (by omega), Int.toNat_natCast, i32_p1]
    refine ih f (b + 1) _ _ _ _ _ _ _ (by omega) (by omega) (fun j hj => ?_) (fun k hk => ?_)
    · by_cases e : j = b
      · subst e; rw [va_up_at, hr]
      · rw [va_up_ne _ _ (by omega)]; exact h1 j (by omega)
    · rw [va_up_ne _ _ (by omega)]; exact h2 k hk
theorem v_layPrices (hFu : 6000 ≤ Fu) (hM : RM y row) (hW : WF y) (hO : MO y LO) {lw : Int32} {set rs : Nat → Int64} {br : Int32} {val sum : Int64} {co pc : Nat → Int32} : Rt (fX12_layPrices Fu row lw set rs br val sum co pc) (fun r => CT y LO r.2.2.2.2.2.2.1) := by
  have h0 := hW.1
  unfold fX12_layPrices
  obtain ⟨f, rfl⟩ : ∃ f', Fu = f' + 3 := ⟨Fu - 3, by omega⟩
  rw [show f + 3 = (f + 2) + 1 from rfl, fX12_layPrices_L2]
  refine Rt.iff (by decide) ?_
  refine v_priceL9 (sd := 0) (base := pc) hFu hM hW hO (by omega) (fun lw set rs br val sum p0 g1 g2 => ?_) (y 0).toNat _ 0 lw set rs br val sum pc (by omega) (by omega) (fun j hj => by omega) (fun k hk => rfl)
  rw [show f + 2 = (f + 1) + 1 from rfl, fX12_layPrices_L2]
  refine Rt.iff (by decide) ?_
  refine v_priceL9 (sd := 1) (base := p0) hFu hM hW hO (by omega) (fun lw set rs br val sum p1 g3 g4 => ?_) (y 0).toNat _ 0 lw set rs br val sum p0 (by omega) (by omega) (fun j hj => by omega) (fun k hk => rfl)
  rw [fX12_layPrices_L2]
  refine Rt.ift (by decide) ?_
  refine Rt.bind (v_layCosts (LO := LO) hFu hM hW (fun sd b h1 h2 => ?_)) (fun r hr => Rt.ret hr)
  have : sd = 0 ∨ sd = 1 := by omega
  rcases this with rfl | rfl
  · rw [g4 _ (by omega)]; exact g1 b h2
  · exact g3 b h2
theorem v_layBribes (hFu : 6000 ≤ Fu) (hM : RM y row) (hW : WF y) (hO : MO y LO) {lw : Int32} {set rs : Nat → Int64} {br : Int32} {val sum : Int64} {ch co pc : Nat → Int32} : Rt (fX12_layBribes Fu row lw set rs br val sum ch co pc) (fun r => CH y LO (y 6).toNat r.2.2.2.2.2.2.1 ∧ CT y LO r.2.2.2.2.2.2.2.1) := by
  unfold fX12_layBribes
  refine Rt.bind (v_layNow hFu hM hW hO) (fun r hr => ?_)
  exact Rt.bind (v_layPrices hFu hM hW hO) (fun r2 hr2 => Rt.ret ⟨hr, hr2⟩)
theorem v_canB (hM : RM y row) (hW : WF y) {co : Nat → Int32} (hC : CT y LO co) {sd bn : Nat} (hsd : sd < 2) (hbn : bn < 256) {v : Int} (v1 : -2147483648 ≤ v) (v2 : v ≤ 2147483647) : fX12_canBribe row co (i32 (sd : Int)) (i32 v) (i32 (bn : Int)) = some (bI (0 ≤ v ∧ cnB y LO bn sd v.toNat)) := by
  have so := sub_of (b := (bn : Int)) (v := v) (by omega) (by omega) v1 v2
  rw [Int.toNat_natCast] at so
  have p := hW.purse hsd
  unfold fX12_canBribe fX12_canBribe_L48
  simp (disch := omega) only [i32_64, i64_lit, v_in]
  rw [Option.bind_some]
  by_cases c0 : 0 ≤ v ∧ v ≤ 255
  · rw [if_neg (by rw [bI_0]; exact fun q => q c0)]
    by_cases c : 0 ≤ v ∧ v.toNat &&& bn = v.toNat
    · rw [if_pos (so.mpr c)]
      obtain ⟨v, rfl⟩ := Int.eq_ofNat_of_zero_le c0.1
      rw [Int.toNat_natCast] at c
      have cr := cst_rng (LO := LO) hW (sd := sd) (s := v)
      rw [show (256 : Int32) * i32 (sd : Int) + i32 (v : Int) = i32 ((256 * sd + v : Nat) : Int) by rw [i32_litN 256, i32_mul, i32_add]; congr 1 <;> omega, show (8 : Int32) + i32 (sd : Int) = i32 ((8 + sd : Nat) : Int) by rw [i32_litN 8, i32_add]; congr 1, gd_ok (by omega) (by omega) (by omega), gd_ok (by omega) (by omega) (by omega), i32_nat (by omega) (by omega), i32_nat (by omega) (by omega), Int.toNat_natCast, Int.toNat_natCast, Int.toNat_natCast, hC sd v hsd (by omega), hM _ (by omega)]
      unfold bI
      by_cases q : cst y LO sd v ≤ y (8 + sd)
      · rw [if_neg (by rw [i32_lt (by omega) (by omega) (by omega) (by omega)]; omega), if_pos ⟨by omega, c.2, q⟩]
      · rw [if_pos (by rw [i32_lt (by omega) (by omega) (by omega) (by omega)]; omega), if_neg (show ¬ (0 ≤ (v : Int) ∧ cnB y LO bn sd v) from fun h => q h.2.2)]
    · rw [if_neg (fun h => c (so.mp h))]
      unfold bI
      rw [if_neg (show ¬ (0 ≤ v ∧ cnB y LO bn sd v.toNat) from fun h => c ⟨h.1, h.2.1⟩)]
  · rw [if_pos (by rw [bI_0]; exact c0)]
    unfold bI
    rw [if_neg (show ¬ (0 ≤ v ∧ cnB y LO bn sd v.toNat) from fun h => c0 ⟨h.1, ?_⟩)]
    have l : v.toNat &&& bn ≤ bn := Nat.and_le_right
    have := h.2.1
    omega
theorem v_can (hM : RM y row) (hW : WF y) {co : Nat → Int32} (hC : CT y LO co) {sd : Nat} (hsd : sd < 2) {v : Int} (v1 : -2147483648 ≤ v) (v2 : v ≤ 2147483647) : fX12_can row co (i32 (sd : Int)) (i32 v) = some (bI (0 ≤ v ∧ cnS y LO sd v.toNat)) := by
  obtain ⟨t, n, e4, e0, hn, hs1, hs, hb⟩ := hW.seats
  unfold fX12_can
  have e : row (4 : Int32).toNatClampNeg = i32 (((y 4).toNat : Nat) : Int) := by rw [show (((y 4).toNat : Nat) : Int) = y 4 by omega]; exact hM 4 (by omega)
  rw [gd9 (by decide) (by decide), e, v_canB hM hW hC hsd (by omega) v1 v2, Option.bind_some, gb_bI]
theorem v_canN (hM : RM y row) (hW : WF y) {co : Nat → Int32} (hC : CT y LO co) {sd s : Nat} (hsd : sd < 2) (hs : s < 300) : fX12_can row co (i32 (sd : Int)) (i32 (s : Int)) = some (bI (cnS y LO sd s)) := by
  rw [v_can hM hW hC hsd (by omega) (by omega), Int.toNat_natCast]
  unfold bI
  by_cases q : cnS y LO sd s
  · rw [if_pos q, if_pos ⟨by omega, q⟩]
  · rw [if_neg q, if_neg (fun h => q h.2)]
theorem v_winsO (hFu : 6000 ≤ Fu) (hM : RM y row) (hW : WF y) {ch : Nat → Int32} (hc : CH y LO (y 6).toNat ch) {vs : Nat → Int64} {bn z o q : Nat} (hbn : bn < 2 ^ (y 0).toNat) (hz : z < 256) (ho : o < 256) (hq : q ≤ 8) :
    Rt (fX12_wins Fu row ch vs (i32 (bn : Int)) (i32 (z : Int)) (i32 (o : Int)) (i32 (q : Int))) (fun r => r.1 = i64 (wnO y LO bn q z o)) := by
  have hp := p2_256 hW
  have h0 := hW.1
  refine (v_wins (p := fun b f => chn y LO b (((y 6).toNat : Nat) : Int) (f : Int) 0) hFu hM hW (show bn < 256 by omega) hz ho (fun b f => chn_rng) (fun b f h1 h2 h3 => hc b f ?_ h3) hq).mono (fun r hr => hr.1)
  have : b < (y 0).toNat := by
    apply Nat.lt_of_not_le
    intro hq
    rw [Nat.testBit_lt_two_pow (Nat.lt_of_lt_of_le hbn (Nat.pow_le_pow_right (by omega) hq))] at h2; cases h2
  omega
theorem v_winsS (hFu : 6000 ≤ Fu) (hM : RM y row) (hW : WF y) {ch : Nat → Int32} (hc : CH y LO (y 6).toNat ch) {vs : Nat → Int64} {z o : Nat} (hz : z < 256) (ho : o < 256) :
    Rt (fX12_wins Fu row ch vs (i32 (y 4)) (i32 (z : Int)) (i32 (o : Int)) (i32 (y 5))) (fun r => r.1 = i64 (wn y LO z o)) := by
  obtain ⟨t, n, e4, e0, hn, hs1, hs, hb⟩ := hW.seats
  have h5 := hW.quota
  unfold wn
  rw [show y 4 = (((y 4).toNat : Nat) : Int) by omega, show y 5 = (((y 5).toNat : Nat) : Int) by omega, Int.toNat_natCast, Int.toNat_natCast]
  exact v_winsO hFu hM hW hc (by rw [e4, e0, Int.toNat_natCast, Int.toNat_natCast]; exact hs1) hz ho (by omega)
end BRIB2
