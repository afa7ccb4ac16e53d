/-! ===== a law: how many clauses, their heads, what their sums and their tests compute ===== -/
abbrev LwS : Type := Nat × (Nat → Int) × (Nat → Mn) × (Nat → Mn)
def hold (L : LwS) (e : Nat → Int) (c : Nat) : Option Int := (L.2.2.2 c e).bind fun t => if t = 0 then none else L.2.2.1 c e
def tld (L : LwS) (hd : Int) (e : Nat → Int) : Nat → Option Int
  | 0 => none
  | c + 1 => if L.2.1 c = hd then (match hold L e c with | some v => some v | none => tld L hd e c) else tld L hd e c
def clp (v most : Int) : Int := if v < 0 then 0 else if most < v then most else v
theorem clp_mid {v m : Int} (h1 : 0 ≤ v) (h2 : v ≤ m) : clp v m = v := by unfold clp; rw [if_neg (show ¬ v < 0 by omega), if_neg (show ¬ m < v by omega)]
theorem clp_lo {v m : Int} (h1 : v < 0) : clp v m = 0 := by unfold clp; rw [if_pos h1]
theorem clp_hi {v m : Int} (h1 : 0 ≤ v) (h2 : m < v) : clp v m = m := by unfold clp; rw [if_neg (show ¬ v < 0 by omega), if_pos h2]
def tof (o : Option Int) (wo most : Int) : Int := match o with | some v => clp v most | none => wo
def TL (LO : Option LwS) (hd : Int) (e : Nat → Int) (wo most : Int) : Int := match LO with | none => wo | some L => tof (tld L hd e L.1) wo most
def LX (L : LwS) (nh nt ne ns : Nat) (aL1 aL2 aL3 aL4 : Nat → Int32) : Prop :=
  L.1 ≤ 12 ∧ nh = L.1 ∧ nt = L.1 ∧ ne = L.1 ∧ ns ≤ 400 ∧ ∀ c, c < L.1 → aL1 c = i32 (L.2.1 c) ∧ (0 ≤ L.2.1 c ∧ L.2.1 c ≤ 2) ∧
    ∃ p t q w1 w2 : Nat, (c = 0 ∧ p = 0 ∨ 0 < c ∧ aL3 (c - 1) = i32 (p : Int)) ∧ aL2 c = i32 (t : Int) ∧ aL3 c = i32 (q : Int) ∧ q ≤ ns ∧ w1 ≤ 50 ∧ w2 ≤ 50 ∧ XC aL4 p t w1 (L.2.2.1 c) ∧ (t = q ∧ (∀ e, L.2.2.2 c e = some 1) ∨ XC aL4 t q w2 (L.2.2.2 c))
def LM (L : LwS) (y : Nat → Int) (lw : Nat) : Prop :=
  L.1 ≤ 12 ∧ y (lw + 1) = (L.1 : Int) ∧ ∀ c, c < L.1 → y (lw + 2 + 8 * c) = L.2.1 c ∧ (0 ≤ L.2.1 c ∧ L.2.1 c ≤ 2) ∧
    ∃ p t q w1 w2 : Nat, y (lw + 5 + 8 * c) = (p : Int) ∧ y (lw + 6 + 8 * c) = (t : Int) ∧ y (lw + 7 + 8 * c) = (t : Int) ∧ y (lw + 8 + 8 * c) = (q : Int) ∧ q ≤ 400 ∧ t ≤ q ∧ w1 ≤ 50 ∧ w2 ≤ 50 ∧ MC (fun j => i32 (y (lw + 98 + 2 * j))) (fun j => i32 (y (lw + 99 + 2 * j))) p t w1 (L.2.2.1 c) ∧ (t = q ∧ (∀ e, L.2.2.2 c e = some 1) ∨ MC (fun j => i32 (y (lw + 98 + 2 * j))) (fun j => i32 (y (lw + 99 + 2 * j))) t q w2 (L.2.2.2 c))
theorem tof_rng {o : Option Int} {wo most : Int} (h0 : 0 ≤ wo) (h1 : wo ≤ most) : 0 ≤ tof o wo most ∧ tof o wo most ≤ most := by
  unfold tof clp
  cases o with
  | none => exact ⟨h0, h1⟩
  | some v => simp only; split <;> (try split) <;> omega
theorem TL_rng {LO : Option LwS} {hd : Int} {e : Nat → Int} {wo most : Int} (h0 : 0 ≤ wo) (h1 : wo ≤ most) : 0 ≤ TL LO hd e wo most ∧ TL LO hd e wo most ≤ most := by
  unfold TL
  cases LO with
  | none => exact ⟨h0, h1⟩
  | some L => exact tof_rng h0 h1
section TOLD
variable {L : LwS} {nh nt ne ns Fu : Nat} {aL1 aL2 aL3 aL4 wd : Nat → Int32} {e : Nat → Int}
theorem x_holds (hL : LX L nh nt ne ns aL1 aL2 aL3 aL4) (hFu : 6000 ≤ Fu) (he : okE e) (hwd : ∀ j, j < 10 → wd j = i32 (e j)) {c : Nat} (hc : c < L.1) {H : Int32} {an : Int64} {sk : Nat → Int64} :
    Rt (fX0_holds_L Fu nt ne ns H an wd sk aL2 aL3 aL4 (i32 (c : Int))) (fun r => (∀ v, hold L e c = some v → r.1 = 1 ∧ r.2.2.1 = i64 v ∧ -1000000000 ≤ v ∧ v ≤ 1000000000) ∧ (hold L e c = none → r.1 = 0)) := by
  obtain ⟨l0, l1, l2, l3, l4, l5⟩ := hL
  obtain ⟨-, -, p, t, q, w1, w2, g1, g2, g3, g4, g5, g6, g7, g8⟩ := l5 c hc
  subst l1 l2 l3
  have pt := g7.1
  have tq : t ≤ q := by
    rcases g8 with ⟨h, -⟩ | h
    · omega
    · have := h.1; omega
  have h69 : ∀ (H : Int32) (sk : Nat → Int64), Rt (fX0_holds_L_L69 Fu L.1 L.1 ns H an wd sk aL2 aL3 aL4 (i32 (p : Int)) (i32 (t : Int))) (fun r => (∀ v, L.2.2.1 c e = some v → r.1 = 1 ∧ r.2.2.1 = i64 v ∧ -1000000000 ≤ v ∧ v ≤ 1000000000) ∧ (L.2.2.1 c e = none → r.1 = 0)) := by
    intro H sk
    unfold fX0_holds_L_L69
    refine Rt.bind (g7.run (by omega) hFu he hwd (fun j _ _ => rfl) (by omega) l4) (fun r hr => ?_)
    rw [show (0 : Int32) = i32 0 from rfl, gd_ok (by omega) (by omega) (by omega), gb_in hr.1]
    refine Rt.ret ⟨fun v hv => ?_, fun hv => hr.2.2 hv⟩
    have := hr.2.1 v hv
    exact ⟨this.1, this.2, g7.2.1 e v he hv⟩
  have h16 : Rt (fX0_holds_L_L16 Fu L.1 L.1 ns H an wd sk aL2 aL3 aL4 (i32 (c : Int)) (i32 (p : Int))) (fun r => (∀ v, hold L e c = some v → r.1 = 1 ∧ r.2.2.1 = i64 v ∧ -1000000000 ≤ v ∧ v ≤ 1000000000) ∧ (hold L e c = none → r.1 = 0)) := by
    unfold fX0_holds_L_L16
    simp (disch := omega) only [gd_ok, i32_nat, Int.toNat_natCast]
    rw [g2, g3]
    simp (disch := omega) only [i32_le]
    rcases g8 with ⟨h, hn⟩ | h
    · rw [if_pos (by omega)]
      have hh : hold L e c = L.2.2.1 c e := by unfold hold; rw [hn e]; rfl
      rw [hh]; exact h69 H sk
    · have := h.1
      rw [if_neg (by omega)]
      refine Rt.bind (h.run (by omega) hFu he hwd (fun j _ _ => rfl) (by omega) l4) (fun r hr => ?_)
      cases et : L.2.2.2 c e with
      | none =>
        have hh : hold L e c = none := by unfold hold; rw [et]; rfl
        rw [hh, if_pos (hr.2.2 et)]
        exact Rt.ret ⟨fun v hv => (by cases hv), fun _ => rfl⟩
      | some tv =>
        have r1 := hr.2.1 tv et
        have bt := h.2.1 e tv he et
        rw [r1.1, if_neg (by decide), show (0 : Int32) = i32 0 from rfl, gd_ok (by omega) (by omega) (by omega), show (i32 0).toNatClampNeg = 0 from rfl, r1.2, i64_litN 0]
        simp (disch := omega) only [i64_eq]
        by_cases c0 : tv = 0
        · have hh : hold L e c = none := by unfold hold; rw [et]; simp [c0]
          rw [hh, if_pos (by omega)]
          exact Rt.ret ⟨fun v hv => (by cases hv), fun _ => rfl⟩
        · have hh : hold L e c = L.2.2.1 c e := by unfold hold; rw [et]; simp [c0]
          rw [hh, if_neg (by omega)]
          exact h69 r.2.1 r.2.2
  unfold fX0_holds_L
  rcases g1 with ⟨rfl, rfl⟩ | ⟨hc0, g1⟩
  · rw [if_pos (show i32 ((0 : Nat) : Int) = 0 from rfl)]; exact h16
  · obtain ⟨c, rfl⟩ : ∃ c', c = c' + 1 := ⟨c - 1, by omega⟩
    rw [if_neg (i32_h1 (by omega)), i32_s1, gd_ok (by omega) (by omega) (by omega), i32_nat (by omega) (by omega), Int.toNat_natCast]
    rw [show c + 1 - 1 = c by omega] at g1
    rw [g1]; exact h16
theorem x_toldL (hL : LX L nh nt ne ns aL1 aL2 aL3 aL4) (hFu : 6000 ≤ Fu) (he : okE e) (hwd : ∀ j, j < 10 → wd j = i32 (e j)) {hd wo most : Int} (d1 : 0 ≤ hd) (d2 : hd ≤ 2) (m2 : most ≤ 999) (m1 : 0 ≤ most) :
    ∀ (c f : Nat) (H : Int32) (an : Int64) (sk : Nat → Int64), c ≤ L.1 → c < f → Rt (fX0_told_L_L15 Fu nh nt ne ns f H an wd sk aL1 aL2 aL3 aL4 (i32 hd) (i32 wo) (i32 most) (i32 ((c : Int) - 1))) (fun r => r.1 = i32 (tof (tld L hd e c) wo most)) := by
  have l12 := hL.1
  have hnh := hL.2.1
  intro c
  induction c with
  | zero =>
    intro f H an sk _ hf
    obtain ⟨f, rfl⟩ : ∃ f', f = f' + 1 := ⟨f - 1, by omega⟩
    rw [fX0_told_L_L15, if_pos (by decide)]
    exact Rt.ret rfl
  | succ c ih =>
    intro f H an sk hc hf
    obtain ⟨f, rfl⟩ : ∃ f', f = f' + 1 := ⟨f - 1, by omega⟩
    have hcl := hL.2.2.2.2.2 c (by omega)
    rw [fX0_told_L_L15, show ((c + 1 : Nat) : Int) - 1 = (c : Int) by omega, if_neg (by rw [i32_litN 0, i32_lt (by omega) (by omega) (by omega) (by omega)]; omega), gd_ok (by omega) (by omega) (by omega), i32_nat (by omega) (by omega), Int.toNat_natCast, hcl.1]
    simp (disch := omega) only [i32_eq]
    rw [show i32 (c : Int) + (-1 : Int32) = i32 ((c : Int) - 1) by rw [show (-1 : Int32) = i32 (-1) from rfl, i32_add]; rfl]
    have et : tld L hd e (c + 1) = if L.2.1 c = hd then (match hold L e c with | some v => some v | none => tld L hd e c) else tld L hd e c := rfl
    by_cases ch : L.2.1 c = hd
    · rw [if_pos ch]
      rw [if_pos ch] at et
      refine Rt.bind (x_holds hL hFu he hwd (by omega)) (fun r hr => ?_)
      cases eh : hold L e c with
      | none =>
        rw [eh] at et
        rw [if_pos (hr.2 eh), et]
        exact ih f _ _ _ (by omega) (by omega)
      | some v =>
        rw [eh] at et
        have q := hr.1 v eh
        rw [q.1, if_neg (by decide), et]
        refine Rt.ret ?_
        show Int64.toInt32 _ = i32 (clp v most)
        rw [q.2.1, i32_64 (by omega) (by omega)]
        simp (disch := omega) only [i64_lt]
        unfold clp
        by_cases c1 : v < most
        · rw [if_pos c1, i64_litN 0]
          simp (disch := omega) only [i64_lt]
          by_cases c2 : v < 0
          · rw [if_pos (by omega), if_pos c2, i64_32]; rfl
          · rw [if_neg (by omega), if_neg c2, if_neg (by omega), i64_32]
        · rw [if_neg c1, i64_litN 0]
          simp (disch := omega) only [i64_lt]
          rw [if_neg (by omega), i64_32]
          by_cases c2 : most < v
          · rw [if_neg (by omega), if_pos c2]
          · rw [if_neg (by omega), if_neg c2, show v = most by omega]
    · rw [if_neg ch]
      rw [if_neg ch] at et
      rw [et]
      exact ih f _ _ _ (by omega) (by omega)
theorem x_told (hL : LX L nh nt ne ns aL1 aL2 aL3 aL4) (hFu : 6000 ≤ Fu) (he : okE e) (hwd : ∀ j, j < 10 → wd j = i32 (e j)) {hd wo most : Int} (d1 : 0 ≤ hd) (d2 : hd ≤ 2) (m2 : most ≤ 999) (m1 : 0 ≤ most) {H : Int32} {an : Int64} {sk : Nat → Int64} :
    Rt (fX0_told_L Fu nh nt ne ns H an wd sk aL1 aL2 aL3 aL4 (i32 hd) (i32 wo) (i32 most)) (fun r => r.1 = i32 (TL (some L) hd e wo most)) := by
  have l12 := hL.1
  have hnh := hL.2.1
  unfold fX0_told_L
  rw [show Int32.ofNat nh - 1 = i32 ((L.1 : Int) - 1) by rw [hnh]; show i32 (L.1 : Int) - 1 = _; rw [i32_litN 1, i32_sub]; rfl]
  exact x_toldL hL hFu he hwd d1 d2 m2 m1 L.1 Fu H an sk (by omega) (by omega)
variable {y : Nat → Int} {row : Nat → Int32} {lw : Nat} {set : Nat → Int64}
theorem v_isSo (hM : RM y row) (hL : LM L y lw) (hl : lw + 900 ≤ 5570) (hFu : 6000 ≤ Fu) (he : okE e) (hset : ∀ j, j < 10 → set (j + 1) = i64 (e j)) {c : Nat} (hc : c < L.1) {rs : Nat → Int64} {br : Int32} {val sum : Int64} :
    Rt (fX12_isSo Fu row (i32 (lw : Int)) set rs br val sum (i32 ((lw + 2 + 8 * c : Nat) : Int))) (fun r => (∀ v, hold L e c = some v → r.1 = 1 ∧ r.2.2.2.2 = i64 v ∧ -1000000000 ≤ v ∧ v ≤ 1000000000) ∧ (hold L e c = none → r.1 = 0)) := by
  obtain ⟨l0, l1, l5⟩ := hL
  obtain ⟨-, -, p, t, q, w1, w2, g1, g2, g3, g4, g5, g6, g7, g7', g8, g9⟩ := l5 c hc
  have pt := g8.1
  have ra : ∀ j, j < 400 → row (lw + 98 + 2 * j) = i32 (y (lw + 98 + 2 * j)) ∧ row (lw + 99 + 2 * j) = i32 (y (lw + 99 + 2 * j)) := fun j hj => ⟨hM _ (by omega), hM _ (by omega)⟩
  have a3 : row (((lw + 2 + 8 * c : Nat) : Int) + 3).toNat = i32 (p : Int) := by rw [show (((lw + 2 + 8 * c : Nat) : Int) + 3).toNat = lw + 5 + 8 * c by omega, hM _ (by omega), g1]
  have a4 : row (((lw + 2 + 8 * c : Nat) : Int) + 4).toNat = i32 (t : Int) := by rw [show (((lw + 2 + 8 * c : Nat) : Int) + 4).toNat = lw + 6 + 8 * c by omega, hM _ (by omega), g2]
  have a5 : row (((lw + 2 + 8 * c : Nat) : Int) + 5).toNat = i32 (t : Int) := by rw [show (((lw + 2 + 8 * c : Nat) : Int) + 5).toNat = lw + 7 + 8 * c by omega, hM _ (by omega), g3]
  have a6 : row (((lw + 2 + 8 * c : Nat) : Int) + 6).toNat = i32 (q : Int) := by rw [show (((lw + 2 + 8 * c : Nat) : Int) + 6).toNat = lw + 8 + 8 * c by omega, hM _ (by omega), g4]
  have h59 : ∀ (rs : Nat → Int64) (br : Int32) (val : Int64), Rt (fX12_isSo_L59 Fu row (i32 (lw : Int)) set rs br val sum (i32 ((lw + 2 + 8 * c : Nat) : Int))) (fun r => (∀ v, L.2.2.1 c e = some v → r.1 = 1 ∧ r.2.2.2.2 = i64 v ∧ -1000000000 ≤ v ∧ v ≤ 1000000000) ∧ (L.2.2.1 c e = none → r.1 = 0)) := by
    intro rs br val
    unfold fX12_isSo_L59
    simp (disch := omega) only [i32_lit, i32_add, gd_ok, i32_nat]
    rw [a3, a4]
    refine Rt.bind (g8.run (by omega) hFu he hset (fun j j1 j2 => ra j (by omega)) (by omega) hl) (fun r hr => ?_)
    cases es : L.2.2.1 c e with
    | none =>
      rw [hr.2 es, if_neg (by decide)]
      exact Rt.ret ⟨fun v hv => (by cases hv), fun _ => rfl⟩
    | some v =>
      have r1 := hr.1 v es
      refine Rt.ift r1.1 ?_
      exact Rt.ret ⟨fun v' hv => (by cases hv; exact ⟨rfl, r1.2, g8.2.1 e v he es⟩), fun hv => (by cases hv)⟩
  unfold fX12_isSo
  simp (disch := omega) only [i32_lit, i32_add, gd_ok, i32_nat]
  rw [a5, a6]
  simp (disch := omega) only [i32_le]
  rcases g9 with ⟨h, hn⟩ | h
  · rw [if_pos (by omega)]
    have hh : hold L e c = L.2.2.1 c e := by unfold hold; rw [hn e]; rfl
    rw [hh]; exact h59 rs br val
  · have := h.1
    rw [if_neg (by omega)]
    refine Rt.bind (h.run (by omega) hFu he hset (fun j j1 j2 => ra j (by omega)) (by omega) hl) (fun r hr => ?_)
    cases et : L.2.2.2 c e with
    | none =>
      have hh : hold L e c = none := by unfold hold; rw [et]; rfl
      rw [hh, hr.2 et, if_neg (by decide)]
      exact Rt.ret ⟨fun v hv => (by cases hv), fun _ => rfl⟩
    | some tv =>
      have r1 := hr.1 tv et
      have bt := h.2.1 e tv he et
      refine Rt.ift r1.1 ?_
      rw [r1.2, i64_litN 0]
      simp (disch := omega) only [i64_eq]
      by_cases c0 : tv = 0
      · have hh : hold L e c = none := by unfold hold; rw [et]; simp [c0]
        rw [hh, if_pos (by omega)]
        exact Rt.ret ⟨fun v hv => (by cases hv), fun _ => rfl⟩
      · have hh : hold L e c = L.2.2.1 c e := by unfold hold; rw [et]; simp [c0]
        rw [hh, if_neg (by omega)]
        exact h59 r.1 _ _
def nowT (o : Option Int) (wo : Int) : Int := match o with | some v => v | none => wo
theorem v_tellsL (hM : RM y row) (hL : LM L y lw) (hl : lw + 900 ≤ 5570) (hFu : 6000 ≤ Fu) (he : okE e) (hset : ∀ j, j < 10 → set (j + 1) = i64 (e j)) {hd wo most : Int} (d1 : 0 ≤ hd) (d2 : hd ≤ 2) (w0 : 0 ≤ wo) (w1 : wo ≤ most) (m2 : most ≤ 999) :
    ∀ (d f c : Nat) (rs : Nat → Int64) (br : Int32) (val sum : Int64), c + d = L.1 → d < f → -1000000000 ≤ nowT (tld L hd e c) wo → nowT (tld L hd e c) wo ≤ 1000000000 → Rt (fX12_tells_L153 Fu f row (i32 (lw : Int)) set rs br val sum (i32 hd) (i32 most) (i64 (nowT (tld L hd e c) wo)) (i32 (c : Int))) (fun r => r.1 = i32 (tof (tld L hd e L.1) wo most)) := by
  have l12 := hL.1
  have r1 : row ((lw : Int) + 1).toNat = i32 (L.1 : Int) := by rw [show ((lw : Int) + 1).toNat = lw + 1 by omega, hM _ (by omega), hL.2.1]
  intro d
  induction d with
  | zero =>
    intro f c rs br val sum hc hf n1 n2
    obtain ⟨f, rfl⟩ : ∃ f', f = f' + 1 := ⟨f - 1, by omega⟩
    obtain rfl : c = L.1 := by omega
    rw [fX12_tells_L153]
    simp (disch := omega) only [i32_lit, i32_add, gd_ok, i32_nat]
    rw [r1, if_pos (Int32.le_refl _), i32_64 (by omega) (by omega)]
    simp (disch := omega) only [i64_lit, i64_le]
    have key : tof (tld L hd e L.1) wo most = clp (nowT (tld L hd e L.1) wo) most := by
      unfold tof nowT
      cases tld L hd e L.1 with
      | none => simp only; unfold clp; rw [if_neg (by omega), if_neg (by omega)]
      | some v => rfl
    rw [key]
    refine Rt.ite (fun c1 => Rt.ite (fun c2 => Rt.ret ?_) (fun c2 => Rt.ret ?_)) (fun c1 => Rt.ret ?_)
    · rw [clp_mid c1 c2]; exact i64_32 _
    · rw [clp_hi c1 (by omega)]
    · rw [clp_lo (by omega)]
  | succ d ih =>
    intro f c rs br val sum hc hf n1 n2
    obtain ⟨f, rfl⟩ : ∃ f', f = f' + 1 := ⟨f - 1, by omega⟩
    have hcl := hL.2.2 c (by omega)
    rw [fX12_tells_L153]
    simp (disch := omega) only [i32_lit, i32_add, i32_mul, gd_ok, i32_nat]
    rw [r1]
    simp (disch := omega) only [i32_le]
    rw [if_neg (by omega)]
    rw [show ((lw : Int) + 2 + 8 * (c : Int)).toNat = lw + 2 + 8 * c by omega, hM _ (by omega), hcl.1]
    simp (disch := omega) only [i32_eq]
    rw [show (lw : Int) + 2 + 8 * (c : Int) = ((lw + 2 + 8 * c : Nat) : Int) by omega, show (c : Int) + 1 = ((c + 1 : Nat) : Int) by omega]
    have et : tld L hd e (c + 1) = if L.2.1 c = hd then (match hold L e c with | some v => some v | none => tld L hd e c) else tld L hd e c := rfl
    by_cases ch : L.2.1 c = hd
    · rw [if_pos ch]
      rw [if_pos ch] at et
      refine Rt.bind (v_isSo hM hL hl hFu he hset (by omega)) (fun r hr => ?_)
      cases eh : hold L e c with
      | none =>
        rw [eh] at et
        refine Rt.ift (hr.2 eh) ?_
        have := ih f (c + 1) r.2.1 r.2.2.1 r.2.2.2.1 r.2.2.2.2 (by omega) (by omega)
        rw [et] at this
        exact this n1 n2
      | some v =>
        rw [eh] at et
        have q := hr.1 v eh
        refine Rt.iff (by rw [q.1]; decide) ?_
        rw [q.2.1]
        have := ih f (c + 1) r.2.1 r.2.2.1 r.2.2.2.1 (i64 v) (by omega) (by omega)
        rw [et] at this
        exact this q.2.2.1 q.2.2.2
    · rw [if_neg ch]
      rw [if_neg ch] at et
      have := ih f (c + 1) rs br val sum (by omega) (by omega)
      rw [et] at this
      exact this n1 n2
end TOLD
