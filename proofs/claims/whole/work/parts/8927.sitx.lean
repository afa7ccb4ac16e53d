def LYs (held la : Int32) (a70 a71 lies since : Nat → Int32) (last : Int32) : Prop := held = 0 ∧ last = -1 ∨ held = 1 ∧ la = last ∧ last ≠ -1 ∧ ∀ b, b < 8 → a70 b = lies b ∧ (lies b = -1 → since b = -1) ∧ (lies b ≠ -1 → a71 b = since b)
section SITX
variable {y : Nat → Int} {row : Nat → Int32} {beasts meals seats laws inForce cases : Int32} {tr mh te rs ju vo : Nat → Int32} {LO : Option LwS} {Fu : Nat} {last status known th held la dr : Int32} {a78 refusals a70 a71 a72 : Nat → Int32}
theorem sit_all (hW : WF y) {n m : Nat} (en : y 0 = (n : Int)) (S : SitS) : sitR y LO m n 0 S = sitR y LO m 8 0 S := by
  obtain ⟨s, n', hs, en', n8, -, s256, sb⟩ := hW.seats
  have : n' = n := by omega
  subst this
  have es : (y 4).toNat = s := by rw [hs, Int.toNat_natCast]
  rw [show (8 : Nat) = n' + (8 - n') by omega, sitR_add, sitR_no (8 - n') (0 + n') _ (fun k hk => by rw [es]; exact sb k (by omega))]
theorem x_holdL_N (hFu : 6000 ≤ Fu) {a5 : Nat → Option Nat} (hW : WF y) (hX : RX y beasts meals seats laws inForce tr mh te cases rs ju vo) (hH : HN y LO) : ∀ (d f m : Nat) (a38 : Nat → Int32) (S : SitS) (la : Int) (dr : Int32) (a70 a71 a72 : Nat → Int32), m + d = 60 → d < f → okS y S → RCs y S dr a70 a71 a72 →
    Rt (fX7_hold_N_L38 Fu f beasts seats laws inForce tr mh te a5 a38 held (i32 la) dr a70 a71 a72 (i32 ((bcn (y 4).toNat 8 : Nat) : Int)) (i32 (m : Int))) (fun r => r.1 = i32 (sitH y LO d m S la).1 ∧ r.2.2.1 = held ∧ r.2.2.2.1 = i32 (sitH y LO d m S la).2.1 ∧ RCs y (sitH y LO d m S la).2.2 r.2.2.2.2.1 r.2.2.2.2.2.1 r.2.2.2.2.2.2.1 r.2.2.2.2.2.2.2) := by
  obtain ⟨n, en⟩ := Int.eq_ofNat_of_zero_le hW.1.1
  have hn := hW.1.2
  have hq := hW.quota
  have e5 : te (0 : Int32).toNatClampNeg = i32 (y 5) := hX.2.2.2.2.2.2.1 0 (by omega)
  intro d
  induction d with
  | zero =>
    intro f m a38 S la dr a70 a71 a72 hm hf hS hC
    obtain ⟨f, rfl⟩ : ∃ f', f = f' + 1 := ⟨f - 1, by omega⟩
    rw [fX7_hold_N_L38]
    exact Rt.ift (by rw [i32_litN 60, i32_le (by omega) (by omega) (by omega) (by omega)]; omega) (Rt.ret ⟨rfl, rfl, rfl, hC⟩)
  | succ d ih =>
    intro f m a38 S la dr a70 a71 a72 hm hf hS hC
    obtain ⟨f, rfl⟩ : ∃ f', f = f' + 1 := ⟨f - 1, by omega⟩
    rw [fX7_hold_N_L38]
    refine Rt.iff (by rw [i32_litN 60, i32_le (by omega) (by omega) (by omega) (by omega)]; omega) ?_
    unfold fX7_pass_N
    refine Rt.bind (x_pass_N hFu hW hX hH en (show m < 60 by omega) n Fu 0 a38 S dr a70 a71 a72 (by omega) (by omega) hS hC) (fun r4 h4 => ?_)
    rw [sit_all hW en] at h4
    have ok := ok_sitR (LO := LO) (show m < 60 by omega) 8 0 S hS
    rw [gd9 (by decide) (by decide), gd9 (by decide) (by decide), i32_nn9 (by decide), h4.2.2.2.1]
    rw [i32_nn9 (by decide)] at e5
    rw [e5, i32_p1]
    rw [show sitH y LO (d + 1) m S la = (if sitO y (sitR y LO m 8 0 S) = 2 then sitH y LO d (m + 1) (sitR y LO m 8 0 S) (m : Int) else (sitO y (sitR y LO m 8 0 S), (m : Int), sitR y LO m 8 0 S)) from rfl]
    have l0 := svt_le (y 4).toNat (sitR y LO m 8 0 S).1 0 8
    have l1 := svt_le (y 4).toNat (sitR y LO m 8 0 S).1 1 8
    have lb := bcn_le (y 4).toNat 8
    have go := ih f (m + 1) r4.1 (sitR y LO m 8 0 S) (m : Int) _ _ _ _ (by omega) (by omega) ok h4
    have h1 := h4.2.2.2.2
    have oE : sitO y (sitR y LO m 8 0 S) = if ((svt (y 4).toNat (sitR y LO m 8 0 S).1 0 8 : Nat) : Int) < y 5 then (if ((svt (y 4).toNat (sitR y LO m 8 0 S).1 1 8 : Nat) : Int) ≤ ((bcn (y 4).toNat 8 : Nat) : Int) - y 5 then 2 else 1) else 0 := rfl
    revert l0 l1 lb go h1 oE
    generalize svt (y 4).toNat (sitR y LO m 8 0 S).1 0 8 = p
    generalize svt (y 4).toNat (sitR y LO m 8 0 S).1 1 8 = q'
    generalize bcn (y 4).toNat 8 = z
    intro l0 l1 lb go h1 oE
    by_cases c : (p : Int) < y 5
    · rw [if_pos c] at oE
      refine Rt.ift (by rw [i32_lt (by omega) (by omega) (by omega) (by omega)]; exact c) ?_
      rw [gd9 (by decide) (by decide), gd9 (by decide) (by decide), i32_nn9 (by decide), h1, i32_sub]
      by_cases c2 : (q' : Int) ≤ (z : Int) - y 5
      · rw [if_pos c2] at oE
        rw [if_pos oE]
        exact Rt.ift (by rw [i32_le (by omega) (by omega) (by omega) (by omega)]; omega) go
      · rw [if_neg c2] at oE
        rw [if_neg (show ¬ sitO y (sitR y LO m 8 0 S) = 2 by rw [oE]; decide), oE]
        exact Rt.iff (by rw [i32_le (by omega) (by omega) (by omega) (by omega)]; omega) (Rt.ret ⟨rfl, rfl, rfl, h4⟩)
    · rw [if_neg c] at oE
      rw [if_neg (show ¬ sitO y (sitR y LO m 8 0 S) = 2 by rw [oE]; decide), oE]
      exact Rt.iff (by rw [i32_lt (by omega) (by omega) (by omega) (by omega)]; exact c) (Rt.ret ⟨rfl, rfl, rfl, h4⟩)
theorem q_sitting_N (hFu : 6000 ≤ Fu) {a5 : Nat → Option Nat} (hM : RM y row) (hW : WF y) (hX : RX y beasts meals seats laws inForce tr mh te cases rs ju vo) (hH : HN y LO) (hO : MO y LO) (hR : RR last a78 status refusals) {lw : Int32} {set rest : Nat → Int64} {br : Int32} {val sum st : Int64} {lies since : Nat → Int32} {lam : Int32} (a38 : Nat → Int32) (hL : LYs held la a70 a71 lies since lam) (x1 : Int32) :
    ∃ Rx Rm, fX11_sitting_N Fu last beasts seats laws inForce tr mh te a5 a38 known held la dr a70 a71 a72 a78 x1 = some Rx ∧ fX12_sitting Fu th status refusals row lw set rest br val sum lies since lam st x1 = some Rm ∧ Rx.1 = Rm.1 ∧ RR Rx.2.1 Rx.2.2.2.2.2.2.2.2.2.2 Rm.2.2.1 Rm.2.2.2.1 ∧ LYs Rx.2.2.2.2.1 Rx.2.2.2.2.2.1 Rx.2.2.2.2.2.2.2.1 Rx.2.2.2.2.2.2.2.2.1 Rm.2.2.2.2.2.2.2.2.2.2.1 Rm.2.2.2.2.2.2.2.2.2.2.2.1 Rm.2.2.2.2.2.2.2.2.2.2.2.2.1 ∧ (Rx.2.2.2.1 = 0 ∨ Rx.2.2.2.1 = known) := by
  obtain ⟨z, z0, z1, rfl⟩ := i32_any x1
  unfold fX11_sitting_N fX12_sitting
  rw [i32_64 z0 z1, show (0 : Int64) = i64 0 from rfl, show (1000000 : Int64) = i64 1000000 from rfl, v_in (by omega) (by omega) (by omega) (by omega) (by omega) (by omega), Option.bind_some]
  by_cases c : 0 ≤ z ∧ z ≤ 1000000
  · have cz : ¬ bI (0 ≤ z ∧ z ≤ 1000000) = 0 := by rw [bI_0]; exact fun q => q c
    rw [if_neg (show ¬ i32 z < 0 by rw [i32_litN 0, i32_lt (by omega) (by omega) (by omega) (by omega)]; omega), if_pos (show i32 z ≤ 1000000 by rw [i32_litN 1000000, i32_le (by omega) (by omega) (by omega) (by omega)]; omega), if_neg cz]
    obtain ⟨Rm, m1, m2, m3, m4, m5, m6⟩ := v_sit (Fu := Fu) (th := 0) (status := status) (ref := refusals) (lw := lw) (set := set) (rest := rest) (br := br) (val := val) (sum := sum) (la := lam) hFu hM hW hO c.1 c.2 8 Fu 0 lies since (by omega) (by omega) (fun k hk => by omega)
    obtain ⟨b1, g1, g2, g3⟩ := x_fill (Fu := Fu) (Ln := 8) (by omega) (-1) 8 Fu 0 a70 (by omega) (by omega)
    obtain ⟨b2, k1, k2, k3⟩ := x_fill (Fu := Fu) (Ln := 2) (by omega) 0 2 Fu 0 a72 (by omega) (by omega)
    obtain ⟨s, n, hs, en, n8, -, s256, -⟩ := hW.seats
    have es : (y 4).toNat = s := by rw [hs, Int.toNat_natCast]
    have e4 := hX.2.2.1
    have bc : fJ6_bitCount_0f7a4 seats = some (i32 ((bcn (y 4).toNat 8 : Nat) : Int)) := by rw [e4, es, hs]; exact x_bitCount ⟨s, s256⟩
    obtain ⟨l, -, -, rfl⟩ := i32_any la
    have okz := ok_sit0 (y := y) c.1 c.2
    obtain ⟨r, r0, r1, r2, r3, r4⟩ := x_holdL_N (held := 1) hFu hW hX hH 60 Fu 0 a38 (sit0 z) l (i32 z) b1 a71 b2 (by omega) (by omega) okz ⟨rfl, fun k hk => g2 k (by omega) hk, fun k hk hn => absurd rfl hn, by rw [svt_0 (σ := (sit0 z).1) (by decide) 8 (fun k _ => rfl)]; exact k2 0 (by omega) (by omega), by rw [svt_0 (σ := (sit0 z).1) (by decide) 8 (fun k _ => rfl)]; exact k2 1 (by omega) (by omega)⟩
    rw [show sitH y LO 60 0 (sit0 z) l = sitH y LO 60 0 (sit0 z) (-1) from rfl] at r1 r3 r4
    obtain ⟨o1, o2, o3, o4, o5⟩ := ok_sitH (y := y) (LO := LO) 60 0 (sit0 z) (-1) (by omega) okz (fun h => absurd h (by decide))
    have hold : fX7_hold_N Fu beasts seats laws inForce tr mh te a5 a38 held (i32 l) dr a70 a71 a72 (i32 z) = some r := by
      unfold fX7_hold_N fJ7_fill_53178
      have g1' : fJ7_fill_53178_L5 Fu 8 Fu a70 (-1) 0 (Int32.ofNat 8) = some b1 := g1
      have k1' : fJ7_fill_53178_L5 Fu 2 Fu a72 0 0 (Int32.ofNat 2) = some b2 := k1
      rw [g1', k1', bc]
      exact r0
    rw [hold, Option.bind_some, x_accept, Option.bind_some]
    have m1' : fX12_sitting_L31 Fu Fu 0 status refusals row lw set rest br val sum lies since lam (i64 z) 0 = some Rm := m1
    refine ⟨_, Rm, rfl, m1', ?_, ?_, ?_, Or.inl rfl⟩
    · show r.1 = Rm.1
      rw [r1, m2]
    · show RR 0 a78 Rm.2.2.1 Rm.2.2.2.1
      rw [m3, m4]; exact hR.acc
    · right
      refine ⟨r2, ?_, ?_, fun b hb => ⟨?_, fun h => ?_, fun h => ?_⟩⟩
      · show r.2.2.2.1 = _
        rw [r3, m5]
      · rw [m5, show (-1 : Int32) = i32 (-1) from rfl]
        intro h
        rw [i32_eq (by omega) (by omega) (by omega) (by omega)] at h
        omega
      · show r.2.2.2.2.2.1 b = _
        rw [r4.2.1 b hb, m6.1 b hb]
      · rw [m6.1 b hb, show (-1 : Int32) = i32 (-1) from rfl] at h
        have ob := o1.1 b hb
        rw [i32_eq (by omega) (by omega) (by omega) (by omega)] at h
        rw [m6.2.1 b hb, show (-1 : Int32) = i32 (-1) from rfl]
        exact congrArg i32 (by omega)
      · show r.2.2.2.2.2.2.1 b = _
        rw [m6.2.1 b hb]
        refine r4.2.2.1 b hb (fun e => h ?_)
        rw [m6.1 b hb, e]; rfl
  · have cz : bI (0 ≤ z ∧ z ≤ 1000000) = 0 := by rw [bI_0]; exact c
    have hx : ∀ {α : Type} (A B : α), (if i32 z < 0 then A else if i32 z ≤ 1000000 then B else A) = A := by
      intro α A B
      by_cases d : z < 0
      · rw [if_pos (show i32 z < 0 by rw [i32_litN 0, i32_lt (by omega) (by omega) (by omega) (by omega)]; omega)]
      · rw [if_neg (show ¬ i32 z < 0 by rw [i32_litN 0, i32_lt (by omega) (by omega) (by omega) (by omega)]; omega), if_neg (show ¬ i32 z ≤ 1000000 by rw [i32_litN 1000000, i32_le (by omega) (by omega) (by omega) (by omega)]; omega)]
    rw [hx, if_pos cz]
    unfold fX11_sitting_N_L11
    rw [show (-1 : Int32) = i32 (-1) from rfl, x_refuse (by omega) (by omega), v_tell_neg (by omega) (by omega)]
    exact ⟨_, _, rfl, rfl, rfl, hR.ref _ _, hL, Or.inr rfl⟩
theorem x_holdL_L (hFu : 6000 ≤ Fu) {nh nt ne ns bb q : Nat} {a5 : Nat → Option Nat} {aL1 aL2 aL3 aL4 : Nat → Int32} (hW : WF y) (hX : RX y beasts meals seats laws inForce tr mh te cases rs ju vo) (hH : HL y LO nh nt ne ns bb q a5 aL1 aL2 aL3 aL4) : ∀ (d f m : Nat) (ht : Int32) (an : Int64) (a38 : Nat → Int32) (a39 : Nat → Int64) (S : SitS) (la : Int) (dr : Int32) (a70 a71 a72 : Nat → Int32), m + d = 60 → d < f → okS y S → RCs y S dr a70 a71 a72 →
    Rt (fX7_hold_L_L38 Fu nh nt ne ns bb q f beasts seats laws inForce tr mh te a5 ht an a38 a39 held (i32 la) dr a70 a71 a72 aL1 aL2 aL3 aL4 (i32 ((bcn (y 4).toNat 8 : Nat) : Int)) (i32 (m : Int))) (fun r => r.1 = i32 (sitH y LO d m S la).1 ∧ r.2.2.2.2.2.1 = held ∧ r.2.2.2.2.2.2.1 = i32 (sitH y LO d m S la).2.1 ∧ RCs y (sitH y LO d m S la).2.2 r.2.2.2.2.2.2.2.1 r.2.2.2.2.2.2.2.2.1 r.2.2.2.2.2.2.2.2.2.1 r.2.2.2.2.2.2.2.2.2.2) := by
  obtain ⟨n, en⟩ := Int.eq_ofNat_of_zero_le hW.1.1
  have hn := hW.1.2
  have hq := hW.quota
  have e5 : te (0 : Int32).toNatClampNeg = i32 (y 5) := hX.2.2.2.2.2.2.1 0 (by omega)
  intro d
  induction d with
  | zero =>
    intro f m ht an a38 a39 S la dr a70 a71 a72 hm hf hS hC
    obtain ⟨f, rfl⟩ : ∃ f', f = f' + 1 := ⟨f - 1, by omega⟩
    rw [fX7_hold_L_L38]
    exact Rt.ift (by rw [i32_litN 60, i32_le (by omega) (by omega) (by omega) (by omega)]; omega) (Rt.ret ⟨rfl, rfl, rfl, hC⟩)
  | succ d ih =>
    intro f m ht an a38 a39 S la dr a70 a71 a72 hm hf hS hC
    obtain ⟨f, rfl⟩ : ∃ f', f = f' + 1 := ⟨f - 1, by omega⟩
    rw [fX7_hold_L_L38]
    refine Rt.iff (by rw [i32_litN 60, i32_le (by omega) (by omega) (by omega) (by omega)]; omega) ?_
    unfold fX7_pass_L
    refine Rt.bind (x_pass_L hFu hW hX hH en (show m < 60 by omega) n Fu 0 ht an a38 a39 S dr a70 a71 a72 (by omega) (by omega) hS hC) (fun r4 h4 => ?_)
    rw [sit_all hW en] at h4
    have ok := ok_sitR (LO := LO) (show m < 60 by omega) 8 0 S hS
    rw [gd9 (by decide) (by decide), gd9 (by decide) (by decide), i32_nn9 (by decide), h4.2.2.2.1]
    rw [i32_nn9 (by decide)] at e5
    rw [e5, i32_p1]
    rw [show sitH y LO (d + 1) m S la = (if sitO y (sitR y LO m 8 0 S) = 2 then sitH y LO d (m + 1) (sitR y LO m 8 0 S) (m : Int) else (sitO y (sitR y LO m 8 0 S), (m : Int), sitR y LO m 8 0 S)) from rfl]
    have l0 := svt_le (y 4).toNat (sitR y LO m 8 0 S).1 0 8
    have l1 := svt_le (y 4).toNat (sitR y LO m 8 0 S).1 1 8
    have lb := bcn_le (y 4).toNat 8
    have go := ih f (m + 1) r4.1 r4.2.1 r4.2.2.1 r4.2.2.2.1 (sitR y LO m 8 0 S) (m : Int) _ _ _ _ (by omega) (by omega) ok h4
    have h1 := h4.2.2.2.2
    have oE : sitO y (sitR y LO m 8 0 S) = if ((svt (y 4).toNat (sitR y LO m 8 0 S).1 0 8 : Nat) : Int) < y 5 then (if ((svt (y 4).toNat (sitR y LO m 8 0 S).1 1 8 : Nat) : Int) ≤ ((bcn (y 4).toNat 8 : Nat) : Int) - y 5 then 2 else 1) else 0 := rfl
    revert l0 l1 lb go h1 oE
    generalize svt (y 4).toNat (sitR y LO m 8 0 S).1 0 8 = p
    generalize svt (y 4).toNat (sitR y LO m 8 0 S).1 1 8 = q'
    generalize bcn (y 4).toNat 8 = z
    intro l0 l1 lb go h1 oE
    by_cases c : (p : Int) < y 5
    · rw [if_pos c] at oE
      refine Rt.ift (by rw [i32_lt (by omega) (by omega) (by omega) (by omega)]; exact c) ?_
      rw [gd9 (by decide) (by decide), gd9 (by decide) (by decide), i32_nn9 (by decide), h1, i32_sub]
      by_cases c2 : (q' : Int) ≤ (z : Int) - y 5
      · rw [if_pos c2] at oE
        rw [if_pos oE]
        exact Rt.ift (by rw [i32_le (by omega) (by omega) (by omega) (by omega)]; omega) go
      · rw [if_neg c2] at oE
        rw [if_neg (show ¬ sitO y (sitR y LO m 8 0 S) = 2 by rw [oE]; decide), oE]
        exact Rt.iff (by rw [i32_le (by omega) (by omega) (by omega) (by omega)]; omega) (Rt.ret ⟨rfl, rfl, rfl, h4⟩)
    · rw [if_neg c] at oE
      rw [if_neg (show ¬ sitO y (sitR y LO m 8 0 S) = 2 by rw [oE]; decide), oE]
      exact Rt.iff (by rw [i32_lt (by omega) (by omega) (by omega) (by omega)]; exact c) (Rt.ret ⟨rfl, rfl, rfl, h4⟩)
theorem q_sitting_L (hFu : 6000 ≤ Fu) {nh nt ne ns bb q : Nat} {a5 : Nat → Option Nat} {aL1 aL2 aL3 aL4 : Nat → Int32} (hM : RM y row) (hW : WF y) (hX : RX y beasts meals seats laws inForce tr mh te cases rs ju vo) (hH : HL y LO nh nt ne ns bb q a5 aL1 aL2 aL3 aL4) (hO : MO y LO) (hR : RR last a78 status refusals) {lw : Int32} {set rest : Nat → Int64} {br : Int32} {val sum st : Int64} {lies since : Nat → Int32} {lam : Int32} (ht : Int32) (an : Int64) (a38 : Nat → Int32) (a39 : Nat → Int64) (hL : LYs held la a70 a71 lies since lam) (x1 : Int32) :
    ∃ Rx Rm, fX11_sitting_L Fu nh nt ne ns bb q last beasts seats laws inForce tr mh te a5 ht an a38 a39 known held la dr a70 a71 a72 a78 aL1 aL2 aL3 aL4 x1 = some Rx ∧ fX12_sitting Fu th status refusals row lw set rest br val sum lies since lam st x1 = some Rm ∧ Rx.1 = Rm.1 ∧ RR Rx.2.1 Rx.2.2.2.2.2.2.2.2.2.2.2.2.2 Rm.2.2.1 Rm.2.2.2.1 ∧ LYs Rx.2.2.2.2.2.2.2.1 Rx.2.2.2.2.2.2.2.2.1 Rx.2.2.2.2.2.2.2.2.2.2.1 Rx.2.2.2.2.2.2.2.2.2.2.2.1 Rm.2.2.2.2.2.2.2.2.2.2.1 Rm.2.2.2.2.2.2.2.2.2.2.2.1 Rm.2.2.2.2.2.2.2.2.2.2.2.2.1 ∧ (Rx.2.2.2.2.2.2.1 = 0 ∨ Rx.2.2.2.2.2.2.1 = known) := by
  obtain ⟨z, z0, z1, rfl⟩ := i32_any x1
  unfold fX11_sitting_L fX12_sitting
  rw [i32_64 z0 z1, show (0 : Int64) = i64 0 from rfl, show (1000000 : Int64) = i64 1000000 from rfl, v_in (by omega) (by omega) (by omega) (by omega) (by omega) (by omega), Option.bind_some]
  by_cases c : 0 ≤ z ∧ z ≤ 1000000
  · have cz : ¬ bI (0 ≤ z ∧ z ≤ 1000000) = 0 := by rw [bI_0]; exact fun q => q c
    rw [if_neg (show ¬ i32 z < 0 by rw [i32_litN 0, i32_lt (by omega) (by omega) (by omega) (by omega)]; omega), if_pos (show i32 z ≤ 1000000 by rw [i32_litN 1000000, i32_le (by omega) (by omega) (by omega) (by omega)]; omega), if_neg cz]
    obtain ⟨Rm, m1, m2, m3, m4, m5, m6⟩ := v_sit (Fu := Fu) (th := 0) (status := status) (ref := refusals) (lw := lw) (set := set) (rest := rest) (br := br) (val := val) (sum := sum) (la := lam) hFu hM hW hO c.1 c.2 8 Fu 0 lies since (by omega) (by omega) (fun k hk => by omega)
    obtain ⟨b1, g1, g2, g3⟩ := x_fill (Fu := Fu) (Ln := 8) (by omega) (-1) 8 Fu 0 a70 (by omega) (by omega)
    obtain ⟨b2, k1, k2, k3⟩ := x_fill (Fu := Fu) (Ln := 2) (by omega) 0 2 Fu 0 a72 (by omega) (by omega)
    obtain ⟨s, n, hs, en, n8, -, s256, -⟩ := hW.seats
    have es : (y 4).toNat = s := by rw [hs, Int.toNat_natCast]
    have e4 := hX.2.2.1
    have bc : fJ6_bitCount_0f7a4 seats = some (i32 ((bcn (y 4).toNat 8 : Nat) : Int)) := by rw [e4, es, hs]; exact x_bitCount ⟨s, s256⟩
    obtain ⟨l, -, -, rfl⟩ := i32_any la
    have okz := ok_sit0 (y := y) c.1 c.2
    obtain ⟨r, r0, r1, r2, r3, r4⟩ := x_holdL_L (held := 1) hFu hW hX hH 60 Fu 0 ht an a38 a39 (sit0 z) l (i32 z) b1 a71 b2 (by omega) (by omega) okz ⟨rfl, fun k hk => g2 k (by omega) hk, fun k hk hn => absurd rfl hn, by rw [svt_0 (σ := (sit0 z).1) (by decide) 8 (fun k _ => rfl)]; exact k2 0 (by omega) (by omega), by rw [svt_0 (σ := (sit0 z).1) (by decide) 8 (fun k _ => rfl)]; exact k2 1 (by omega) (by omega)⟩
    rw [show sitH y LO 60 0 (sit0 z) l = sitH y LO 60 0 (sit0 z) (-1) from rfl] at r1 r3 r4
    obtain ⟨o1, o2, o3, o4, o5⟩ := ok_sitH (y := y) (LO := LO) 60 0 (sit0 z) (-1) (by omega) okz (fun h => absurd h (by decide))
    have hold : fX7_hold_L Fu nh nt ne ns bb q beasts seats laws inForce tr mh te a5 ht an a38 a39 held (i32 l) dr a70 a71 a72 aL1 aL2 aL3 aL4 (i32 z) = some r := by
      unfold fX7_hold_L fJ7_fill_53178
      have g1' : fJ7_fill_53178_L5 Fu 8 Fu a70 (-1) 0 (Int32.ofNat 8) = some b1 := g1
      have k1' : fJ7_fill_53178_L5 Fu 2 Fu a72 0 0 (Int32.ofNat 2) = some b2 := k1
      rw [g1', k1', bc]
      exact r0
    rw [hold, Option.bind_some, x_accept, Option.bind_some]
    have m1' : fX12_sitting_L31 Fu Fu 0 status refusals row lw set rest br val sum lies since lam (i64 z) 0 = some Rm := m1
    refine ⟨_, Rm, rfl, m1', ?_, ?_, ?_, Or.inl rfl⟩
    · show r.1 = Rm.1
      rw [r1, m2]
    · show RR 0 a78 Rm.2.2.1 Rm.2.2.2.1
      rw [m3, m4]; exact hR.acc
    · right
      refine ⟨r2, ?_, ?_, fun b hb => ⟨?_, fun h => ?_, fun h => ?_⟩⟩
      · show r.2.2.2.2.2.2.1 = _
        rw [r3, m5]
      · rw [m5, show (-1 : Int32) = i32 (-1) from rfl]
        intro h
        rw [i32_eq (by omega) (by omega) (by omega) (by omega)] at h
        omega
      · show r.2.2.2.2.2.2.2.2.1 b = _
        rw [r4.2.1 b hb, m6.1 b hb]
      · rw [m6.1 b hb, show (-1 : Int32) = i32 (-1) from rfl] at h
        have ob := o1.1 b hb
        rw [i32_eq (by omega) (by omega) (by omega) (by omega)] at h
        rw [m6.2.1 b hb, show (-1 : Int32) = i32 (-1) from rfl]
        exact congrArg i32 (by omega)
      · show r.2.2.2.2.2.2.2.2.2.1 b = _
        rw [m6.2.1 b hb]
        refine r4.2.2.1 b hb (fun e => h ?_)
        rw [m6.1 b hb, e]; rfl
  · have cz : bI (0 ≤ z ∧ z ≤ 1000000) = 0 := by rw [bI_0]; exact c
    have hx : ∀ {α : Type} (A B : α), (if i32 z < 0 then A else if i32 z ≤ 1000000 then B else A) = A := by
      intro α A B
      by_cases d : z < 0
      · rw [if_pos (show i32 z < 0 by rw [i32_litN 0, i32_lt (by omega) (by omega) (by omega) (by omega)]; omega)]
      · rw [if_neg (show ¬ i32 z < 0 by rw [i32_litN 0, i32_lt (by omega) (by omega) (by omega) (by omega)]; omega), if_neg (show ¬ i32 z ≤ 1000000 by rw [i32_litN 1000000, i32_le (by omega) (by omega) (by omega) (by omega)]; omega)]
    rw [hx, if_pos cz]
    unfold fX11_sitting_L_L11
    rw [show (-1 : Int32) = i32 (-1) from rfl, x_refuse (by omega) (by omega), v_tell_neg (by omega) (by omega)]
    exact ⟨_, _, rfl, rfl, rfl, hR.ref _ _, hL, Or.inr rfl⟩
theorem q_lay {lies since : Nat → Int32} {lam : Int32} (hL : LYs held la a70 a71 lies since lam) (x1 x2 : Int32) : ∃ r t, fX11_lay held la a70 a71 x1 x2 = some r ∧ fX12_lay th lies since lam x1 x2 = some (r, t) := by
  obtain ⟨b, b1, b2, rfl⟩ := i32_any x1
  obtain ⟨w, w1, w2, rfl⟩ := i32_any x2
  unfold fX11_lay fX12_lay
  rw [x_isEither w w1 w2, i32_64 w1 w2, i32_64 b1 b2, show (0 : Int64) = i64 0 from rfl, show (1 : Int64) = i64 1 from rfl, show (7 : Int64) = i64 7 from rfl, v_in (by omega) (by omega) (by omega) (by omega) (by omega) (by omega), v_in (by omega) (by omega) (by omega) (by omega) (by omega) (by omega), Option.bind_some, Option.bind_some, Option.bind_some]
  by_cases c : 0 ≤ w ∧ w ≤ 1
  case neg =>
    have cz : bI (0 ≤ w ∧ w ≤ 1) = 0 := by rw [bI_0]; exact c
    rw [if_pos cz, if_pos cz]; exact ⟨_, _, rfl, rfl⟩
  have cz : ¬ bI (0 ≤ w ∧ w ≤ 1) = 0 := by rw [bI_0]; exact fun q => q c
  rw [if_neg cz, if_neg cz]
  rcases hL with ⟨rfl, rfl⟩ | ⟨rfl, rfl, hl, h⟩
  · rw [if_pos rfl, if_pos rfl]; exact ⟨_, _, rfl, rfl⟩
  · rw [if_neg (show ¬ (1 : Int32) = 0 by decide), if_neg hl]
    by_cases c1 : i32 b = -1
    · rw [if_pos c1, if_pos c1]; exact ⟨_, _, rfl, rfl⟩
    rw [if_neg c1, if_neg c1]
    by_cases c2 : 0 ≤ b ∧ b ≤ 7
    · have cy : ¬ bI (0 ≤ b ∧ b ≤ 7) = 0 := by rw [bI_0]; exact fun q => q c2
      have tb : (i32 b).toNatClampNeg = b.toNat := i32_nat (by omega) (by omega)
      have g : ∀ {α : Type} (k : Option α), gd (i32 b) 8 k = k := fun k => gd_ok (by omega) (by omega) (by omega)
      rw [if_neg (show ¬ i32 b < 0 by rw [i32_litN 0, i32_lt (by omega) (by omega) (by omega) (by omega)]; omega), if_neg (show ¬ (8 : Int32) ≤ i32 b by rw [i32_litN 8, i32_le (by omega) (by omega) (by omega) (by omega)]; omega), if_neg cy]
      simp only [g, tb]
      obtain ⟨h1, h2, h3⟩ := h b.toNat (by omega)
      rw [h1]
      by_cases c3 : lies b.toNat = -1
      · rw [if_pos c3]
        refine ⟨_, 0, rfl, ?_⟩
        by_cases c4 : i32 w = 0
        · rw [if_pos c4, c3]
        · rw [if_neg c4, h2 c3]
      · rw [if_neg c3, h3 c3]
        by_cases c4 : i32 w = 0
        · rw [if_pos c4, if_pos c4]; exact ⟨_, _, rfl, rfl⟩
        · rw [if_neg c4, if_neg c4]; exact ⟨_, _, rfl, rfl⟩
    · have cy : bI (0 ≤ b ∧ b ≤ 7) = 0 := by rw [bI_0]; exact c2
      rw [if_pos cy]
      by_cases d : b < 0
      · rw [if_pos (show i32 b < 0 by rw [i32_litN 0, i32_lt (by omega) (by omega) (by omega) (by omega)]; omega)]; exact ⟨_, _, rfl, rfl⟩
      · rw [if_neg (show ¬ i32 b < 0 by rw [i32_litN 0, i32_lt (by omega) (by omega) (by omega) (by omega)]; omega), if_pos (show (8 : Int32) ≤ i32 b by rw [i32_litN 8, i32_le (by omega) (by omega) (by omega) (by omega)]; omega)]; exact ⟨_, _, rfl, rfl⟩
end SITX
