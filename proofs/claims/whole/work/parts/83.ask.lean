/-! ===== what the law in force tells of a beast ===== -/
def envOf (y : Nat → Int) (b : Nat) (hour fav side min : Int) : Nat → Int := fun j => if j = 0 then (b : Int) else if j = 1 then y (12 + 6 * b) else if j = 2 then hun y b hour else if j = 3 then y (15 + 6 * b) else if j = 4 then y (16 + 6 * b) else if j = 5 then fav else if j = 6 then hour else if j = 7 then y 7 else if j = 8 then side else min
def chn (y : Nat → Int) (LO : Option LwS) (b : Nat) (hour fav min : Int) : Int := TL LO 0 (envOf y b hour fav (-1) min) 50 100
def prc (y : Nat → Int) (LO : Option LwS) (b : Nat) (side : Int) : Int := TL LO 2 (envOf y b (y 6) (y (17 + 6 * b)) side 0) 10 999
def lie (y : Nat → Int) (LO : Option LwS) (b : Nat) (min : Int) : Int := TL LO 1 (envOf y b (y 6) (y (17 + 6 * b)) (-1) min) 10 100
theorem chn_rng {y : Nat → Int} {LO : Option LwS} {b : Nat} {h f m : Int} : 0 ≤ chn y LO b h f m ∧ chn y LO b h f m ≤ 100 := TL_rng (by omega) (by omega)
theorem prc_rng {y : Nat → Int} {LO : Option LwS} {b : Nat} {s : Int} : 0 ≤ prc y LO b s ∧ prc y LO b s ≤ 999 := TL_rng (by omega) (by omega)
theorem lie_rng {y : Nat → Int} {LO : Option LwS} {b : Nat} {m : Int} : 0 ≤ lie y LO b m ∧ lie y LO b m ≤ 100 := TL_rng (by omega) (by omega)
def HN (y : Nat → Int) (LO : Option LwS) : Prop := LO = none ∧ y 3 = -1
def HL (y : Nat → Int) (LO : Option LwS) (nh nt ne ns bb q : Nat) (a5 : Nat → Option Nat) (aL1 aL2 aL3 aL4 : Nat → Int32) : Prop := ∃ L, LO = some L ∧ 0 ≤ y 3 ∧ a5 (y 3).toNat = some (bb + q) ∧ LX L nh nt ne ns aL1 aL2 aL3 aL4
def MO (y : Nat → Int) (LO : Option LwS) : Prop := LO = none ∧ y 3 = -1 ∨ ∃ L, LO = some L ∧ 0 ≤ y 3 ∧ LM L y (170 + 900 * (y 3).toNat)
section ASK
variable {y : Nat → Int} {row : Nat → Int32} {beasts meals seats laws inForce cases : Int32} {tr mh te rs ju vo : Nat → Int32}
theorem WF.trt (hW : WF y) {b w : Nat} (hb : b < 8) (hw : w < 6) : 0 ≤ y (12 + 6 * b + w) ∧ y (12 + 6 * b + w) ≤ 99 := by
  have t1 := hW.2.2.2.2.2.2.2.1 (6 * b + w) (by omega)
  rw [show 12 + (6 * b + w) = 12 + 6 * b + w by omega] at t1
  have : hiT (((6 * b + w) % 6 : Nat) : Int) ≤ 99 := by unfold hiT; (repeat' split) <;> omega
  omega
theorem WF.fav (hW : WF y) {b : Nat} (hb : b < 8) : 0 ≤ y (17 + 6 * b) ∧ y (17 + 6 * b) ≤ 3 := by
  have t1 := hW.2.2.2.2.2.2.2.1 (6 * b + 5) (by omega)
  rw [show 12 + (6 * b + 5) = 17 + 6 * b by omega, show (((6 * b + 5) % 6 : Nat) : Int) = 5 by omega, show hiT 5 = 3 from rfl] at t1
  exact t1
theorem WF.term (hW : WF y) {t : Nat} (ht : t < 6) : loP t ≤ y (5 + t) ∧ y (5 + t) ≤ hiP t := hW.2.2.2.2.2.1 t ht
theorem WF.hour (hW : WF y) : 0 ≤ y 6 ∧ y 6 ≤ 23 := hW.term (t := 1) (by omega)
theorem WF.rain (hW : WF y) : 0 ≤ y 7 ∧ y 7 ≤ 1 := hW.term (t := 2) (by omega)
theorem WF.quota (hW : WF y) : 1 ≤ y 5 ∧ y 5 ≤ 8 := hW.term (t := 0) (by omega)
theorem env_ok (hW : WF y) {b h : Nat} {fav side min : Int} (hb : b < 8) (hh : h < 24) (f1 : -1 ≤ fav) (f2 : fav ≤ 100) (s1 : -1 ≤ side) (s2 : side ≤ 100) (m1 : -1 ≤ min) (m2 : min ≤ 100) : okE (envOf y b (h : Int) fav side min) := by
  intro j hj
  have hr := hun_rng hW hb hh
  have t0 := hW.trt (w := 0) hb (by omega)
  have t3 := hW.trt (w := 3) hb (by omega)
  have t4 := hW.trt (w := 4) hb (by omega)
  rw [show 12 + 6 * b + 0 = 12 + 6 * b by omega] at t0
  rw [show 12 + 6 * b + 3 = 15 + 6 * b by omega] at t3
  rw [show 12 + 6 * b + 4 = 16 + 6 * b by omega] at t4
  have hr7 := hW.rain
  unfold envOf
  (repeat' split) <;> omega
theorem x_traitN (hX : RX y beasts meals seats laws inForce tr mh te cases rs ju vo) {b w : Nat} (hb : b < 8) (hw : w < 6) : fX10_trait tr (i32 (b : Int)) (i32 (w : Int)) = some (i32 (y (12 + 6 * b + w))) := by
  rw [x_trait (by omega) (by omega) (by omega) (by omega), show (6 * (b : Int) + (w : Int)).toNat = 6 * b + w by omega, hX.2.2.2.2.2.1 _ (by omega), show 12 + (6 * b + w) = 12 + 6 * b + w by omega]
theorem v_ofN (hM : RM y row) {b w : Nat} (hb : b < 8) (hw : w < 6) : fX12_ofBeast row (i32 (b : Int)) (i32 (w : Int)) = some (i32 (y (12 + 6 * b + w))) := by
  rw [v_ofBeast (by omega) (by omega) (by omega) (by omega), show (12 + 6 * (b : Int) + (w : Int)).toNat = 12 + 6 * b + w by omega, hM _ (by omega)]
theorem x_fav (hX : RX y beasts meals seats laws inForce tr mh te cases rs ju vo) {b : Nat} (hb : b < 8) : fX10_trait tr (i32 (b : Int)) 5 = some (i32 (y (17 + 6 * b))) := by
  have := x_traitN (w := 5) hX hb (by omega)
  rw [show 12 + 6 * b + 5 = 17 + 6 * b by omega] at this
  exact this
theorem v_fav (hM : RM y row) {b : Nat} (hb : b < 8) : fX12_ofBeast row (i32 (b : Int)) 5 = some (i32 (y (17 + 6 * b))) := by
  have := v_ofN (w := 5) hM hb (by omega)
  rw [show 12 + 6 * b + 5 = 17 + 6 * b by omega] at this
  exact this
theorem x_learn (hW : WF y) (hX : RX y beasts meals seats laws inForce tr mh te cases rs ju vo) {a38 : Nat → Int32} {b h : Nat} {fav : Int} (hb : b < 8) (hh : h < 24) :
    Rt (fX0_learn tr mh te a38 (i32 (b : Int)) (i32 (h : Int)) (i32 fav)) (fun w => ∀ j, j < 10 → w j = i32 (envOf y b (h : Int) fav (-1) 0 j)) := by
  have t0 : fX10_trait tr (i32 (b : Int)) 0 = some (i32 (y (12 + 6 * b))) := x_traitN (w := 0) hX hb (by omega)
  have t3 : fX10_trait tr (i32 (b : Int)) 3 = some (i32 (y (15 + 6 * b))) := by
    have := x_traitN (w := 3) hX hb (by omega)
    rw [show 12 + 6 * b + 3 = 15 + 6 * b by omega] at this; exact this
  have t4 : fX10_trait tr (i32 (b : Int)) 4 = some (i32 (y (16 + 6 * b))) := by
    have := x_traitN (w := 4) hX hb (by omega)
    rw [show 12 + 6 * b + 4 = 16 + 6 * b by omega] at this; exact this
  have e7 : te (2 : Int32).toNatClampNeg = i32 (y 7) := hX.2.2.2.2.2.2.1 2 (by omega)
  unfold fX0_learn
  rw [t0, t3, t4, x_hungerIn hW hX hb hh, e7]
  have g : ∀ {α : Type} (n : Nat) (m : Nat) (k : Option α), n < m → m ≤ 10 → gd (OfNat.ofNat n : Int32) m k = k := by
    intro α n m k h1 h2
    rw [i32_litN n, gd_ok (by omega) (by omega) (by omega)]
  simp (disch := omega) only [Option.bind_some, g]
  refine Rt.ret (fun j hj => ?_)
  have c : ∀ n : Nat, n < 100 → (OfNat.ofNat n : Int32).toNatClampNeg = n := by
    intro n hn
    rw [i32_litN n, i32_nat (by omega) (by omega), Int.toNat_natCast]
  have hj' : j = 0 ∨ j = 1 ∨ j = 2 ∨ j = 3 ∨ j = 4 ∨ j = 5 ∨ j = 6 ∨ j = 7 ∨ j = 8 ∨ j = 9 := by omega
  rcases hj' with rfl | rfl | rfl | rfl | rfl | rfl | rfl | rfl | rfl | rfl <;> rfl
theorem env_min {w : Nat → Int32} {b : Nat} {h fav side min min' : Int} (hw : ∀ j, j < 10 → w j = i32 (envOf y b h fav side min j)) : ∀ j, j < 10 → va_up w 9 (i32 min') j = i32 (envOf y b h fav side min' j) := by
  intro j hj
  by_cases c : j = 9
  · subst c; rw [va_up_at]; rfl
  · rw [va_up_ne _ _ c, hw j hj]
    unfold envOf
    have hj' : j = 0 ∨ j = 1 ∨ j = 2 ∨ j = 3 ∨ j = 4 ∨ j = 5 ∨ j = 6 ∨ j = 7 ∨ j = 8 := by omega
    rcases hj' with rfl | rfl | rfl | rfl | rfl | rfl | rfl | rfl | rfl <;> rfl
theorem env_side {w : Nat → Int32} {b : Nat} {h fav side side' min : Int} (hw : ∀ j, j < 10 → w j = i32 (envOf y b h fav side min j)) : ∀ j, j < 10 → va_up w 8 (i32 side') j = i32 (envOf y b h fav side' min j) := by
  intro j hj
  by_cases c : j = 8
  · subst c; rw [va_up_at]; rfl
  · rw [va_up_ne _ _ c, hw j hj]
    unfold envOf
    have hj' : j = 0 ∨ j = 1 ∨ j = 2 ∨ j = 3 ∨ j = 4 ∨ j = 5 ∨ j = 6 ∨ j = 7 ∨ j = 9 := by omega
    rcases hj' with rfl | rfl | rfl | rfl | rfl | rfl | rfl | rfl | rfl <;> rfl
theorem x_rulN {LO : Option LwS} {a5 : Nat → Option Nat} (hX : RX y beasts meals seats laws inForce tr mh te cases rs ju vo) (h : HN y LO) : fX10_ruling_N laws inForce a5 = some none := by
  have e : inForce = i32 (-1) := by rw [hX.2.2.2.2.1, h.2]
  subst e
  rfl
theorem x_rulL {LO : Option LwS} {nh nt ne ns bb q : Nat} {a5 : Nat → Option Nat} {aL1 aL2 aL3 aL4 : Nat → Int32} (hW : WF y) (hX : RX y beasts meals seats laws inForce tr mh te cases rs ju vo) (h : HL y LO nh nt ne ns bb q a5 aL1 aL2 aL3 aL4) : fX10_ruling_L laws inForce a5 = some (some (bb + q)) := by
  obtain ⟨L, -, h3, h5, -⟩ := h
  have hl := hW.2.2.1
  have hf := hW.2.2.2.1
  unfold fX10_ruling_L
  rw [hX.2.2.2.2.1, hX.2.2.2.1]
  rw [if_neg (by rw [i32_litN 0, i32_lt (by omega) (by omega) (by omega) (by omega)]; omega), if_neg (by rw [i32_le (by omega) (by omega) (by omega) (by omega)]; omega), gd_ok (by omega) (by omega) (by omega), i32_nat (by omega) (by omega), h5]
theorem gd9 {α : Type} {n m : Nat} {k : Option α} (h1 : n < m) (h2 : m ≤ 100000) : gd (OfNat.ofNat n : Int32) m k = k := by
  rw [i32_litN n, gd_ok (by omega) (by omega) (by omega)]
theorem i32_nn9 {n : Nat} (h : n < 100000) : (OfNat.ofNat n : Int32).toNatClampNeg = n := by
  rw [i32_litN n, i32_nat (by omega) (by omega), Int.toNat_natCast]
theorem x_chanceOf_N {Fu : Nat} (hFu : 6000 ≤ Fu) {LO : Option LwS} {a5 : Nat → Option Nat} (hW : WF y) (hX : RX y beasts meals seats laws inForce tr mh te cases rs ju vo) (hH : HN y LO) (a38 : Nat → Int32) {b h : Nat} {fav min : Int} (hb : b < 8) (hh : h < 24) (f1 : -1 ≤ fav) (f2 : fav ≤ 100) (m1 : -1 ≤ min) (m2 : min ≤ 100) :
    Rt (fX0_chanceOf_N Fu laws inForce tr mh te a5 a38 (i32 (b : Int)) (i32 (h : Int)) (i32 fav) (i32 min)) (fun r => r.1 = i32 (chn y LO b (h : Int) fav min)) := by
  unfold fX0_chanceOf_N
  refine Rt.bind (x_learn hW hX hb hh) (fun w hw => ?_)
  rw [gd9 (by decide) (by decide), i32_nn9 (by decide)]
  rw [x_rulN hX hH]
  obtain ⟨rfl, -⟩ := hH
  exact Rt.ret rfl
theorem x_priceOf_N {Fu : Nat} (hFu : 6000 ≤ Fu) {LO : Option LwS} {a5 : Nat → Option Nat} (hW : WF y) (hX : RX y beasts meals seats laws inForce tr mh te cases rs ju vo) (hH : HN y LO) (a38 : Nat → Int32) {b : Nat} {side : Int} (hb : b < 8) (s1 : -1 ≤ side) (s2 : side ≤ 100) :
    Rt (fX0_priceOf_N Fu laws inForce tr mh te a5 a38 (i32 (b : Int)) (i32 side)) (fun r => r.1 = i32 (prc y LO b side)) := by
  have hr := hW.hour
  have hf := hW.fav hb
  obtain ⟨h, hh⟩ := Int.eq_ofNat_of_zero_le hr.1
  have e6 : te (1 : Int32).toNatClampNeg = i32 (h : Int) := by rw [← hh]; exact hX.2.2.2.2.2.2.1 1 (by omega)
  unfold fX0_priceOf_N
  rw [e6, gd9 (by decide) (by decide), x_fav hX hb]
  refine Rt.eqb rfl ?_
  refine Rt.bind (x_learn hW hX hb (show h < 24 by omega)) (fun w hw => ?_)
  rw [gd9 (by decide) (by decide), i32_nn9 (by decide)]
  unfold prc
  rw [hh]
  rw [x_rulN hX hH]
  obtain ⟨rfl, -⟩ := hH
  exact Rt.ret rfl
theorem x_liesOf_N {Fu : Nat} (hFu : 6000 ≤ Fu) {LO : Option LwS} {a5 : Nat → Option Nat} (hW : WF y) (hX : RX y beasts meals seats laws inForce tr mh te cases rs ju vo) (hH : HN y LO) (a38 : Nat → Int32) {b : Nat} {min : Int} (hb : b < 8) (m1 : -1 ≤ min) (m2 : min ≤ 100) :
    Rt (fX0_liesOf_N Fu laws inForce tr mh te a5 a38 (i32 (b : Int)) (i32 min)) (fun r => r.1 = i32 (lie y LO b min)) := by
  have hr := hW.hour
  have hf := hW.fav hb
  obtain ⟨h, hh⟩ := Int.eq_ofNat_of_zero_le hr.1
  have e6 : te (1 : Int32).toNatClampNeg = i32 (h : Int) := by rw [← hh]; exact hX.2.2.2.2.2.2.1 1 (by omega)
  unfold fX0_liesOf_N
  rw [e6, gd9 (by decide) (by decide), x_fav hX hb]
  refine Rt.eqb rfl ?_
  refine Rt.bind (x_learn hW hX hb (show h < 24 by omega)) (fun w hw => ?_)
  rw [gd9 (by decide) (by decide), i32_nn9 (by decide)]
  unfold lie
  rw [hh]
  rw [x_rulN hX hH]
  obtain ⟨rfl, -⟩ := hH
  exact Rt.ret rfl
theorem x_chanceOf_L {Fu : Nat} (hFu : 6000 ≤ Fu) {LO : Option LwS} {nh nt ne ns bb q : Nat} {a5 : Nat → Option Nat} {aL1 aL2 aL3 aL4 : Nat → Int32} (hW : WF y) (hX : RX y beasts meals seats laws inForce tr mh te cases rs ju vo) (hH : HL y LO nh nt ne ns bb q a5 aL1 aL2 aL3 aL4) (ht : Int32) (an : Int64) (a38 : Nat → Int32) (a39 : Nat → Int64) {b h : Nat} {fav min : Int} (hb : b < 8) (hh : h < 24) (f1 : -1 ≤ fav) (f2 : fav ≤ 100) (m1 : -1 ≤ min) (m2 : min ≤ 100) :
    Rt (fX0_chanceOf_L Fu nh nt ne ns bb q laws inForce tr mh te a5 ht an a38 a39 aL1 aL2 aL3 aL4 (i32 (b : Int)) (i32 (h : Int)) (i32 fav) (i32 min)) (fun r => r.1 = i32 (chn y LO b (h : Int) fav min)) := by
  unfold fX0_chanceOf_L
  refine Rt.bind (x_learn hW hX hb hh) (fun w hw => ?_)
  rw [gd9 (by decide) (by decide), i32_nn9 (by decide)]
  rw [x_rulL hW hX hH]
  obtain ⟨L, rfl, -, -, hLX⟩ := hH
  show Rt (gq _ _ _) _
  rw [gq_in rfl]
  refine Rt.bind (x_told (hd := 0) (wo := 50) (most := 100) hLX hFu (env_ok hW hb hh f1 f2 (by omega) (by omega) m1 m2) (env_min hw) (by omega) (by omega) (by omega) (by omega)) (fun r hr => ?_)
  exact Rt.ret hr
theorem x_priceOf_L {Fu : Nat} (hFu : 6000 ≤ Fu) {LO : Option LwS} {nh nt ne ns bb q : Nat} {a5 : Nat → Option Nat} {aL1 aL2 aL3 aL4 : Nat → Int32} (hW : WF y) (hX : RX y beasts meals seats laws inForce tr mh te cases rs ju vo) (hH : HL y LO nh nt ne ns bb q a5 aL1 aL2 aL3 aL4) (ht : Int32) (an : Int64) (a38 : Nat → Int32) (a39 : Nat → Int64) {b : Nat} {side : Int} (hb : b < 8) (s1 : -1 ≤ side) (s2 : side ≤ 100) :
    Rt (fX0_priceOf_L Fu nh nt ne ns bb q laws inForce tr mh te a5 ht an a38 a39 aL1 aL2 aL3 aL4 (i32 (b : Int)) (i32 side)) (fun r => r.1 = i32 (prc y LO b side)) := by
  have hr := hW.hour
  have hf := hW.fav hb
  obtain ⟨h, hh⟩ := Int.eq_ofNat_of_zero_le hr.1
  have e6 : te (1 : Int32).toNatClampNeg = i32 (h : Int) := by rw [← hh]; exact hX.2.2.2.2.2.2.1 1 (by omega)
  unfold fX0_priceOf_L
  rw [e6, gd9 (by decide) (by decide), x_fav hX hb]
  refine Rt.eqb rfl ?_
  refine Rt.bind (x_learn hW hX hb (show h < 24 by omega)) (fun w hw => ?_)
  rw [gd9 (by decide) (by decide), i32_nn9 (by decide)]
  unfold prc
  rw [hh]
  rw [x_rulL hW hX hH]
  obtain ⟨L, rfl, -, -, hLX⟩ := hH
  show Rt (gq _ _ _) _
  rw [gq_in rfl]
  refine Rt.bind (x_told (hd := 2) (wo := 10) (most := 999) hLX hFu (env_ok hW hb (show h < 24 by omega) (by omega) (by omega) s1 s2 (by omega) (by omega)) (env_side hw) (by omega) (by omega) (by omega) (by omega)) (fun r hr => ?_)
  exact Rt.ret hr
theorem x_liesOf_L {Fu : Nat} (hFu : 6000 ≤ Fu) {LO : Option LwS} {nh nt ne ns bb q : Nat} {a5 : Nat → Option Nat} {aL1 aL2 aL3 aL4 : Nat → Int32} (hW : WF y) (hX : RX y beasts meals seats laws inForce tr mh te cases rs ju vo) (hH : HL y LO nh nt ne ns bb q a5 aL1 aL2 aL3 aL4) (ht : Int32) (an : Int64) (a38 : Nat → Int32) (a39 : Nat → Int64) {b : Nat} {min : Int} (hb : b < 8) (m1 : -1 ≤ min) (m2 : min ≤ 100) :
    Rt (fX0_liesOf_L Fu nh nt ne ns bb q laws inForce tr mh te a5 ht an a38 a39 aL1 aL2 aL3 aL4 (i32 (b : Int)) (i32 min)) (fun r => r.1 = i32 (lie y LO b min)) := by
  have hr := hW.hour
  have hf := hW.fav hb
  obtain ⟨h, hh⟩ := Int.eq_ofNat_of_zero_le hr.1
  have e6 : te (1 : Int32).toNatClampNeg = i32 (h : Int) := by rw [← hh]; exact hX.2.2.2.2.2.2.1 1 (by omega)
  unfold fX0_liesOf_L
  rw [e6, gd9 (by decide) (by decide), x_fav hX hb]
  refine Rt.eqb rfl ?_
  refine Rt.bind (x_learn hW hX hb (show h < 24 by omega)) (fun w hw => ?_)
  rw [gd9 (by decide) (by decide), i32_nn9 (by decide)]
  unfold lie
  rw [hh]
  rw [x_rulL hW hX hH]
  obtain ⟨L, rfl, -, -, hLX⟩ := hH
  show Rt (gq _ _ _) _
  rw [gq_in rfl]
  refine Rt.bind (x_told (hd := 1) (wo := 10) (most := 100) hLX hFu (env_ok hW hb (show h < 24 by omega) (by omega) (by omega) (by omega) (by omega) m1 m2) (env_min hw) (by omega) (by omega) (by omega) (by omega)) (fun r hr => ?_)
  exact Rt.ret hr
theorem v_tells {Fu : Nat} (hFu : 6000 ≤ Fu) {LO : Option LwS} (hM : RM y row) (hW : WF y) (hO : MO y LO) {lw0 : Int32} {set rs : Nat → Int64} {br : Int32} {val sum : Int64} {hd : Int} {b h : Nat} {fav side min : Int} {wo most : Int} {HD SI WO MS : Int32} (eh : HD = i32 hd) (es : SI = i32 side) (ew : WO = i32 wo) (em : MS = i32 most) (d1 : 0 ≤ hd) (d2 : hd ≤ 2) (w0 : 0 ≤ wo) (hb : b < 8) (hh : h < 24) (f1 : -1 ≤ fav) (f2 : fav ≤ 100) (s1 : -1 ≤ side) (s2 : side ≤ 100) (m1 : -1 ≤ min) (m2 : min ≤ 100) (w1 : wo ≤ most) (mm : most ≤ 999) :
    Rt (fX12_tells Fu row lw0 set rs br val sum HD (i32 (b : Int)) (i32 (h : Int)) (i32 fav) SI (i32 min) WO MS) (fun r => r.1 = i32 (TL LO hd (envOf y b (h : Int) fav side min) wo most)) := by
  subst eh es ew em
  have hf := hW.2.2.2.1
  have hl := hW.2.2.1
  have hr7 := hW.rain
  have hhr := hun_rng hW hb hh
  have t0 := hW.trt (w := 0) hb (by omega)
  have t3 := hW.trt (w := 3) hb (by omega)
  have t4 := hW.trt (w := 4) hb (by omega)
  rw [show 12 + 6 * b + 3 = 15 + 6 * b by omega] at t3
  rw [show 12 + 6 * b + 4 = 16 + 6 * b by omega] at t4
  have o0 : fX12_ofBeast row (i32 (b : Int)) 0 = some (i32 (y (12 + 6 * b + 0))) := v_ofN (w := 0) hM hb (by omega)
  have o3 : fX12_ofBeast row (i32 (b : Int)) 3 = some (i32 (y (15 + 6 * b))) := by
    have := v_ofN (w := 3) hM hb (by omega)
    rw [show 12 + 6 * b + 3 = 15 + 6 * b by omega] at this; exact this
  have o4 : fX12_ofBeast row (i32 (b : Int)) 4 = some (i32 (y (16 + 6 * b))) := by
    have := v_ofN (w := 4) hM hb (by omega)
    rw [show 12 + 6 * b + 4 = 16 + 6 * b by omega] at this; exact this
  have e3 : row (3 : Int32).toNatClampNeg = i32 (y 3) := hM 3 (by omega)
  have e7 : row (7 : Int32).toNatClampNeg = i32 (y 7) := hM 7 (by omega)
  unfold fX12_tells
  rw [e3, e7, o0, o3, o4, v_hungerIn hM hW hFu hb hh, gd9 (by decide) (by decide)]
  rcases hO with ⟨rfl, h3⟩ | ⟨L, rfl, h3, hLM⟩
  · rw [h3, if_pos (show i32 (-1) = -1 from rfl)]
    exact Rt.ret rfl
  · have ne : ¬ i32 (y 3) = (-1 : Int32) := by
      rw [show (-1 : Int32) = i32 (-1) from rfl, i32_eq (by omega) (by omega) (by omega) (by omega)]; omega
    rw [if_neg ne]
    simp (disch := decide) only [Option.bind_some, gd9, i32_nn9]
    simp (disch := omega) only [i32_64]
    obtain ⟨l, el⟩ := Int.eq_ofNat_of_zero_le h3
    rw [el] at hLM
    rw [el, show (170 : Int32) + 900 * i32 (l : Int) = i32 ((170 + 900 * l : Nat) : Int) by rw [i32_litN 170, i32_litN 900, i32_mul, i32_add]; congr 1 <;> omega]
    rw [Int.toNat_natCast] at hLM
    refine (v_tellsL (L := L) (lw := 170 + 900 * l) (e := envOf y b (h : Int) fav side min) (hd := hd) (wo := wo) (most := most) hM hLM (by omega) hFu (env_ok hW hb hh f1 f2 s1 s2 m1 m2) ?_ d1 d2 w0 w1 mm L.1 Fu 0 rs br val sum (by omega) (by have := hLM.1; omega) (by show (-1000000000 : Int) ≤ wo; omega) (by show wo ≤ 1000000000; omega)).mono (fun r hr => hr)
    intro j hj
    have hj' : j = 0 ∨ j = 1 ∨ j = 2 ∨ j = 3 ∨ j = 4 ∨ j = 5 ∨ j = 6 ∨ j = 7 ∨ j = 8 ∨ j = 9 := by omega
    rcases hj' with rfl | rfl | rfl | rfl | rfl | rfl | rfl | rfl | rfl | rfl <;> rfl
theorem v_chanceOf {Fu : Nat} (hFu : 6000 ≤ Fu) {LO : Option LwS} (hM : RM y row) (hW : WF y) (hO : MO y LO) {lw0 : Int32} {set rs : Nat → Int64} {br : Int32} {val sum : Int64} {b h : Nat} {fav min : Int} (hb : b < 8) (hh : h < 24) (f1 : -1 ≤ fav) (f2 : fav ≤ 100) (m1 : -1 ≤ min) (m2 : min ≤ 100) :
    Rt (fX12_chanceOf Fu row lw0 set rs br val sum (i32 (b : Int)) (i32 (h : Int)) (i32 fav) (i32 min)) (fun r => r.1 = i32 (chn y LO b (h : Int) fav min)) := by
  unfold fX12_chanceOf
  refine Rt.bind (v_tells (hd := 0) (wo := 50) (most := 100) (side := -1) hFu hM hW hO rfl rfl rfl rfl (by omega) (by omega) (by omega) hb hh f1 f2 (by omega) (by omega) m1 m2 (by omega) (by omega)) (fun r hr => Rt.ret hr)
theorem v_priceOf {Fu : Nat} (hFu : 6000 ≤ Fu) {LO : Option LwS} (hM : RM y row) (hW : WF y) (hO : MO y LO) {lw0 : Int32} {set rs : Nat → Int64} {br : Int32} {val sum : Int64} {b : Nat} {side : Int} (hb : b < 8) (s1 : -1 ≤ side) (s2 : side ≤ 100) :
    Rt (fX12_priceOf Fu row lw0 set rs br val sum (i32 (b : Int)) (i32 side)) (fun r => r.1 = i32 (prc y LO b side)) := by
  have hr := hW.hour
  have hf := hW.fav hb
  obtain ⟨h, hh⟩ := Int.eq_ofNat_of_zero_le hr.1
  have e6 : row (6 : Int32).toNatClampNeg = i32 (h : Int) := by rw [← hh]; exact hM 6 (by omega)
  unfold fX12_priceOf
  rw [e6, gd9 (by decide) (by decide), v_fav hM hb]
  refine Rt.eqb rfl ?_
  unfold prc
  rw [hh]
  refine Rt.bind (v_tells (hd := 2) (wo := 10) (most := 999) (min := 0) hFu hM hW hO rfl rfl rfl rfl (by omega) (by omega) (by omega) hb (show h < 24 by omega) (by omega) (by omega) s1 s2 (by omega) (by omega) (by omega) (by omega)) (fun r hr => Rt.ret hr)
end ASK
