/-! ===== a sitting ===== -/
def sD (d : Int) : Int := (d * 1103 + 12345) % 1000003
abbrev SitS := (Nat → Int) × (Nat → Int) × Int
def sit1 (y : Nat → Int) (LO : Option LwS) (m b : Nat) (S : SitS) : SitS :=
  if (y 4).toNat.testBit b = true ∧ S.1 b = -1 then
    if lie y LO b (m : Int) ≤ sD S.2.2 % 100 then (S.1, S.2.1, sD S.2.2)
    else (va_up S.1 b (if chn y LO b (y 6) (y (17 + 6 * b)) (m : Int) ≤ sD (sD S.2.2) % 100 then 1 else 0), va_up S.2.1 b (m : Int), sD (sD S.2.2))
  else S
def sitR (y : Nat → Int) (LO : Option LwS) (m : Nat) : Nat → Nat → SitS → SitS
  | 0, _, S => S
  | d + 1, b, S => sitR y LO m d (b + 1) (sit1 y LO m b S)
def svt (s : Nat) (σ : Nat → Int) (w : Int) : Nat → Nat
  | 0 => 0
  | k + 1 => svt s σ w k + (if s.testBit k = true ∧ σ k = w then 1 else 0)
def okS (y : Nat → Int) (S : SitS) : Prop := (∀ b, b < 8 → S.1 b = -1 ∧ S.2.1 b = -1 ∨ ((S.1 b = 0 ∨ S.1 b = 1) ∧ 0 ≤ S.2.1 b ∧ S.2.1 b < 60)) ∧ 0 ≤ S.2.2 ∧ S.2.2 ≤ 1000002
def RCs (y : Nat → Int) (S : SitS) (dr : Int32) (a70 a71 a72 : Nat → Int32) : Prop := dr = i32 S.2.2 ∧ (∀ b, b < 8 → a70 b = i32 (S.1 b)) ∧ (∀ b, b < 8 → S.1 b ≠ -1 → a71 b = i32 (S.2.1 b)) ∧ a72 0 = i32 (svt (y 4).toNat S.1 0 8 : Nat) ∧ a72 1 = i32 (svt (y 4).toNat S.1 1 8 : Nat)
def RMs (S : SitS) (lies since : Nat → Int32) (st : Int64) : Prop := (∀ b, b < 8 → lies b = i32 (S.1 b)) ∧ (∀ b, b < 8 → since b = i32 (S.2.1 b)) ∧ st = i64 S.2.2
def sitO (y : Nat → Int) (S : SitS) : Int := if ((svt (y 4).toNat S.1 0 8 : Nat) : Int) < y 5 then (if ((svt (y 4).toNat S.1 1 8 : Nat) : Int) ≤ ((bcn (y 4).toNat 8 : Nat) : Int) - y 5 then 2 else 1) else 0
def sitH (y : Nat → Int) (LO : Option LwS) : Nat → Nat → SitS → Int → Int × Int × SitS
  | 0, _, S, la => (2, la, S)
  | d + 1, m, S, _ => if sitO y (sitR y LO m 8 0 S) = 2 then sitH y LO d (m + 1) (sitR y LO m 8 0 S) (m : Int) else (sitO y (sitR y LO m 8 0 S), (m : Int), sitR y LO m 8 0 S)
theorem sD_rng (d : Int) : 0 ≤ sD d ∧ sD d ≤ 1000002 := by unfold sD; omega
theorem x_draw {d : Int} (h1 : 0 ≤ d) (h2 : d ≤ 1000002) : fX7_draw (i32 d) = some (i32 (sD d % 100), i32 (sD d)) := by
  unfold fX7_draw
  have e : i32 d * 1103 + 12345 = i32 (d * 1103 + 12345) := by rw [i32_litN 1103, i32_litN 12345, i32_mul, i32_add]; rfl
  have r := sD_rng d
  rw [e, show (1000003 : Int32) = i32 1000003 from rfl, show (100 : Int32) = i32 100 from rfl, gz_ok (by decide) (by omega) (by omega), gz_ok (by decide) (by omega) (by omega), i32_div (by omega) (by omega) (by omega) (by omega), i32_mul, i32_sub]
  rw [show d * 1103 + 12345 - (d * 1103 + 12345) / 1000003 * 1000003 = sD d by unfold sD; omega, i32_div (by omega) (by omega) (by omega) (by omega), i32_mul, i32_sub, show sD d - sD d / 100 * 100 = sD d % 100 by omega]
theorem v_draw {d : Int} (h1 : 0 ≤ d) (h2 : d ≤ 1000002) : fX12_draw (i64 d) = some (i32 (sD d % 100), i64 (sD d)) := by
  unfold fX12_draw
  have e : i64 d * 1103 + 12345 = i64 (d * 1103 + 12345) := by rw [i64_litN 1103, i64_litN 12345, i64_mul, i64_add]; rfl
  have r := sD_rng d
  rw [e, show (1000003 : Int64) = i64 1000003 from rfl, show (100 : Int64) = i64 100 from rfl, gzl_ok (by decide) (by omega) (by omega), gzl_ok (by decide) (by omega) (by omega), i64_div (by omega) (by omega) (by omega) (by omega), i64_mul, i64_sub]
  rw [show d * 1103 + 12345 - (d * 1103 + 12345) / 1000003 * 1000003 = sD d by unfold sD; omega, i64_div (by omega) (by omega) (by omega) (by omega), i64_mul, i64_sub, show sD d - sD d / 100 * 100 = sD d % 100 by omega, i64_32]
theorem svt_le (s : Nat) (σ : Nat → Int) (w : Int) : ∀ n, svt s σ w n ≤ n := by
  intro n
  induction n with
  | zero => exact Nat.le_refl 0
  | succ n ih => unfold svt; split <;> omega
theorem svt_lo {s : Nat} {σ : Nat → Int} {w z : Int} {b : Nat} : ∀ n, n ≤ b → svt s (va_up σ b z) w n = svt s σ w n := by
  intro n
  induction n with
  | zero => intro _; rfl
  | succ n ih =>
    intro h
    unfold svt
    rw [ih (by omega), va_up_ne _ _ (by omega)]
theorem svt_up {s : Nat} {σ : Nat → Int} {w z : Int} {b : Nat} (hb : s.testBit b = true) (h1 : σ b = -1) (hw : 0 ≤ w) : ∀ n, b < n → svt s (va_up σ b z) w n = svt s σ w n + (if z = w then 1 else 0) := by
  intro n
  induction n with
  | zero => intro h; omega
  | succ n ih =>
    intro h
    unfold svt
    by_cases c : n = b
    · subst c
      rw [svt_lo n (Nat.le_refl n), va_up_at, h1, if_neg (show ¬ (s.testBit n = true ∧ (-1 : Int) = w) from fun q => by omega)]
      by_cases d : z = w
      · rw [if_pos ⟨hb, d⟩, if_pos d]
      · rw [if_neg (fun q => d q.2), if_neg d]
    · rw [ih (by omega), va_up_ne _ _ c]
      omega
theorem svt_0 {s : Nat} {σ : Nat → Int} {w : Int} (hw : w ≠ -1) : ∀ n, (∀ k, k < n → σ k = -1) → svt s σ w n = 0 := by
  intro n
  induction n with
  | zero => intro _; rfl
  | succ n ih =>
    intro h
    unfold svt
    rw [ih (fun k hk => h k (by omega)), if_neg]
    intro q
    exact hw (q.2.symm.trans (h n (by omega)))
section SIT
variable {y : Nat → Int} {row : Nat → Int32} {beasts meals seats laws inForce cases : Int32} {tr mh te rs ju vo : Nat → Int32} {LO : Option LwS} {Fu : Nat}
theorem ok_sit1 {S : SitS} {m b : Nat} (h : okS y S) (hm : m < 60) : okS y (sit1 y LO m b S) := by
  unfold sit1
  by_cases c : (y 4).toNat.testBit b = true ∧ S.1 b = -1
  · rw [if_pos c]
    by_cases e : lie y LO b (m : Int) ≤ sD S.2.2 % 100
    · rw [if_pos e]
      exact ⟨h.1, sD_rng _⟩
    · rw [if_neg e]
      refine ⟨fun k hk => ?_, sD_rng _⟩
      show va_up S.1 b _ k = -1 ∧ va_up S.2.1 b _ k = -1 ∨ _
      by_cases f : k = b
      · subst f
        right
        show (va_up S.1 k _ k = 0 ∨ va_up S.1 k _ k = 1) ∧ 0 ≤ va_up S.2.1 k _ k ∧ va_up S.2.1 k _ k < 60
        rw [va_up_at, va_up_at]
        refine ⟨?_, by omega, by omega⟩
        split
        · right; rfl
        · left; rfl
      · rw [va_up_ne _ _ f, va_up_ne _ _ f]
        rcases h.1 k hk with g | g
        · exact Or.inl g
        · right
          show (va_up S.1 b _ k = 0 ∨ va_up S.1 b _ k = 1) ∧ 0 ≤ va_up S.2.1 b _ k ∧ va_up S.2.1 b _ k < 60
          rw [va_up_ne _ _ f, va_up_ne _ _ f]; exact g
  · rw [if_neg c]; exact h
theorem ok_sitR {m : Nat} (hm : m < 60) : ∀ (d b : Nat) (S : SitS), okS y S → okS y (sitR y LO m d b S) := by
  intro d
  induction d with
  | zero => intro b S h; exact h
  | succ d ih => intro b S h; exact ih (b + 1) _ (ok_sit1 h hm)
theorem sitR_add {m : Nat} : ∀ (d e b : Nat) (S : SitS), sitR y LO m (d + e) b S = sitR y LO m e (b + d) (sitR y LO m d b S) := by
  intro d
  induction d with
  | zero => intro e b S; rw [Nat.zero_add]; rfl
  | succ d ih =>
    intro e b S
    rw [show d + 1 + e = (d + e) + 1 by omega]
    show sitR y LO m (d + e) (b + 1) _ = sitR y LO m e (b + (d + 1)) (sitR y LO m d (b + 1) _)
    rw [ih, show b + 1 + d = b + (d + 1) by omega]
theorem sitR_no {m : Nat} : ∀ (d b : Nat) (S : SitS), (∀ k, b ≤ k → (y 4).toNat.testBit k = false) → sitR y LO m d b S = S := by
  intro d
  induction d with
  | zero => intro b S _; rfl
  | succ d ih =>
    intro b S h
    show sitR y LO m d (b + 1) (sit1 y LO m b S) = S
    have : sit1 y LO m b S = S := by
      unfold sit1
      rw [if_neg]
      intro q
      rw [h b (Nat.le_refl b)] at q
      exact absurd q.1 (by decide)
    rw [this]
    exact ih (b + 1) S (fun k hk => h k (by omega))
theorem x_lay90_N {a5 : Nat → Option Nat} (a38 : Nat → Int32) {k3} {dr : Int32} {a70 a71 a72 : Nat → Int32} {m b w : Nat} (hb : b < 8) (hw : w < 2) : fX7_pass_N_L90 Fu k3 beasts seats laws inForce tr mh te a5 a38 dr a70 a71 a72 (i32 (m : Int)) (i32 (b : Int)) (i32 (w : Int)) (i32 (b : Int)) = k3 beasts seats laws inForce tr mh te a5 a38 dr (va_up a70 b (i32 (w : Int))) (va_up a71 b (i32 (m : Int))) (va_up a72 w (a72 w + 1)) (i32 (m : Int)) (i32 ((b + 1 : Nat) : Int)) := by
  unfold fX7_pass_N_L90
  have t : (i32 (b : Int)).toNatClampNeg = b := by rw [i32_nat (by omega) (by omega), Int.toNat_natCast]
  have u : (i32 (w : Int)).toNatClampNeg = w := by rw [i32_nat (by omega) (by omega), Int.toNat_natCast]
  rw [t, va_up_at, u, gd_ok (by omega) (by omega) (by omega), gd_ok (by omega) (by omega) (by omega), gd_ok (by omega) (by omega) (by omega), gd_ok (by omega) (by omega) (by omega), gd_ok (by omega) (by omega) (by omega), i32_p1]
theorem x_pass_N (hFu : 6000 ≤ Fu) {a5 : Nat → Option Nat} (hW : WF y) (hX : RX y beasts meals seats laws inForce tr mh te cases rs ju vo) (hH : HN y LO) {n m : Nat} (en : y 0 = (n : Int)) (hm : m < 60) : ∀ (d f b : Nat) (a38 : Nat → Int32) (S : SitS) (dr : Int32) (a70 a71 a72 : Nat → Int32), b + d = n → d < f → okS y S → RCs y S dr a70 a71 a72 →
    Rt (fX7_pass_N_L3 Fu f beasts seats laws inForce tr mh te a5 a38 dr a70 a71 a72 (i32 (m : Int)) (i32 (b : Int))) (fun r => RCs y (sitR y LO m d b S) r.2.1 r.2.2.1 r.2.2.2.1 r.2.2.2.2) := by
  have hB := hW.1
  have e0 := hX.1
  rw [en] at e0
  subst e0
  obtain ⟨s, n', hs, en', n8, -, s256, -⟩ := hW.seats
  have e4 := hX.2.2.1
  rw [hs] at e4
  subst e4
  have es : (y 4).toNat = s := by rw [hs, Int.toNat_natCast]
  obtain ⟨h, eh⟩ := Int.eq_ofNat_of_zero_le hW.hour.1
  have hh : h < 24 := by have := hW.hour; omega
  have e6 : te (1 : Int32).toNatClampNeg = i32 (h : Int) := by rw [← eh]; exact hX.2.2.2.2.2.2.1 1 (by omega)
  intro d
  induction d with
  | zero =>
    intro f b a38 S dr a70 a71 a72 hb hf hS hC
    obtain ⟨f, rfl⟩ : ∃ f', f = f' + 1 := ⟨f - 1, by omega⟩
    rw [fX7_pass_N_L3]
    exact Rt.ift (by rw [i32_le (by omega) (by omega) (by omega) (by omega)]; omega) (Rt.ret hC)
  | succ d ih =>
    intro f b a38 S dr a70 a71 a72 hb hf hS hC
    obtain ⟨f, rfl⟩ : ∃ f', f = f' + 1 := ⟨f - 1, by omega⟩
    have b8 : b < 8 := by omega
    have tb : (i32 (b : Int)).toNatClampNeg = b := by rw [i32_nat (by omega) (by omega), Int.toNat_natCast]
    have hf17 := hW.fav b8
    rw [fX7_pass_N_L3]
    refine Rt.iff (by rw [i32_le (by omega) (by omega) (by omega) (by omega)]; omega) ?_
    rw [x_seated (by omega) (by omega) s256 (b : Int) (by omega) (by omega), Option.bind_some, Int.toNat_natCast]
    rw [show sitR y LO m (d + 1) b S = sitR y LO m d (b + 1) (sit1 y LO m b S) from rfl]
    by_cases c : s.testBit b = true
    · refine Rt.iff (by rw [bI_0]; exact fun q => q ⟨by omega, c⟩) ?_
      rw [gd_ok (by omega) (by omega) (by omega), tb, hC.2.1 b b8]
      by_cases c1 : S.1 b = -1
      · rw [c1]
        refine Rt.ift rfl ?_
        rw [hC.1, x_draw hS.2.1 hS.2.2]
        refine Rt.eqb rfl ?_
        refine Rt.bind (x_liesOf_N hFu hW hX hH a38 b8 (show -1 ≤ (m : Int) by omega) (by omega)) (fun r4 h4 => ?_)
        have lr := lie_rng (y := y) (LO := LO) (b := b) (m := (m : Int))
        have r1 := sD_rng S.2.2
        have r2 := sD_rng (sD S.2.2)
        rw [h4]
        have sp : sit1 y LO m b S = if lie y LO b (m : Int) ≤ sD S.2.2 % 100 then (S.1, S.2.1, sD S.2.2) else (va_up S.1 b (if chn y LO b (y 6) (y (17 + 6 * b)) (m : Int) ≤ sD (sD S.2.2) % 100 then 1 else 0), va_up S.2.1 b (m : Int), sD (sD S.2.2)) := by
          unfold sit1; rw [if_pos ⟨by rw [es]; exact c, c1⟩]
        have ok1 := ok_sit1 (LO := LO) (b := b) hS hm
        rw [sp] at ok1 ⊢
        by_cases cl : lie y LO b (m : Int) ≤ sD S.2.2 % 100
        · rw [if_pos cl] at ok1 ⊢
          refine Rt.ift (by rw [i32_le (by omega) (by omega) (by omega) (by omega)]; exact cl) ?_
          rw [i32_p1]
          exact ih f (b + 1) r4.2 _ _ _ _ _ (by omega) (by omega) ok1 ⟨rfl, hC.2⟩
        · rw [if_neg cl] at ok1 ⊢
          refine Rt.iff (by rw [i32_le (by omega) (by omega) (by omega) (by omega)]; exact cl) ?_
          rw [gd9 (by decide) (by decide), x_fav hX b8, e6, eh]
          refine Rt.eqb rfl ?_
          refine Rt.bind (x_chanceOf_N hFu hW hX hH r4.2 b8 hh (by omega) (by omega) (show -1 ≤ (m : Int) by omega) (by omega)) (fun r7 h7 => ?_)
          have cr := chn_rng (y := y) (LO := LO) (b := b) (h := (h : Int)) (f := y (17 + 6 * b)) (m := (m : Int))
          rw [x_draw r1.1 r1.2]
          refine Rt.eqb rfl ?_
          rw [h7]
          rw [eh] at ok1
          have fin : ∀ w : Nat, w < 2 → okS y (va_up S.1 b (w : Int), va_up S.2.1 b (m : Int), sD (sD S.2.2)) → Rt (fX7_pass_N_L90 Fu (fX7_pass_N_L3 Fu f) (i32 (n : Int)) (i32 (s : Int)) laws inForce tr mh te a5 r7.2 (i32 (sD (sD S.2.2))) a70 a71 a72 (i32 (m : Int)) (i32 (b : Int)) (i32 (w : Int)) (i32 (b : Int))) (fun r => RCs y (sitR y LO m d (b + 1) (va_up S.1 b (w : Int), va_up S.2.1 b (m : Int), sD (sD S.2.2))) r.2.1 r.2.2.1 r.2.2.2.1 r.2.2.2.2) := by
            intro w hw ok
            rw [x_lay90_N r7.2 b8 hw]
            refine ih f (b + 1) r7.2 _ _ _ _ _ (by omega) (by omega) ok ⟨rfl, fun k hk => ?_, fun k hk hn => ?_, ?_, ?_⟩
            · show va_up a70 b _ k = i32 (va_up S.1 b (w : Int) k)
              by_cases e : k = b
              · subst e; rw [va_up_at, va_up_at]
              · rw [va_up_ne _ _ e, va_up_ne _ _ e]; exact hC.2.1 k hk
            · show va_up a71 b _ k = i32 (va_up S.2.1 b (m : Int) k)
              by_cases e : k = b
              · subst e; rw [va_up_at, va_up_at]
              · rw [va_up_ne _ _ e, va_up_ne _ _ e]
                refine hC.2.2.1 k hk ?_
                have hn' : va_up S.1 b (w : Int) k ≠ -1 := hn
                rwa [va_up_ne _ _ e] at hn'
            · show va_up a72 w (a72 w + 1) 0 = i32 ((svt (y 4).toNat (va_up S.1 b (w : Int)) 0 8 : Nat) : Int)
              rw [svt_up (by rw [es]; exact c) c1 (by omega) 8 b8]
              by_cases e : w = 0
              · subst e; rw [va_up_at, if_pos (show ((0 : Nat) : Int) = 0 from rfl), hC.2.2.2.1, i32_p1]
              · rw [va_up_ne _ _ (by omega), if_neg (by omega), hC.2.2.2.1, Nat.add_zero]
            · show va_up a72 w (a72 w + 1) 1 = i32 ((svt (y 4).toNat (va_up S.1 b (w : Int)) 1 8 : Nat) : Int)
              rw [svt_up (by rw [es]; exact c) c1 (by omega) 8 b8]
              by_cases e : w = 1
              · subst e; rw [va_up_at, if_pos (show ((1 : Nat) : Int) = 1 from rfl), hC.2.2.2.2, i32_p1]
              · rw [va_up_ne _ _ (by omega), if_neg (by omega), hC.2.2.2.2, Nat.add_zero]
          by_cases cc : chn y LO b (h : Int) (y (17 + 6 * b)) (m : Int) ≤ sD (sD S.2.2) % 100
          · rw [if_pos cc] at ok1 ⊢
            exact Rt.ift (by rw [i32_le (by omega) (by omega) (by omega) (by omega)]; exact cc) (fin 1 (by omega) ok1)
          · rw [if_neg cc] at ok1 ⊢
            exact Rt.iff (by rw [i32_le (by omega) (by omega) (by omega) (by omega)]; exact cc) (fin 0 (by omega) ok1)
      · refine Rt.iff ?_ ?_
        · rw [show (-1 : Int32) = i32 (-1) from rfl, i32_eq (by have := hS.1 b b8; omega) (by have := hS.1 b b8; omega) (by omega) (by omega)]; exact c1
        rw [show sit1 y LO m b S = S by unfold sit1; rw [if_neg (fun q => c1 q.2)], i32_p1]
        exact ih f (b + 1) a38 S dr a70 a71 a72 (by omega) (by omega) hS hC
    · refine Rt.ift (by rw [bI_0]; exact fun q => c q.2) ?_
      rw [show sit1 y LO m b S = S by unfold sit1; rw [if_neg (fun q => c (by rw [← es]; exact q.1))], i32_p1]
      exact ih f (b + 1) a38 S dr a70 a71 a72 (by omega) (by omega) hS hC
theorem x_lay90_L {nh nt ne ns bb q : Nat} {a5 : Nat → Option Nat} {aL1 aL2 aL3 aL4 : Nat → Int32} (ht : Int32) (an : Int64) (a38 : Nat → Int32) (a39 : Nat → Int64) {k3} {dr : Int32} {a70 a71 a72 : Nat → Int32} {m b w : Nat} (hb : b < 8) (hw : w < 2) : fX7_pass_L_L90 Fu nh nt ne ns bb q k3 beasts seats laws inForce tr mh te a5 ht an a38 a39 dr a70 a71 a72 aL1 aL2 aL3 aL4 (i32 (m : Int)) (i32 (b : Int)) (i32 (w : Int)) (i32 (b : Int)) = k3 beasts seats laws inForce tr mh te a5 ht an a38 a39 dr (va_up a70 b (i32 (w : Int))) (va_up a71 b (i32 (m : Int))) (va_up a72 w (a72 w + 1)) aL1 aL2 aL3 aL4 (i32 (m : Int)) (i32 ((b + 1 : Nat) : Int)) := by
  unfold fX7_pass_L_L90
  have t : (i32 (b : Int)).toNatClampNeg = b := by rw [i32_nat (by omega) (by omega), Int.toNat_natCast]
  have u : (i32 (w : Int)).toNatClampNeg = w := by rw [i32_nat (by omega) (by omega), Int.toNat_natCast]
  rw [t, va_up_at, u, gd_ok (by omega) (by omega) (by omega), gd_ok (by omega) (by omega) (by omega), gd_ok (by omega) (by omega) (by omega), gd_ok (by omega) (by omega) (by omega), gd_ok (by omega) (by omega) (by omega), i32_p1]
theorem x_pass_L (hFu : 6000 ≤ Fu) {nh nt ne ns bb q : Nat} {a5 : Nat → Option Nat} {aL1 aL2 aL3 aL4 : Nat → Int32} (hW : WF y) (hX : RX y beasts meals seats laws inForce tr mh te cases rs ju vo) (hH : HL y LO nh nt ne ns bb q a5 aL1 aL2 aL3 aL4) {n m : Nat} (en : y 0 = (n : Int)) (hm : m < 60) : ∀ (d f b : Nat) (ht : Int32) (an : Int64) (a38 : Nat → Int32) (a39 : Nat → Int64) (S : SitS) (dr : Int32) (a70 a71 a72 : Nat → Int32), b + d = n → d < f → okS y S → RCs y S dr a70 a71 a72 →
    Rt (fX7_pass_L_L3 Fu nh nt ne ns bb q f beasts seats laws inForce tr mh te a5 ht an a38 a39 dr a70 a71 a72 aL1 aL2 aL3 aL4 (i32 (m : Int)) (i32 (b : Int))) (fun r => RCs y (sitR y LO m d b S) r.2.2.2.2.1 r.2.2.2.2.2.1 r.2.2.2.2.2.2.1 r.2.2.2.2.2.2.2) := by
  have hB := hW.1
  have e0 := hX.1
  rw [en] at e0
  subst e0
  obtain ⟨s, n', hs, en', n8, -, s256, -⟩ := hW.seats
  have e4 := hX.2.2.1
  rw [hs] at e4
  subst e4
  have es : (y 4).toNat = s := by rw [hs, Int.toNat_natCast]
  obtain ⟨h, eh⟩ := Int.eq_ofNat_of_zero_le hW.hour.1
  have hh : h < 24 := by have := hW.hour; omega
  have e6 : te (1 : Int32).toNatClampNeg = i32 (h : Int) := by rw [← eh]; exact hX.2.2.2.2.2.2.1 1 (by omega)
  intro d
  induction d with
  | zero =>
    intro f b ht an a38 a39 S dr a70 a71 a72 hb hf hS hC
    obtain ⟨f, rfl⟩ : ∃ f', f = f' + 1 := ⟨f - 1, by omega⟩
    rw [fX7_pass_L_L3]
    exact Rt.ift (by rw [i32_le (by omega) (by omega) (by omega) (by omega)]; omega) (Rt.ret hC)
  | succ d ih =>
    intro f b ht an a38 a39 S dr a70 a71 a72 hb hf hS hC
    obtain ⟨f, rfl⟩ : ∃ f', f = f' + 1 := ⟨f - 1, by omega⟩
    have b8 : b < 8 := by omega
    have tb : (i32 (b : Int)).toNatClampNeg = b := by rw [i32_nat (by omega) (by omega), Int.toNat_natCast]
    have hf17 := hW.fav b8
    rw [fX7_pass_L_L3]
    refine Rt.iff (by rw [i32_le (by omega) (by omega) (by omega) (by omega)]; omega) ?_
    rw [x_seated (by omega) (by omega) s256 (b : Int) (by omega) (by omega), Option.bind_some, Int.toNat_natCast]
    rw [show sitR y LO m (d + 1) b S = sitR y LO m d (b + 1) (sit1 y LO m b S) from rfl]
    by_cases c : s.testBit b = true
    · refine Rt.iff (by rw [bI_0]; exact fun q => q ⟨by omega, c⟩) ?_
      rw [gd_ok (by omega) (by omega) (by omega), tb, hC.2.1 b b8]
      by_cases c1 : S.1 b = -1
      · rw [c1]
        refine Rt.ift rfl ?_
        rw [hC.1, x_draw hS.2.1 hS.2.2]
        refine Rt.eqb rfl ?_
        refine Rt.bind (x_liesOf_L hFu hW hX hH ht an a38 a39 b8 (show -1 ≤ (m : Int) by omega) (by omega)) (fun r4 h4 => ?_)
        have lr := lie_rng (y := y) (LO := LO) (b := b) (m := (m : Int))
        have r1 := sD_rng S.2.2
        have r2 := sD_rng (sD S.2.2)
        rw [h4]
        have sp : sit1 y LO m b S = if lie y LO b (m : Int) ≤ sD S.2.2 % 100 then (S.1, S.2.1, sD S.2.2) else (va_up S.1 b (if chn y LO b (y 6) (y (17 + 6 * b)) (m : Int) ≤ sD (sD S.2.2) % 100 then 1 else 0), va_up S.2.1 b (m : Int), sD (sD S.2.2)) := by
          unfold sit1; rw [if_pos ⟨by rw [es]; exact c, c1⟩]
        have ok1 := ok_sit1 (LO := LO) (b := b) hS hm
        rw [sp] at ok1 ⊢
        by_cases cl : lie y LO b (m : Int) ≤ sD S.2.2 % 100
        · rw [if_pos cl] at ok1 ⊢
          refine Rt.ift (by rw [i32_le (by omega) (by omega) (by omega) (by omega)]; exact cl) ?_
          rw [i32_p1]
          exact ih f (b + 1) r4.2.1 r4.2.2.1 r4.2.2.2.1 r4.2.2.2.2 _ _ _ _ _ (by omega) (by omega) ok1 ⟨rfl, hC.2⟩
        · rw [if_neg cl] at ok1 ⊢
          refine Rt.iff (by rw [i32_le (by omega) (by omega) (by omega) (by omega)]; exact cl) ?_
          rw [gd9 (by decide) (by decide), x_fav hX b8, e6, eh]
          refine Rt.eqb rfl ?_
          refine Rt.bind (x_chanceOf_L hFu hW hX hH r4.2.1 r4.2.2.1 r4.2.2.2.1 r4.2.2.2.2 b8 hh (by omega) (by omega) (show -1 ≤ (m : Int) by omega) (by omega)) (fun r7 h7 => ?_)
          have cr := chn_rng (y := y) (LO := LO) (b := b) (h := (h : Int)) (f := y (17 + 6 * b)) (m := (m : Int))
          rw [x_draw r1.1 r1.2]
          refine Rt.eqb rfl ?_
          rw [h7]
          rw [eh] at ok1
          have fin : ∀ w : Nat, w < 2 → okS y (va_up S.1 b (w : Int), va_up S.2.1 b (m : Int), sD (sD S.2.2)) → Rt (fX7_pass_L_L90 Fu nh nt ne ns bb q (fX7_pass_L_L3 Fu nh nt ne ns bb q f) (i32 (n : Int)) (i32 (s : Int)) laws inForce tr mh te a5 r7.2.1 r7.2.2.1 r7.2.2.2.1 r7.2.2.2.2 (i32 (sD (sD S.2.2))) a70 a71 a72 aL1 aL2 aL3 aL4 (i32 (m : Int)) (i32 (b : Int)) (i32 (w : Int)) (i32 (b : Int))) (fun r => RCs y (sitR y LO m d (b + 1) (va_up S.1 b (w : Int), va_up S.2.1 b (m : Int), sD (sD S.2.2))) r.2.2.2.2.1 r.2.2.2.2.2.1 r.2.2.2.2.2.2.1 r.2.2.2.2.2.2.2) := by
            intro w hw ok
            rw [x_lay90_L r7.2.1 r7.2.2.1 r7.2.2.2.1 r7.2.2.2.2 b8 hw]
            refine ih f (b + 1) r7.2.1 r7.2.2.1 r7.2.2.2.1 r7.2.2.2.2 _ _ _ _ _ (by omega) (by omega) ok ⟨rfl, fun k hk => ?_, fun k hk hn => ?_, ?_, ?_⟩
            · show va_up a70 b _ k = i32 (va_up S.1 b (w : Int) k)
              by_cases e : k = b
              · subst e; rw [va_up_at, va_up_at]
              · rw [va_up_ne _ _ e, va_up_ne _ _ e]; exact hC.2.1 k hk
            · show va_up a71 b _ k = i32 (va_up S.2.1 b (m : Int) k)
              by_cases e : k = b
              · subst e; rw [va_up_at, va_up_at]
              · rw [va_up_ne _ _ e, va_up_ne _ _ e]
                refine hC.2.2.1 k hk ?_
                have hn' : va_up S.1 b (w : Int) k ≠ -1 := hn
                rwa [va_up_ne _ _ e] at hn'
            · show va_up a72 w (a72 w + 1) 0 = i32 ((svt (y 4).toNat (va_up S.1 b (w : Int)) 0 8 : Nat) : Int)
              rw [svt_up (by rw [es]; exact c) c1 (by omega) 8 b8]
              by_cases e : w = 0
              · subst e; rw [va_up_at, if_pos (show ((0 : Nat) : Int) = 0 from rfl), hC.2.2.2.1, i32_p1]
              · rw [va_up_ne _ _ (by omega), if_neg (by omega), hC.2.2.2.1, Nat.add_zero]
            · show va_up a72 w (a72 w + 1) 1 = i32 ((svt (y 4).toNat (va_up S.1 b (w : Int)) 1 8 : Nat) : Int)
              rw [svt_up (by rw [es]; exact c) c1 (by omega) 8 b8]
              by_cases e : w = 1
              · subst e; rw [va_up_at, if_pos (show ((1 : Nat) : Int) = 1 from rfl), hC.2.2.2.2, i32_p1]
              · rw [va_up_ne _ _ (by omega), if_neg (by omega), hC.2.2.2.2, Nat.add_zero]
          by_cases cc : chn y LO b (h : Int) (y (17 + 6 * b)) (m : Int) ≤ sD (sD S.2.2) % 100
          · rw [if_pos cc] at ok1 ⊢
            exact Rt.ift (by rw [i32_le (by omega) (by omega) (by omega) (by omega)]; exact cc) (fin 1 (by omega) ok1)
          · rw [if_neg cc] at ok1 ⊢
            exact Rt.iff (by rw [i32_le (by omega) (by omega) (by omega) (by omega)]; exact cc) (fin 0 (by omega) ok1)
      · refine Rt.iff ?_ ?_
        · rw [show (-1 : Int32) = i32 (-1) from rfl, i32_eq (by have := hS.1 b b8; omega) (by have := hS.1 b b8; omega) (by omega) (by omega)]; exact c1
        rw [show sit1 y LO m b S = S by unfold sit1; rw [if_neg (fun q => c1 q.2)], i32_p1]
        exact ih f (b + 1) ht an a38 a39 S dr a70 a71 a72 (by omega) (by omega) hS hC
    · refine Rt.ift (by rw [bI_0]; exact fun q => c q.2) ?_
      rw [show sit1 y LO m b S = S by unfold sit1; rw [if_neg (fun q => c (by rw [← es]; exact q.1))], i32_p1]
      exact ih f (b + 1) ht an a38 a39 S dr a70 a71 a72 (by omega) (by omega) hS hC
end SIT
