section SITM
variable {y : Nat → Int} {row : Nat → Int32} {beasts meals seats laws inForce cases : Int32} {tr mh te rs ju vo : Nat → Int32} {LO : Option LwS} {Fu : Nat}
theorem v_117 {s b : Nat} {σ : Nat → Int} {k16} {lw : Int32} {set rest : Nat → Int64} {br : Int32} {val sum st : Int64} {lies since : Nat → Int32} {X1 X2 : Int32} (hb : b < 8) (c : s.testBit b = true) (e : lies b = i32 (σ b)) (r1 : -1 ≤ σ b) (r2 : σ b ≤ 1) :
    fX12_minute_L117 Fu k16 row lw set rest br val sum lies since st X1 X2 (i32 ((svt s σ 0 b : Nat) : Int)) (i32 ((svt s σ 1 b : Nat) : Int)) (i32 (b : Int)) = k16 row lw set rest br val sum lies since st X1 X2 (i32 ((svt s σ 0 (b + 1) : Nat) : Int)) (i32 ((svt s σ 1 (b + 1) : Nat) : Int)) (i32 ((b + 1 : Nat) : Int)) := by
  have u0 : svt s σ 0 (b + 1) = svt s σ 0 b + (if s.testBit b = true ∧ σ b = 0 then 1 else 0) := rfl
  have u1 : svt s σ 1 (b + 1) = svt s σ 1 b + (if s.testBit b = true ∧ σ b = 1 then 1 else 0) := rfl
  have tb : (i32 (b : Int)).toNatClampNeg = b := by rw [i32_nat (by omega) (by omega), Int.toNat_natCast]
  have z : ∀ x : Int32, x + 0 = x := fun x => by rw [Int32.add_zero]
  unfold fX12_minute_L117 fX12_minute_L133 fX12_minute_L153
  rw [u0, u1]
  generalize svt s σ 0 b = p
  generalize svt s σ 1 b = q
  simp only [tb, e]
  rw [gd_ok (by omega) (by omega) (by omega), gd_ok (by omega) (by omega) (by omega), gd_ok (by omega) (by omega) (by omega)]
  have d : σ b = 0 ∨ σ b = 1 ∨ σ b = -1 := by omega
  rcases d with d | d | d
  · rw [d, if_pos (show i32 0 = 0 from rfl), if_neg (show ¬ i32 0 = 1 by decide), if_pos ⟨c, rfl⟩, if_neg (show ¬ (s.testBit b = true ∧ (0 : Int) = 1) from fun q => absurd q.2 (by decide)), i32_p1, i32_p1, z, Nat.add_zero q]
  · rw [d, if_neg (show ¬ i32 1 = 0 by decide), if_pos (show i32 1 = 1 from rfl), if_neg (show ¬ (s.testBit b = true ∧ (1 : Int) = 0) from fun q => absurd q.2 (by decide)), if_pos ⟨c, rfl⟩, i32_p1, i32_p1, z, Nat.add_zero p]
  · rw [d, if_neg (show ¬ i32 (-1) = 0 by decide), if_neg (show ¬ i32 (-1) = 1 by decide), if_neg (show ¬ (s.testBit b = true ∧ (-1 : Int) = 0) from fun q => absurd q.2 (by decide)), if_neg (show ¬ (s.testBit b = true ∧ (-1 : Int) = 1) from fun q => absurd q.2 (by decide)), i32_p1, z, z, Nat.add_zero p, Nat.add_zero q]
theorem v_minL (hFu : 6000 ≤ Fu) (hM : RM y row) (hW : WF y) (hO : MO y LO) {s h m : Nat} (hs : y 4 = (s : Int)) (s256 : s < 256) (eh : y 6 = (h : Int)) (hm : m < 60) : ∀ (d g b : Nat) (lw : Int32) (set rest : Nat → Int64) (br : Int32) (val sum : Int64) (S : SitS) (lies since : Nat → Int32) (st : Int64), b + d = 8 → d < g → okS y S → RMs S lies since st →
    Rt (fX12_minute_L16 Fu g row lw set rest br val sum lies since st (i32 (m : Int)) (i32 (h : Int)) (i32 ((svt s S.1 0 b : Nat) : Int)) (i32 ((svt s S.1 1 b : Nat) : Int)) (i32 (b : Int))) (fun r => r.1 = i32 (sitO y (sitR y LO m d b S)) ∧ RMs (sitR y LO m d b S) r.2.2.2.2.2.2.2.1 r.2.2.2.2.2.2.2.2.1 r.2.2.2.2.2.2.2.2.2) := by
  have es : (y 4).toNat = s := by rw [hs, Int.toNat_natCast]
  have hq := hW.quota
  have hh : h < 24 := by have := hW.hour; omega
  have e4 : row (4 : Int32).toNatClampNeg = i32 (s : Int) := by rw [← hs]; exact hM 4 (by omega)
  intro d
  induction d with
  | zero =>
    intro g b lw set rest br val sum S lies since st hb hg hS hR
    obtain ⟨g, rfl⟩ : ∃ f', g = f' + 1 := ⟨g - 1, by omega⟩
    obtain rfl : b = 8 := by omega
    rw [fX12_minute_L16]
    refine Rt.ift (by decide) ?_
    rw [v_quota hM, Option.bind_some, e4, v_bits hFu s256, Option.bind_some, Option.bind_some, gd9 (by decide) (by decide)]
    rw [show sitR y LO m 0 8 S = S from rfl]
    have l0 := svt_le s S.1 0 8
    have l1 := svt_le s S.1 1 8
    have lb := bcn_le s 8
    unfold sitO
    rw [es]
    revert l0 l1 lb
    generalize svt s S.1 0 8 = p
    generalize svt s S.1 1 8 = q
    generalize bcn s 8 = z
    intro l0 l1 lb
    by_cases c : (p : Int) < y 5
    · rw [if_pos c]
      refine Rt.ift (by rw [i32_lt (by omega) (by omega) (by omega) (by omega)]; exact c) ?_
      rw [i32_sub]
      by_cases c2 : (q : Int) ≤ (z : Int) - y 5
      · rw [if_pos c2]
        exact Rt.ift (by rw [i32_le (by omega) (by omega) (by omega) (by omega)]; exact c2) (Rt.ret ⟨rfl, hR⟩)
      · rw [if_neg c2]
        exact Rt.iff (by rw [i32_le (by omega) (by omega) (by omega) (by omega)]; exact c2) (Rt.ret ⟨rfl, hR⟩)
    · rw [if_neg c]
      exact Rt.iff (by rw [i32_lt (by omega) (by omega) (by omega) (by omega)]; exact c) (Rt.ret ⟨rfl, hR⟩)
  | succ d ih =>
    intro g b lw set rest br val sum S lies since st hb hg hS hR
    obtain ⟨g, rfl⟩ : ∃ f', g = f' + 1 := ⟨g - 1, by omega⟩
    have b8 : b < 8 := by omega
    have tb : (i32 (b : Int)).toNatClampNeg = b := by rw [i32_nat (by omega) (by omega), Int.toNat_natCast]
    have hf17 := hW.fav b8
    have rng := hS.1 b b8
    rw [fX12_minute_L16]
    refine Rt.iff (by rw [i32_litN 8, i32_le (by omega) (by omega) (by omega) (by omega)]; omega) ?_
    rw [gd9 (by decide) (by decide), e4, v_is (by omega) (by omega), Option.bind_some]
    rw [show sitR y LO m (d + 1) b S = sitR y LO m d (b + 1) (sit1 y LO m b S) from rfl]
    by_cases c : s.testBit b = true
    · refine Rt.iff (by rw [bI_0]; exact fun q => q c) ?_
      rw [v_fav hM b8, Option.bind_some, gd_ok (by omega) (by omega) (by omega), tb, hR.1 b b8]
      by_cases c1 : S.1 b = -1
      · rw [c1]
        refine Rt.ift rfl ?_
        rw [hR.2.2, v_draw hS.2.1 hS.2.2]
        refine Rt.eqb rfl ?_
        refine Rt.bind (v_tells (hd := 1) (wo := 10) (most := 100) (side := -1) hFu hM hW hO rfl rfl rfl rfl (by omega) (by omega) (by omega) b8 hh (by omega) (by omega) (by omega) (by omega) (show -1 ≤ (m : Int) by omega) (by omega) (by omega) (by omega)) (fun r4 h4 => ?_)
        have lr := lie_rng (y := y) (LO := LO) (b := b) (m := (m : Int))
        have r1 := sD_rng S.2.2
        have r2 := sD_rng (sD S.2.2)
        have h4 : r4.1 = i32 (lie y LO b (m : Int)) := by rw [h4]; unfold lie; rw [eh]
        rw [h4]
        have sp : sit1 y LO m b S = if lie y LO b (m : Int) ≤ sD S.2.2 % 100 then (S.1, S.2.1, sD S.2.2) else (va_up S.1 b (if chn y LO b (y 6) (y (17 + 6 * b)) (m : Int) ≤ sD (sD S.2.2) % 100 then 1 else 0), va_up S.2.1 b (m : Int), sD (sD S.2.2)) := by
          unfold sit1; rw [if_pos ⟨by rw [es]; exact c, c1⟩]
        have ok1 := ok_sit1 (LO := LO) (b := b) hS hm
        rw [sp] at ok1 ⊢
        by_cases cl : lie y LO b (m : Int) ≤ sD S.2.2 % 100
        · rw [if_pos cl] at ok1 ⊢
          refine Rt.ift (by rw [i32_le (by omega) (by omega) (by omega) (by omega)]; exact cl) ?_
          rw [v_117 b8 c (hR.1 b b8) (by omega) (by omega)]
          exact ih g (b + 1) _ _ _ _ _ _ (S.1, S.2.1, sD S.2.2) _ _ _ (by omega) (by omega) ok1 ⟨hR.1, hR.2.1, rfl⟩
        · rw [if_neg cl] at ok1 ⊢
          refine Rt.iff (by rw [i32_le (by omega) (by omega) (by omega) (by omega)]; exact cl) ?_
          rw [v_draw r1.1 r1.2]
          refine Rt.eqb rfl ?_
          refine Rt.bind (v_chanceOf hFu hM hW hO b8 hh (by omega) (by omega) (show -1 ≤ (m : Int) by omega) (by omega)) (fun r7 h7 => ?_)
          have cr := chn_rng (y := y) (LO := LO) (b := b) (h := (h : Int)) (f := y (17 + 6 * b)) (m := (m : Int))
          rw [h7]
          rw [eh] at ok1 ⊢
          have fin : ∀ (w : Nat) (lw : Int32) (set rest : Nat → Int64) (br : Int32) (val sum : Int64), w < 2 → okS y (va_up S.1 b (w : Int), va_up S.2.1 b (m : Int), sD (sD S.2.2)) → Rt (fX12_minute_L108 Fu (fX12_minute_L16 Fu g) row lw set rest br val sum lies since (i64 (sD (sD S.2.2))) (i32 (m : Int)) (i32 (h : Int)) (i32 ((svt s S.1 0 b : Nat) : Int)) (i32 ((svt s S.1 1 b : Nat) : Int)) (i32 (b : Int)) (i32 (w : Int)) (i32 (b : Int))) (fun r => r.1 = i32 (sitO y (sitR y LO m d (b + 1) (va_up S.1 b (w : Int), va_up S.2.1 b (m : Int), sD (sD S.2.2)))) ∧ RMs (sitR y LO m d (b + 1) (va_up S.1 b (w : Int), va_up S.2.1 b (m : Int), sD (sD S.2.2))) r.2.2.2.2.2.2.2.1 r.2.2.2.2.2.2.2.2.1 r.2.2.2.2.2.2.2.2.2) := by
            intro w lw set rest br val sum hw ok
            unfold fX12_minute_L108
            rw [gd_ok (by omega) (by omega) (by omega), gd_ok (by omega) (by omega) (by omega), tb, ← svt_lo (σ := S.1) (z := (w : Int)) (w := 0) b (Nat.le_refl b), ← svt_lo (σ := S.1) (z := (w : Int)) (w := 1) b (Nat.le_refl b)]
            rw [v_117 (σ := va_up S.1 b (w : Int)) b8 c (by rw [va_up_at, va_up_at]) (by rw [va_up_at]; omega) (by rw [va_up_at]; omega)]
            refine ih g (b + 1) _ _ _ _ _ _ (va_up S.1 b (w : Int), va_up S.2.1 b (m : Int), sD (sD S.2.2)) _ _ _ (by omega) (by omega) ok ⟨fun k hk => ?_, fun k hk => ?_, rfl⟩
            · show va_up lies b _ k = i32 (va_up S.1 b (w : Int) k)
              by_cases e : k = b
              · subst e; rw [va_up_at, va_up_at]
              · rw [va_up_ne _ _ e, va_up_ne _ _ e]; exact hR.1 k hk
            · show va_up since b _ k = i32 (va_up S.2.1 b (m : Int) k)
              by_cases e : k = b
              · subst e; rw [va_up_at, va_up_at]
              · rw [va_up_ne _ _ e, va_up_ne _ _ e]; exact hR.2.1 k hk
          by_cases cc : chn y LO b (h : Int) (y (17 + 6 * b)) (m : Int) ≤ sD (sD S.2.2) % 100
          · rw [if_pos cc] at ok1 ⊢
            exact Rt.ift (by rw [i32_le (by omega) (by omega) (by omega) (by omega)]; exact cc) (fin 1 _ _ _ _ _ _ (by omega) ok1)
          · rw [if_neg cc] at ok1 ⊢
            exact Rt.iff (by rw [i32_le (by omega) (by omega) (by omega) (by omega)]; exact cc) (fin 0 _ _ _ _ _ _ (by omega) ok1)
      · refine Rt.iff ?_ ?_
        · rw [show (-1 : Int32) = i32 (-1) from rfl, i32_eq (by omega) (by omega) (by omega) (by omega)]; exact c1
        rw [show sit1 y LO m b S = S by unfold sit1; rw [if_neg (fun q => c1 q.2)], v_117 b8 c (hR.1 b b8) (by omega) (by omega)]
        exact ih g (b + 1) _ _ _ _ _ _ S _ _ _ (by omega) (by omega) hS hR
    · refine Rt.ift (by rw [bI_0]; exact c) ?_
      have u0 : svt s S.1 0 (b + 1) = svt s S.1 0 b + (if s.testBit b = true ∧ S.1 b = 0 then 1 else 0) := rfl
      have u1 : svt s S.1 1 (b + 1) = svt s S.1 1 b + (if s.testBit b = true ∧ S.1 b = 1 then 1 else 0) := rfl
      rw [if_neg (fun q => c q.1)] at u0 u1
      have u0 : svt s S.1 0 (b + 1) = svt s S.1 0 b := u0
      have u1 : svt s S.1 1 (b + 1) = svt s S.1 1 b := u1
      rw [show sit1 y LO m b S = S by unfold sit1; rw [if_neg (fun q => c (by rw [← es]; exact q.1))], i32_p1, ← u0, ← u1]
      exact ih g (b + 1) _ _ _ _ _ _ S _ _ _ (by omega) (by omega) hS hR
theorem sitO_rng (S : SitS) : 0 ≤ sitO y S ∧ sitO y S ≤ 2 := by
  unfold sitO
  split
  · split <;> omega
  · omega
theorem v_sitL (hFu : 6000 ≤ Fu) (hM : RM y row) (hW : WF y) (hO : MO y LO) {th status : Int32} {ref : Nat → Int32} : ∀ (d g m : Nat) (lw : Int32) (set rest : Nat → Int64) (br : Int32) (val sum : Int64) (S : SitS) (lies since : Nat → Int32) (la : Int) (st : Int64), m + d = 60 → d + 1 < g → okS y S → RMs S lies since st →
    Rt (fX12_sitting_L61 Fu g th status ref row lw set rest br val sum lies since (i32 la) st 2 (i32 (m : Int))) (fun r => r.1 = i32 (sitH y LO d m S la).1 ∧ r.2.2.1 = 0 ∧ r.2.2.2.1 = ref ∧ r.2.2.2.2.2.2.2.2.2.2.2.2.1 = i32 (sitH y LO d m S la).2.1 ∧ RMs (sitH y LO d m S la).2.2 r.2.2.2.2.2.2.2.2.2.2.1 r.2.2.2.2.2.2.2.2.2.2.2.1 r.2.2.2.2.2.2.2.2.2.2.2.2.2) := by
  obtain ⟨s, n, hs, en, n8, -, s256, -⟩ := hW.seats
  obtain ⟨h, eh⟩ := Int.eq_ofNat_of_zero_le hW.hour.1
  have e6 : row (6 : Int32).toNatClampNeg = i32 (h : Int) := by rw [← eh]; exact hM 6 (by omega)
  intro d
  induction d with
  | zero =>
    intro g m lw set rest br val sum S lies since la st hm hg hS hR
    obtain ⟨g, rfl⟩ : ∃ f', g = f' + 1 := ⟨g - 1, by omega⟩
    rw [fX12_sitting_L61]
    refine Rt.ift (by rw [i32_litN 60, i32_le (by omega) (by omega) (by omega) (by omega)]; omega) ?_
    unfold fX12_sitting_L89
    rw [show (2 : Int32) = i32 2 from rfl, v_tell (by omega) (by omega)]
    exact Rt.eqb rfl (Rt.ret ⟨rfl, rfl, rfl, rfl, hR⟩)
  | succ d ih =>
    intro g m lw set rest br val sum S lies since la st hm hg hS hR
    obtain ⟨g, rfl⟩ : ∃ f', g = f' + 1 := ⟨g - 1, by omega⟩
    rw [fX12_sitting_L61]
    refine Rt.iff (by rw [i32_litN 60, i32_le (by omega) (by omega) (by omega) (by omega)]; omega) ?_
    refine Rt.ift rfl ?_
    unfold fX12_minute
    rw [gd9 (by decide) (by decide), e6]
    refine Rt.bind (v_minL hFu hM hW hO hs s256 eh (show m < 60 by omega) 8 Fu 0 lw set rest br val sum S lies since st (by omega) (by omega) hS hR) (fun r5 h5 => ?_)
    have ok := ok_sitR (LO := LO) (show m < 60 by omega) 8 0 S hS
    have oR := sitO_rng (y := y) (sitR y LO m 8 0 S)
    rw [i32_p1, h5.1]
    rw [show sitH y LO (d + 1) m S la = (if sitO y (sitR y LO m 8 0 S) = 2 then sitH y LO d (m + 1) (sitR y LO m 8 0 S) (m : Int) else (sitO y (sitR y LO m 8 0 S), (m : Int), sitR y LO m 8 0 S)) from rfl]
    by_cases c : sitO y (sitR y LO m 8 0 S) = 2
    · rw [if_pos c, c]
      exact ih g (m + 1) _ _ _ _ _ _ (sitR y LO m 8 0 S) _ _ (m : Int) _ (by omega) (by omega) ok h5.2
    · rw [if_neg c]
      obtain ⟨g, rfl⟩ : ∃ f', g = f' + 1 := ⟨g - 1, by omega⟩
      have n2 : ¬ i32 (sitO y (sitR y LO m 8 0 S)) = 2 := by rw [i32_litN 2, i32_eq (by omega) (by omega) (by omega) (by omega)]; exact c
      have fin : ∀ (lw : Int32) (set rest : Nat → Int64) (br : Int32) (val sum : Int64), Rt (fX12_sitting_L89 Fu th status ref row lw set rest br val sum r5.2.2.2.2.2.2.2.1 r5.2.2.2.2.2.2.2.2.1 (i32 (m : Int)) r5.2.2.2.2.2.2.2.2.2 (i32 (sitO y (sitR y LO m 8 0 S)))) (fun r => r.1 = i32 (sitO y (sitR y LO m 8 0 S)) ∧ r.2.2.1 = 0 ∧ r.2.2.2.1 = ref ∧ r.2.2.2.2.2.2.2.2.2.2.2.2.1 = i32 (m : Int) ∧ RMs (sitR y LO m 8 0 S) r.2.2.2.2.2.2.2.2.2.2.1 r.2.2.2.2.2.2.2.2.2.2.2.1 r.2.2.2.2.2.2.2.2.2.2.2.2.2) := by
        intro lw set rest br val sum
        unfold fX12_sitting_L89
        rw [v_tell oR.1 (by omega)]
        exact Rt.eqb rfl (Rt.ret ⟨rfl, rfl, rfl, rfl, h5.2⟩)
      rw [fX12_sitting_L61]
      exact Rt.ite (fun _ => fin _ _ _ _ _ _) (fun _ => Rt.iff n2 (fin _ _ _ _ _ _))
def sit0 (z : Int) : SitS := (fun _ => -1, fun _ => -1, z)
theorem ok_sit0 {z : Int} (h0 : 0 ≤ z) (h1 : z ≤ 1000000) : okS y (sit0 z) := ⟨fun _ _ => Or.inl ⟨rfl, rfl⟩, h0, by show z ≤ _; omega⟩
theorem ok_sitH : ∀ (d m : Nat) (S : SitS) (la : Int), m + d = 60 → okS y S → (d = 0 → 0 ≤ la ∧ la < 60) → okS y (sitH y LO d m S la).2.2 ∧ 0 ≤ (sitH y LO d m S la).2.1 ∧ (sitH y LO d m S la).2.1 < 60 ∧ 0 ≤ (sitH y LO d m S la).1 ∧ (sitH y LO d m S la).1 ≤ 2 := by
  intro d
  induction d with
  | zero => intro m S la hm hS hl; exact ⟨hS, (hl rfl).1, (hl rfl).2, by show (0 : Int) ≤ 2; omega, by show (2 : Int) ≤ 2; omega⟩
  | succ d ih =>
    intro m S la hm hS hl
    have ok := ok_sitR (LO := LO) (show m < 60 by omega) 8 0 S hS
    have oR := sitO_rng (y := y) (sitR y LO m 8 0 S)
    unfold sitH
    by_cases c : sitO y (sitR y LO m 8 0 S) = 2
    · rw [if_pos c]; exact ih (m + 1) _ _ (by omega) ok (fun _ => ⟨by omega, by omega⟩)
    · rw [if_neg c]; exact ⟨ok, by show 0 ≤ (m : Int); omega, by show (m : Int) < 60; omega, oR.1, oR.2⟩
theorem v_sit (hFu : 6000 ≤ Fu) (hM : RM y row) (hW : WF y) (hO : MO y LO) {th status : Int32} {ref : Nat → Int32} {lw : Int32} {set rest : Nat → Int64} {br : Int32} {val sum : Int64} {la : Int32} {z : Int} (h0 : 0 ≤ z) (h1 : z ≤ 1000000) : ∀ (d g b : Nat) (lies since : Nat → Int32), b + d = 8 → d < g → (∀ k, k < b → lies k = -1 ∧ since k = -1) →
    Rt (fX12_sitting_L31 Fu g th status ref row lw set rest br val sum lies since la (i64 z) (i32 (b : Int))) (fun r => r.1 = i32 (sitH y LO 60 0 (sit0 z) (-1)).1 ∧ r.2.2.1 = 0 ∧ r.2.2.2.1 = ref ∧ r.2.2.2.2.2.2.2.2.2.2.2.2.1 = i32 (sitH y LO 60 0 (sit0 z) (-1)).2.1 ∧ RMs (sitH y LO 60 0 (sit0 z) (-1)).2.2 r.2.2.2.2.2.2.2.2.2.2.1 r.2.2.2.2.2.2.2.2.2.2.2.1 r.2.2.2.2.2.2.2.2.2.2.2.2.2) := by
  intro d
  induction d with
  | zero =>
    intro g b lies since hb hg hk
    obtain ⟨g, rfl⟩ : ∃ f', g = f' + 1 := ⟨g - 1, by omega⟩
    rw [fX12_sitting_L31]
    refine Rt.ift (by rw [i32_litN 8, i32_le (by omega) (by omega) (by omega) (by omega)]; omega) ?_
    obtain ⟨l, -, -, rfl⟩ := i32_any la
    have e : ∀ l, sitH y LO 60 0 (sit0 z) l = sitH y LO 60 0 (sit0 z) (-1) := fun l => rfl
    rw [← e l]
    exact v_sitL hFu hM hW hO 60 Fu 0 lw set rest br val sum (sit0 z) lies since l (i64 z) (by omega) (by omega) (ok_sit0 h0 h1) ⟨fun k h8 => (hk k (by omega)).1, fun k h8 => (hk k (by omega)).2, rfl⟩
  | succ d ih =>
    intro g b lies since hb hg hk
    obtain ⟨g, rfl⟩ : ∃ f', g = f' + 1 := ⟨g - 1, by omega⟩
    rw [fX12_sitting_L31]
    refine Rt.iff (by rw [i32_litN 8, i32_le (by omega) (by omega) (by omega) (by omega)]; omega) ?_
    rw [gd_ok (by omega) (by omega) (by omega), gd_ok (by omega) (by omega) (by omega), i32_nat (by omega) (by omega), Int.toNat_natCast, i32_p1]
    refine ih g (b + 1) _ _ (by omega) (by omega) (fun k h => ?_)
    by_cases c : k = b
    · subst c; rw [va_up_at, va_up_at]; exact ⟨rfl, rfl⟩
    · rw [va_up_ne _ _ c, va_up_ne _ _ c]; exact hk k (by omega)
end SITM
