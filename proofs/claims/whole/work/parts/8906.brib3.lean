/-! ===== the best of some: likeliest, cheapest, lowest ===== -/
def wrt (sd : Nat) (v : Int) : Int := if sd = 0 then v else -v
def bst (t : Nat → Bool) (wv co : Nat → Int) : Nat → Int
  | 0 => -1
  | s + 1 => if t s = true ∧ (bst t wv co s = -1 ∨ wv (bst t wv co s).toNat < wv s ∨ wv (bst t wv co s).toNat = wv s ∧ co s < co (bst t wv co s).toNat) then (s : Int) else bst t wv co s
theorem bst_fact {t : Nat → Bool} {wv co : Nat → Int} : ∀ n : Nat, bst t wv co n = -1 ∨ 0 ≤ bst t wv co n ∧ bst t wv co n < n ∧ t (bst t wv co n).toNat = true := by
  intro n
  induction n with
  | zero => exact Or.inl rfl
  | succ n ih =>
    have e : bst t wv co (n + 1) = if t n = true ∧ (bst t wv co n = -1 ∨ wv (bst t wv co n).toNat < wv n ∨ wv (bst t wv co n).toNat = wv n ∧ co n < co (bst t wv co n).toNat) then (n : Int) else bst t wv co n := rfl
    by_cases c : t n = true ∧ (bst t wv co n = -1 ∨ wv (bst t wv co n).toNat < wv n ∨ wv (bst t wv co n).toNat = wv n ∧ co n < co (bst t wv co n).toNat)
    · rw [if_pos c] at e
      rw [e]
      exact Or.inr ⟨by omega, by omega, by rw [Int.toNat_natCast]; exact c.1⟩
    · rw [if_neg c] at e
      rw [e]
      rcases ih with ih | ih
      · exact Or.inl ih
      · exact Or.inr ⟨ih.1, by omega, ih.2.2⟩
theorem bst_some {t : Nat → Bool} {wv co : Nat → Int} (h0 : t 0 = true) : ∀ n : Nat, 0 ≤ bst t wv co (n + 1) := by
  intro n
  induction n with
  | zero =>
    have e : bst t wv co (0 + 1) = if t 0 = true ∧ (bst t wv co 0 = -1 ∨ wv (bst t wv co 0).toNat < wv 0 ∨ wv (bst t wv co 0).toNat = wv 0 ∧ co 0 < co (bst t wv co 0).toNat) then ((0 : Nat) : Int) else bst t wv co 0 := rfl
    rw [if_pos ⟨h0, Or.inl rfl⟩] at e
    rw [e]; exact Int.le_refl 0
  | succ n ih =>
    have e : bst t wv co (n + 1 + 1) = if t (n + 1) = true ∧ (bst t wv co (n + 1) = -1 ∨ wv (bst t wv co (n + 1)).toNat < wv (n + 1) ∨ wv (bst t wv co (n + 1)).toNat = wv (n + 1) ∧ co (n + 1) < co (bst t wv co (n + 1)).toNat) then ((n + 1 : Nat) : Int) else bst t wv co (n + 1) := rfl
    rw [e]
    split <;> omega
theorem bst_up {t : Nat → Bool} {wv co : Nat → Int} {N : Nat} (h : ∀ s, N ≤ s → t s = false) : ∀ m, bst t wv co (N + m) = bst t wv co N := by
  intro m
  induction m with
  | zero => rfl
  | succ m ih =>
    show (if t (N + m) = true ∧ _ then ((N + m : Nat) : Int) else bst t wv co (N + m)) = _
    rw [if_neg (fun q => by rw [h (N + m) (by omega)] at q; cases q.1), ih]
theorem bst_ext {t : Nat → Bool} {wv wv' co : Nat → Int} (h : ∀ s, t s = true → wv s = wv' s) : ∀ n, bst t wv co n = bst t wv' co n := by
  intro n
  induction n with
  | zero => rfl
  | succ n ih =>
    show (if t n = true ∧ (bst t wv co n = -1 ∨ wv (bst t wv co n).toNat < wv n ∨ wv (bst t wv co n).toNat = wv n ∧ co n < co (bst t wv co n).toNat) then (n : Int) else bst t wv co n) = (if t n = true ∧ (bst t wv' co n = -1 ∨ wv' (bst t wv' co n).toNat < wv' n ∨ wv' (bst t wv' co n).toNat = wv' n ∧ co n < co (bst t wv' co n).toNat) then (n : Int) else bst t wv' co n)
    rw [← ih]
    by_cases c : t n = true
    · rcases bst_fact (t := t) (wv := wv) (co := co) n with q | q
      · rw [if_pos ⟨c, Or.inl q⟩, if_pos ⟨c, Or.inl q⟩]
      · rw [h n c, h _ q.2.2]
    · rw [if_neg (fun q => c q.1), if_neg (fun q => c q.1)]
section BRIB3
variable {y : Nat → Int} {row : Nat → Int32} {beasts meals seats laws inForce cases : Int32} {tr mh te rs ju vo : Nat → Int32} {Fu : Nat} {LO : Option LwS}
theorem cn_0 (hW : WF y) {sd : Nat} (hsd : sd < 2) : cnS y LO sd 0 := by
  have p := hW.purse hsd
  refine ⟨Nat.zero_and _, ?_⟩
  unfold cst; rw [csn_0]; exact p.1
theorem cnT_0 (hW : WF y) {sd : Nat} (hsd : sd < 2) : cnT y LO sd 0 = true := decide_eq_true (cn_0 hW hsd)
theorem cnT_iff {sd s : Nat} : cnT y LO sd s = true ↔ cnS y LO sd s := by unfold cnT; exact decide_eq_true_iff
theorem cnT_big (hW : WF y) {sd s : Nat} (h : (y 4).toNat < s) : cnT y LO sd s = false := by
  cases e : cnT y LO sd s with
  | false => rfl
  | true => have := (cn_lt hW (cnT_iff.mp e)).1; omega
theorem bst_seats (hW : WF y) {sd : Nat} {wv co : Nat → Int} : bst (cnT y LO sd) wv co 256 = bst (cnT y LO sd) wv co ((y 4).toNat + 1) := by
  obtain ⟨t, n, e4, e0, hn, hs1, hs, hb⟩ := hW.seats
  have := bst_up (t := cnT y LO sd) (wv := wv) (co := co) (N := (y 4).toNat + 1) (fun s hs => cnT_big hW (by omega)) (255 - (y 4).toNat)
  rw [show (y 4).toNat + 1 + (255 - (y 4).toNat) = 256 by omega] at this
  exact this
theorem v_isBetter (hW : WF y) {co : Nat → Int32} (hC : CT y LO co) {sd s : Nat} (hsd : sd < 2) (hs : s < 256) {v b : Int} (v1 : -1000000000000000000 ≤ v) (v2 : v ≤ 1000000000000000000) (b1 : -1000000000000000000 ≤ b) (b2 : b ≤ 1000000000000000000) {its : Int} (i1 : -1 ≤ its) (i2 : its < 256) : fX12_isBetter co (i32 (sd : Int)) (i64 v) (i32 (s : Int)) (i64 b) (i32 its) = some (bI (its = -1 ∨ wrt sd b < wrt sd v ∨ wrt sd b = wrt sd v ∧ cst y LO sd s < cst y LO sd its.toNat)) := by
  have cr := cst_rng (LO := LO) hW (sd := sd) (s := s)
  have cr2 := cst_rng (LO := LO) hW (sd := sd) (s := its.toNat)
  unfold fX12_isBetter
  by_cases c0 : its = -1
  · rw [if_pos (by rw [c0]; rfl)]
    unfold bI
    rw [if_pos (Or.inl c0)]
  · rw [if_neg (by rw [i32_m1, i32_eq (by omega) (by omega) (by omega) (by omega)]; exact c0)]
    obtain ⟨i, rfl⟩ := Int.eq_ofNat_of_zero_le (show 0 ≤ its by omega)
    have h23 : ∀ m : Int, -2000000000000000000 ≤ m → m ≤ 2000000000000000000 → fX12_isBetter_L23 co (i32 (sd : Int)) (i32 (s : Int)) (i32 (i : Int)) (i64 m) = some (bI (0 < m ∨ m = 0 ∧ cst y LO sd s < cst y LO sd i)) := by
      intro m m1 m2
      unfold fX12_isBetter_L23 fX12_isBetter_L77
      rw [show (256 : Int32) * i32 (sd : Int) + i32 (i : Int) = i32 ((256 * sd + i : Nat) : Int) by rw [i32_litN 256, i32_mul, i32_add]; congr 1 <;> omega, show (256 : Int32) * i32 (sd : Int) + i32 (s : Int) = i32 ((256 * sd + s : Nat) : Int) by rw [i32_litN 256, i32_mul, i32_add]; congr 1 <;> omega]
      rw [gd_ok (by omega) (by omega) (by omega), gd_ok (by omega) (by omega) (by omega), i32_nat (by omega) (by omega), i32_nat (by omega) (by omega), Int.toNat_natCast, Int.toNat_natCast, hC sd i hsd (by omega), hC sd s hsd hs, i32_sub]
      rw [Int.toNat_natCast] at cr2
      simp (disch := omega) only [i64_lit, i32_lit, i64_lt, i64_eq, i32_le]
      unfold bI
      by_cases q1 : 0 < m
      · rw [if_pos q1, if_pos (Or.inl q1)]; rfl
      · rw [if_neg q1]
        by_cases q2 : m = 0
        · rw [if_pos q2]
          by_cases q3 : cst y LO sd s < cst y LO sd i
          · rw [if_neg (show ¬ cst y LO sd i - cst y LO sd s ≤ 0 by omega), if_pos (Or.inr ⟨q2, q3⟩)]; rfl
          · rw [if_pos (show cst y LO sd i - cst y LO sd s ≤ 0 by omega), if_neg (show ¬ (0 < m ∨ m = 0 ∧ cst y LO sd s < cst y LO sd i) by omega)]; rfl
        · rw [if_neg q2, if_neg (show ¬ (0 < m ∨ m = 0 ∧ cst y LO sd s < cst y LO sd i) by omega)]; rfl
    have fin : ∀ m : Int, (0 < m ↔ wrt sd b < wrt sd v) → (m = 0 ↔ wrt sd b = wrt sd v) → (some (bI (0 < m ∨ m = 0 ∧ cst y LO sd s < cst y LO sd i)) : Option Int32) = some (bI ((i : Int) = -1 ∨ wrt sd b < wrt sd v ∨ wrt sd b = wrt sd v ∧ cst y LO sd s < cst y LO sd ((i : Int)).toNat)) := by
      intro m h1 h2
      congr 1
      unfold bI
      rw [Int.toNat_natCast]
      by_cases q : 0 < m ∨ m = 0 ∧ cst y LO sd s < cst y LO sd i
      · rw [if_pos q, if_pos]
        rcases q with q | q
        · exact Or.inr (Or.inl (h1.mp q))
        · exact Or.inr (Or.inr ⟨h2.mp q.1, q.2⟩)
      · rw [if_neg q, if_neg]
        intro q'
        rcases q' with q' | q' | q'
        · exact c0 q'
        · exact q (Or.inl (h1.mpr q'))
        · exact q (Or.inr ⟨h2.mpr q'.1, q'.2⟩)
    have hs2 : sd = 0 ∨ sd = 1 := by omega
    rcases hs2 with rfl | rfl
    · rw [if_pos (show i32 ((0 : Nat) : Int) = 0 from rfl), i64_sub, h23 _ (by omega) (by omega)]
      exact fin _ (by unfold wrt; rw [if_pos rfl, if_pos rfl]; omega) (by unfold wrt; rw [if_pos rfl, if_pos rfl]; omega)
    · rw [if_neg (show ¬ i32 ((1 : Nat) : Int) = 0 by decide), i64_sub, h23 _ (by omega) (by omega)]
      exact fin _ (by unfold wrt; rw [if_neg (by omega), if_neg (by omega)]; omega) (by unfold wrt; rw [if_neg (by omega), if_neg (by omega)]; omega)
/-- the reply -/
def rpS (y : Nat → Int) (LO : Option LwS) (sd other n : Nat) : Int := bst (cnT y LO sd) (fun s => wrt sd (wnB y LO sd s other)) (cst y LO sd) n
theorem rp_fact (sd other n : Nat) : rpS y LO sd other n = -1 ∨ 0 ≤ rpS y LO sd other n ∧ rpS y LO sd other n < n ∧ cnS y LO sd (rpS y LO sd other n).toNat := by
  rcases bst_fact (t := cnT y LO sd) (wv := fun s => wrt sd (wnB y LO sd s other)) (co := cst y LO sd) n with h | h
  · exact Or.inl h
  · exact Or.inr ⟨h.1, h.2.1, cnT_iff.mp h.2.2⟩
theorem rp_step (sd other s : Nat) : rpS y LO sd other (s + 1) = if cnT y LO sd s = true ∧ (rpS y LO sd other s = -1 ∨ wrt sd (wnB y LO sd (rpS y LO sd other s).toNat other) < wrt sd (wnB y LO sd s other) ∨ wrt sd (wnB y LO sd (rpS y LO sd other s).toNat other) = wrt sd (wnB y LO sd s other) ∧ cst y LO sd s < cst y LO sd (rpS y LO sd other s).toNat) then (s : Int) else rpS y LO sd other s := rfl
theorem wrt_rng {sd a b : Nat} : -10000000000000000 ≤ wrt sd (wnB y LO sd a b) ∧ wrt sd (wnB y LO sd a b) ≤ 10000000000000000 := by
  have := wnB_rng (y := y) (LO := LO) (sd := sd) (a := a) (b := b)
  unfold wrt
  split <;> omega
theorem v_replyL (hFu : 6000 ≤ Fu) (hM : RM y row) (hW : WF y) {ch co : Nat → Int32} (hc : CH y LO (y 6).toNat ch) (hC : CT y LO co) {sd other : Nat} (hsd : sd < 2) (hot : other < 256) :
    ∀ (d f s : Nat) (vs : Nat → Int64) (best : Int), s + d = 256 → d < f → (rpS y LO sd other s = -1 ∧ best = 0 ∨ 0 ≤ rpS y LO sd other s ∧ best = wnB y LO sd (rpS y LO sd other s).toNat other) → Rt (fX12_replyTo_L8 Fu f row ch vs co (i32 (sd : Int)) (i32 (other : Int)) (i32 (rpS y LO sd other s)) (i64 best) (i32 (s : Int))) (fun r => r.1 = i32 (rpS y LO sd other 256)) := by
  intro d
  induction d with
  | zero =>
    intro f s vs best hs hf hb
    obtain ⟨f, rfl⟩ : ∃ f', f = f' + 1 := ⟨f - 1, by omega⟩
    obtain rfl : s = 256 := by omega
    rw [fX12_replyTo_L8]
    exact Rt.ift (by decide) (Rt.ret rfl)
  | succ d ih =>
    intro f s vs best hs hf hb
    obtain ⟨f, rfl⟩ : ∃ f', f = f' + 1 := ⟨f - 1, by omega⟩
    have st := rp_step (y := y) (LO := LO) sd other s
    have rf := rp_fact (y := y) (LO := LO) sd other s
    rw [fX12_replyTo_L8]
    refine Rt.iff (by rw [i32_litN 256, i32_le (by omega) (by omega) (by omega) (by omega)]; omega) ?_
    rw [v_canN hM hW hC hsd (by omega)]
    refine Rt.eqb rfl ?_
    by_cases cc : cnS y LO sd s
    · refine Rt.iff (by rw [bI_0]; exact fun q => q cc) ?_
      have wr := wnB_rng (y := y) (LO := LO) (sd := sd) (a := s) (b := other)
      have br : 0 ≤ best ∧ best ≤ 10000000000000000 := by
        rcases hb with ⟨-, q⟩ | ⟨-, q⟩
        · omega
        · have := wnB_rng (y := y) (LO := LO) (sd := sd) (a := (rpS y LO sd other s).toNat) (b := other); omega
      have h67 : ∀ vs' : Nat → Int64, Rt (fX12_replyTo_L67 Fu (fX12_replyTo_L8 Fu f) row ch vs' co (i32 (sd : Int)) (i32 (other : Int)) (i32 (rpS y LO sd other s)) (i64 best) (i32 (s : Int)) (i64 (wnB y LO sd s other))) (fun r => r.1 = i32 (rpS y LO sd other 256)) := by
        intro vs'
        unfold fX12_replyTo_L67
        rw [v_isBetter hW hC hsd (by omega) (by omega) (by omega) (by omega) (by omega) (by omega) (by omega), i32_p1]
        refine Rt.eqb rfl ?_
        have eqv : (rpS y LO sd other s = -1 ∨ wrt sd best < wrt sd (wnB y LO sd s other) ∨ wrt sd best = wrt sd (wnB y LO sd s other) ∧ cst y LO sd s < cst y LO sd (rpS y LO sd other s).toNat) ↔ (rpS y LO sd other s = -1 ∨ wrt sd (wnB y LO sd (rpS y LO sd other s).toNat other) < wrt sd (wnB y LO sd s other) ∨ wrt sd (wnB y LO sd (rpS y LO sd other s).toNat other) = wrt sd (wnB y LO sd s other) ∧ cst y LO sd s < cst y LO sd (rpS y LO sd other s).toNat) := by
          rcases hb with ⟨q, -⟩ | ⟨-, q⟩
          · exact ⟨fun _ => Or.inl q, fun _ => Or.inl q⟩
          · rw [q]
        by_cases cb : rpS y LO sd other s = -1 ∨ wrt sd best < wrt sd (wnB y LO sd s other) ∨ wrt sd best = wrt sd (wnB y LO sd s other) ∧ cst y LO sd s < cst y LO sd (rpS y LO sd other s).toNat
        · refine Rt.iff (by rw [bI_0]; exact fun q => q cb) ?_
          rw [if_pos ⟨cnT_iff.mpr cc, eqv.mp cb⟩] at st
          have := ih f (s + 1) vs' (wnB y LO sd s other) (by omega) (by omega) (Or.inr (by rw [st]; exact ⟨by omega, by rw [Int.toNat_natCast]⟩))
          rw [st] at this; exact this
        · refine Rt.ift (by rw [bI_0]; exact cb) ?_
          rw [if_neg (fun q => cb (eqv.mpr q.2))] at st
          have := ih f (s + 1) vs' best (by omega) (by omega) (by rw [st]; exact hb)
          rw [st] at this; exact this
      have r4 : row (4 : Int32).toNatClampNeg = i32 (y 4) := hM 4 (by omega)
      rw [gd9 (by decide) (by decide), gd9 (by decide) (by decide), v_quota hM, r4]
      have hs2 : sd = 0 ∨ sd = 1 := by omega
      rcases hs2 with rfl | rfl
      · refine Rt.ift rfl (Rt.eqb rfl ?_)
        refine Rt.bind (v_winsS hFu hM hW hc (show s < 256 by omega) hot) (fun r hr => ?_)
        rw [hr]; exact h67 r.2
      · refine Rt.iff (by decide) (Rt.eqb rfl ?_)
        refine Rt.bind (v_winsS hFu hM hW hc hot (show s < 256 by omega)) (fun r hr => ?_)
        rw [hr]; exact h67 r.2
    · refine Rt.ift (by rw [bI_0]; exact cc) ?_
      rw [if_neg (fun q => cc (cnT_iff.mp q.1))] at st
      rw [i32_p1]
      have := ih f (s + 1) vs best (by omega) (by omega) (by rw [st]; exact hb)
      rw [st] at this; exact this
theorem x_worth {sd : Nat} (hsd : sd < 2) {v : Int} : fX1_worth (i32 (sd : Int)) (i64 v) = some (i64 (wrt sd v)) := by
  have hs2 : sd = 0 ∨ sd = 1 := by omega
  unfold fX1_worth wrt
  rcases hs2 with rfl | rfl
  · rw [if_pos (show i32 ((0 : Nat) : Int) = 0 from rfl), if_pos rfl]
  · rw [if_neg (show ¬ i32 ((1 : Nat) : Int) = 0 by decide), if_neg (by omega), i64_neg]
theorem x_replyL (hFu : 6000 ≤ Fu) {vb vs vsd vq : Int32} {a43 a44 a46 a47 a49 : Nat → Int32} (hW : WF y) (hB : BK y LO vb vs vsd vq a43 a44 a46 a47 a49) {sd other : Nat} (hsd : sd < 2) (hot : other < 256) :
    ∀ (d f s : Nat) (vot : Int32) (ways : Nat → Int64) (bi most : Int), s + d = (y 4).toNat + 1 → d < f → (rpS y LO sd other s = -1 ∧ bi = 0 ∧ most = -9223372036854775808 ∨ 0 ≤ rpS y LO sd other s ∧ bi = rpS y LO sd other s ∧ most = wrt sd (wnB y LO sd (rpS y LO sd other s).toNat other)) → Rt (fX1_bestReply_L10 Fu f vb vs vq a43 a44 a46 a47 vot ways (i32 (sd : Int)) (i32 (other : Int)) (i32 bi) (i64 most) (i32 (s : Int))) (fun r => r.1 = i32 (rpS y LO sd other 256)) := by
  obtain ⟨t, n, e4, e0, hn, hs1, hs, hb⟩ := hW.seats
  have evs := hB.2.1
  intro d
  induction d with
  | zero =>
    intro f s vot ways bi most hs hf hb
    obtain ⟨f, rfl⟩ : ∃ f', f = f' + 1 := ⟨f - 1, by omega⟩
    rw [fX1_bestReply_L10]
    refine Rt.ift (by rw [evs, i32_lt (by omega) (by omega) (by omega) (by omega)]; omega) (Rt.ret ?_)
    have e : rpS y LO sd other 256 = rpS y LO sd other s := by
      obtain rfl : s = (y 4).toNat + 1 := by omega
      exact bst_seats hW
    have pos : 0 ≤ rpS y LO sd other s := by
      obtain rfl : s = (y 4).toNat + 1 := by omega
      exact bst_some (cnT_0 hW hsd) _
    rw [e]
    show i32 bi = _
    rcases hb with q | q
    · omega
    · rw [q.2.1]
  | succ d ih =>
    intro f s vot ways bi most hs hf hb
    obtain ⟨f, rfl⟩ : ∃ f', f = f' + 1 := ⟨f - 1, by omega⟩
    have st := rp_step (y := y) (LO := LO) sd other s
    have rf := rp_fact (y := y) (LO := LO) sd other s
    rw [fX1_bestReply_L10]
    refine Rt.iff (by rw [evs, i32_lt (by omega) (by omega) (by omega) (by omega)]; omega) ?_
    rw [x_canN hW hB hsd (by omega)]
    refine Rt.eqb rfl ?_
    by_cases cc : cnS y LO sd s
    · refine Rt.iff (by rw [bI_0]; exact fun q => q cc) ?_
      have cl := cn_lt hW cc
      refine Rt.bind (x_winBy hFu hW hB hsd (show s < 256 by omega) hot) (fun r hr => ?_)
      rw [hr, x_worth hsd]
      refine Rt.eqb rfl ?_
      have wr := wrt_rng (y := y) (LO := LO) (sd := sd) (a := s) (b := other)
      unfold fX1_bestReply_L75
      have yes : ∀ vot ways, (rpS y LO sd other s = -1 ∨ wrt sd (wnB y LO sd (rpS y LO sd other s).toNat other) < wrt sd (wnB y LO sd s other) ∨ wrt sd (wnB y LO sd (rpS y LO sd other s).toNat other) = wrt sd (wnB y LO sd s other) ∧ cst y LO sd s < cst y LO sd (rpS y LO sd other s).toNat) → Rt (fX1_bestReply_L10 Fu f vb vs vq a43 a44 a46 a47 vot ways (i32 (sd : Int)) (i32 (other : Int)) (i32 (s : Int)) (i64 (wrt sd (wnB y LO sd s other))) (i32 (s : Int) + 1)) (fun r => r.1 = i32 (rpS y LO sd other 256)) := by
        intro vot ways q
        rw [if_pos ⟨cnT_iff.mpr cc, q⟩] at st
        rw [i32_p1]
        exact ih f (s + 1) vot ways (s : Int) _ (by omega) (by omega) (Or.inr (by rw [st]; exact ⟨by omega, rfl, by rw [Int.toNat_natCast]⟩))
      have no : ∀ vot ways, ¬ (rpS y LO sd other s = -1 ∨ wrt sd (wnB y LO sd (rpS y LO sd other s).toNat other) < wrt sd (wnB y LO sd s other) ∨ wrt sd (wnB y LO sd (rpS y LO sd other s).toNat other) = wrt sd (wnB y LO sd s other) ∧ cst y LO sd s < cst y LO sd (rpS y LO sd other s).toNat) → Rt (fX1_bestReply_L10 Fu f vb vs vq a43 a44 a46 a47 vot ways (i32 (sd : Int)) (i32 (other : Int)) (i32 bi) (i64 most) (i32 (s : Int) + 1)) (fun r => r.1 = i32 (rpS y LO sd other 256)) := by
        intro vot ways q
        rw [if_neg (fun q' => q q'.2)] at st
        rw [i32_p1]
        exact ih f (s + 1) vot ways bi most (by omega) (by omega) (by rw [st]; exact hb)
      rcases hb with ⟨q1, q2, q3⟩ | ⟨q1, q2, q3⟩
      · exact Rt.ift (by rw [q3, i64_lt (by omega) (by omega) (by omega) (by omega)]; omega) (yes _ _ (Or.inl q1))
      · rcases rf with rf | rf
        · omega
        · have cl2 := cn_lt hW rf.2.2
          have cr := cst_rng (LO := LO) hW (sd := sd) (s := s)
          have cr2 := cst_rng (LO := LO) hW (sd := sd) (s := (rpS y LO sd other s).toNat)
          have wr2 := wrt_rng (y := y) (LO := LO) (sd := sd) (a := (rpS y LO sd other s).toNat) (b := other)
          by_cases c1 : most < wrt sd (wnB y LO sd s other)
          · exact Rt.ift (by rw [i64_lt (by omega) (by omega) (by omega) (by omega)]; exact c1) (yes _ _ (Or.inr (Or.inl (by omega))))
          · refine Rt.iff (by rw [i64_lt (by omega) (by omega) (by omega) (by omega)]; exact c1) ?_
            by_cases c2 : wrt sd (wnB y LO sd s other) = most
            · refine Rt.ift (by rw [c2]) ?_
              rw [x_cost hW hB hsd cl.2.1, show bi = (((rpS y LO sd other s).toNat : Nat) : Int) by omega, x_cost hW hB hsd cl2.2.1]
              refine Rt.eqb rfl (Rt.eqb rfl ?_)
              rw [show (((rpS y LO sd other s).toNat : Nat) : Int) = bi by omega]
              by_cases c3 : cst y LO sd s < cst y LO sd (rpS y LO sd other s).toNat
              · exact Rt.iff (by rw [i32_le (by omega) (by omega) (by omega) (by omega)]; omega) (yes _ _ (Or.inr (Or.inr ⟨by omega, c3⟩)))
              · exact Rt.ift (by rw [i32_le (by omega) (by omega) (by omega) (by omega)]; omega) (no _ _ (by omega))
            · exact Rt.iff (by rw [i64_eq (by omega) (by omega) (by omega) (by omega)]; exact c2) (no _ _ (by omega))
    · refine Rt.ift (by rw [bI_0]; exact cc) ?_
      rw [if_neg (fun q => cc (cnT_iff.mp q.1))] at st
      rw [i32_p1]
      exact ih f (s + 1) vot ways bi most (by omega) (by omega) (by rw [st]; exact hb)
theorem x_toldB {vb vs vsd vq : Int32} {a43 a44 a46 a47 a49 : Nat → Int32} (hW : WF y) (hB : BK y LO vb vs vsd vq a43 a44 a46 a47 a49) {sd : Nat} (hsd : sd < 2) {s w : Int} (s1 : -1 ≤ s) (s2 : s < 2 ^ (y 0).toNat) (hw : w = 0 ∨ w = 1) : fX1_told a46 (i32 (sd : Int)) (i32 s) (i32 w) = some (i32 (if s = -1 ∨ w = 0 then s else cst y LO sd s.toNat)) := by
  have hp := p2_256 hW
  have e2 : ((2 ^ (y 0).toNat : Nat) : Int) = 2 ^ (y 0).toNat := by simp
  unfold fX1_told
  by_cases c : s = -1
  · rw [if_pos (by rw [c]; rfl), if_pos (Or.inl c)]
  · rw [if_neg (by rw [i32_m1, i32_eq (by omega) (by omega) (by omega) (by omega)]; exact c)]
    rcases hw with rfl | rfl
    · rw [if_pos (show i32 0 = 0 from rfl), if_pos (Or.inr rfl)]
    · rw [if_neg (show ¬ i32 1 = 0 by decide), if_neg (by omega)]
      have := x_cost hW hB hsd (s := s.toNat) (by omega)
      rw [show ((s.toNat : Nat) : Int) = s by omega] at this
      rw [this]; rfl
def bribedS (y : Nat → Int) (LO : Option LwS) (z o : Int) : Int := if (0 ≤ z ∧ cnS y LO 0 z.toNat) ∧ (0 ≤ o ∧ cnS y LO 1 o.toNat) then wn y LO z.toNat o.toNat else -1
theorem m_bribed (hFu : 6000 ≤ Fu) (hM : RM y row) (hW : WF y) (hO : MO y LO) {th lw : Int32} {set rs : Nat → Int64} {br : Int32} {val sum : Int64} {ch co pc : Nat → Int32} {vs : Nat → Int64} {z o : Int} (z1 : -2147483648 ≤ z) (z2 : z ≤ 2147483647) (o1 : -2147483648 ≤ o) (o2 : o ≤ 2147483647) :
    Rt (fX12_bribed Fu th row lw set rs br val sum ch vs co pc (i32 z) (i32 o)) (fun r => r.1 = i64 (bribedS y LO z o)) := by
  have eN : ¬ ((0 ≤ z ∧ cnS y LO 0 z.toNat) ∧ (0 ≤ o ∧ cnS y LO 1 o.toNat)) → bribedS y LO z o = -1 := fun q => if_neg q
  have eY : ((0 ≤ z ∧ cnS y LO 0 z.toNat) ∧ (0 ≤ o ∧ cnS y LO 1 o.toNat)) → bribedS y LO z o = wn y LO z.toNat o.toNat := fun q => if_pos q
  unfold fX12_bribed fX12_bribed_L46
  refine Rt.bind (v_layBribes hFu hM hW hO) (fun r hr => ?_)
  have e0 := v_can hM hW hr.2 (sd := 0) (by omega) z1 z2
  have e1 := v_can hM hW hr.2 (sd := 1) (by omega) o1 o2
  rw [show (0 : Int32) = i32 ((0 : Nat) : Int) from rfl, show (1 : Int32) = i32 ((1 : Nat) : Int) from rfl, e0, e1]
  refine Rt.eqb rfl ?_
  by_cases c0 : 0 ≤ z ∧ cnS y LO 0 z.toNat
  · refine Rt.iff (show ¬ _ = (0 : Int32) by rw [bI_0]; exact fun q => q c0) (Rt.eqb rfl ?_)
    by_cases c1 : 0 ≤ o ∧ cnS y LO 1 o.toNat
    · refine Rt.iff (show ¬ _ = (0 : Int32) by rw [bI_0]; exact fun q => q c1) ?_
      rw [eY ⟨c0, c1⟩, gd9 (by decide) (by decide), v_quota hM, i32_nn9 (by decide), hM 4 (by omega)]
      refine Rt.eqb rfl ?_
      have l0 := cn_lt hW c0.2
      have l1 := cn_lt hW c1.2
      have := v_winsS (vs := vs) hFu hM hW hr.1 (z := z.toNat) (o := o.toNat) (by omega) (by omega)
      rw [show ((z.toNat : Nat) : Int) = z by omega, show ((o.toNat : Nat) : Int) = o by omega] at this
      exact Rt.bind this (fun r2 hr2 => Rt.ret hr2)
    · refine Rt.ift (show _ = (0 : Int32) by rw [bI_0]; exact c1) ?_
      rw [eN (fun q => c1 q.2)]; exact Rt.ret rfl
  · refine Rt.ift (show _ = (0 : Int32) by rw [bI_0]; exact c0) ?_
    rw [eN (fun q => c0 q.1)]; exact Rt.ret rfl
theorem c_bribed_N (hFu : 6000 ≤ Fu) {a5 : Nat → Option Nat} (hW : WF y) (hX : RX y beasts meals seats laws inForce tr mh te cases rs ju vo) (hH : HN y LO) {vb vs vsd vq kn sv : Int32} {a43 a44 a45 a46 a47 a49 : Nat → Int32} {a48 : Nat → Int64} (hC : CI y LO vb vs vsd vq kn sv a43 a44 a46 a47 a48 a49) (a38 : Nat → Int32) (vot : Int32) (ways : Nat → Int64) {z o : Int} (z1 : -2147483648 ≤ z) (z2 : z ≤ 2147483647) (o1 : -2147483648 ≤ o) (o2 : o ≤ 2147483647) :
    Rt (fX11_bribed_N Fu beasts seats laws inForce tr mh te a5 a38 vb vs vsd vq kn sv a43 a44 a45 a46 a47 a49 vot ways (i32 z) (i32 o)) (fun r => r.1 = i64 (bribedS y LO z o) ∧ CI y LO r.2.2.1 r.2.2.2.1 r.2.2.2.2.1 r.2.2.2.2.2.1 r.2.2.2.2.2.2.1 r.2.2.2.2.2.2.2.1 r.2.2.2.2.2.2.2.2.1 r.2.2.2.2.2.2.2.2.2.1 r.2.2.2.2.2.2.2.2.2.2.2.1 r.2.2.2.2.2.2.2.2.2.2.2.2.1 a48 r.2.2.2.2.2.2.2.2.2.2.2.2.2.1) := by
  have eN : ¬ ((0 ≤ z ∧ cnS y LO 0 z.toNat) ∧ (0 ≤ o ∧ cnS y LO 1 o.toNat)) → bribedS y LO z o = -1 := fun q => if_neg q
  have eY : ((0 ≤ z ∧ cnS y LO 0 z.toNat) ∧ (0 ≤ o ∧ cnS y LO 1 o.toNat)) → bribedS y LO z o = wn y LO z.toNat o.toNat := fun q => if_pos q
  unfold fX11_bribed_N
  refine Rt.bind (x_learnB_N (Q := fun sv => sv = 0 ∨ sv = 1 ∧ SV y LO a48) hFu hW hX hH a38 hC (Or.inl rfl)) (fun r hr => ?_)
  obtain ⟨g1, g2, g3⟩ := hr
  have e0 := x_can hW g3 (sd := 0) (by omega) z1 z2
  have e1 := x_can hW g3 (sd := 1) (by omega) o1 o2
  rw [show (0 : Int32) = i32 ((0 : Nat) : Int) from rfl, show (1 : Int32) = i32 ((1 : Nat) : Int) from rfl, e0, e1]
  refine Rt.eqb rfl ?_
  by_cases c0 : 0 ≤ z ∧ cnS y LO 0 z.toNat
  · refine Rt.iff (show ¬ _ = (0 : Int32) by rw [bI_0]; exact fun q => q c0) (Rt.eqb rfl ?_)
    by_cases c1 : 0 ≤ o ∧ cnS y LO 1 o.toNat
    · refine Rt.iff (show ¬ _ = (0 : Int32) by rw [bI_0]; exact fun q => q c1) ?_
      rw [eY ⟨c0, c1⟩]
      have l0 := cn_lt hW c0.2
      have l1 := cn_lt hW c1.2
      have := x_winning (vot := vot) (ways := ways) hFu hW g3 (z := z.toNat) (o := o.toNat) (by omega) (by omega)
      rw [show ((z.toNat : Nat) : Int) = z by omega, show ((o.toNat : Nat) : Int) = o by omega] at this
      exact Rt.bind this (fun r2 hr2 => Rt.ret ⟨hr2, Or.inr ⟨g1, g3, g2⟩⟩)
    · refine Rt.ift (show _ = (0 : Int32) by rw [bI_0]; exact c1) ?_
      rw [eN (fun q => c1 q.2)]; exact Rt.ret ⟨rfl, Or.inr ⟨g1, g3, g2⟩⟩
  · refine Rt.ift (show _ = (0 : Int32) by rw [bI_0]; exact c0) ?_
    rw [eN (fun q => c0 q.1)]; exact Rt.ret ⟨rfl, Or.inr ⟨g1, g3, g2⟩⟩
theorem c_bribed_L (hFu : 6000 ≤ Fu) {nh nt ne ns bb q : Nat} {a5 : Nat → Option Nat} {aL1 aL2 aL3 aL4 : Nat → Int32} (hW : WF y) (hX : RX y beasts meals seats laws inForce tr mh te cases rs ju vo) (hH : HL y LO nh nt ne ns bb q a5 aL1 aL2 aL3 aL4) {vb vs vsd vq kn sv : Int32} {a43 a44 a45 a46 a47 a49 : Nat → Int32} {a48 : Nat → Int64} (hC : CI y LO vb vs vsd vq kn sv a43 a44 a46 a47 a48 a49) (ht : Int32) (an : Int64) (a38 : Nat → Int32) (a39 : Nat → Int64) (vot : Int32) (ways : Nat → Int64) {z o : Int} (z1 : -2147483648 ≤ z) (z2 : z ≤ 2147483647) (o1 : -2147483648 ≤ o) (o2 : o ≤ 2147483647) :
    Rt (fX11_bribed_L Fu nh nt ne ns bb q beasts seats laws inForce tr mh te a5 ht an a38 a39 vb vs vsd vq kn sv a43 a44 a45 a46 a47 a49 vot ways aL1 aL2 aL3 aL4 (i32 z) (i32 o)) (fun r => r.1 = i64 (bribedS y LO z o) ∧ CI y LO r.2.2.2.2.2.1 r.2.2.2.2.2.2.1 r.2.2.2.2.2.2.2.1 r.2.2.2.2.2.2.2.2.1 r.2.2.2.2.2.2.2.2.2.1 r.2.2.2.2.2.2.2.2.2.2.1 r.2.2.2.2.2.2.2.2.2.2.2.1 r.2.2.2.2.2.2.2.2.2.2.2.2.1 r.2.2.2.2.2.2.2.2.2.2.2.2.2.2.1 r.2.2.2.2.2.2.2.2.2.2.2.2.2.2.2.1 a48 r.2.2.2.2.2.2.2.2.2.2.2.2.2.2.2.2.1) := by
  have eN : ¬ ((0 ≤ z ∧ cnS y LO 0 z.toNat) ∧ (0 ≤ o ∧ cnS y LO 1 o.toNat)) → bribedS y LO z o = -1 := fun q => if_neg q
  have eY : ((0 ≤ z ∧ cnS y LO 0 z.toNat) ∧ (0 ≤ o ∧ cnS y LO 1 o.toNat)) → bribedS y LO z o = wn y LO z.toNat o.toNat := fun q => if_pos q
  unfold fX11_bribed_L
  refine Rt.bind (x_learnB_L (Q := fun sv => sv = 0 ∨ sv = 1 ∧ SV y LO a48) hFu hW hX hH ht an a38 a39 hC (Or.inl rfl)) (fun r hr => ?_)
  obtain ⟨g1, g2, g3⟩ := hr
  have e0 := x_can hW g3 (sd := 0) (by omega) z1 z2
  have e1 := x_can hW g3 (sd := 1) (by omega) o1 o2
  rw [show (0 : Int32) = i32 ((0 : Nat) : Int) from rfl, show (1 : Int32) = i32 ((1 : Nat) : Int) from rfl, e0, e1]
  refine Rt.eqb rfl ?_
  by_cases c0 : 0 ≤ z ∧ cnS y LO 0 z.toNat
  · refine Rt.iff (show ¬ _ = (0 : Int32) by rw [bI_0]; exact fun q => q c0) (Rt.eqb rfl ?_)
    by_cases c1 : 0 ≤ o ∧ cnS y LO 1 o.toNat
    · refine Rt.iff (show ¬ _ = (0 : Int32) by rw [bI_0]; exact fun q => q c1) ?_
      rw [eY ⟨c0, c1⟩]
      have l0 := cn_lt hW c0.2
      have l1 := cn_lt hW c1.2
      have := x_winning (vot := vot) (ways := ways) hFu hW g3 (z := z.toNat) (o := o.toNat) (by omega) (by omega)
      rw [show ((z.toNat : Nat) : Int) = z by omega, show ((o.toNat : Nat) : Int) = o by omega] at this
      exact Rt.bind this (fun r2 hr2 => Rt.ret ⟨hr2, Or.inr ⟨g1, g3, g2⟩⟩)
    · refine Rt.ift (show _ = (0 : Int32) by rw [bI_0]; exact c1) ?_
      rw [eN (fun q => c1 q.2)]; exact Rt.ret ⟨rfl, Or.inr ⟨g1, g3, g2⟩⟩
  · refine Rt.ift (show _ = (0 : Int32) by rw [bI_0]; exact c0) ?_
    rw [eN (fun q => c0 q.1)]; exact Rt.ret ⟨rfl, Or.inr ⟨g1, g3, g2⟩⟩
end BRIB3
