section STEADY
variable {y : Nat → Int} {row : Nat → Int32} {beasts meals seats laws inForce cases : Int32} {tr mh te rs ju vo : Nat → Int32} {Fu : Nat} {LO : Option LwS}
/-! the steadiest bench -/
def cbT (y : Nat → Int) (LO : Option LwS) (bn sd s : Nat) : Bool := decide (cnB y LO bn sd s)
theorem cbT_iff {bn sd s : Nat} : cbT y LO bn sd s = true ↔ cnB y LO bn sd s := by unfold cbT; exact decide_eq_true_iff
def upS (y : Nat → Int) (LO : Option LwS) (q bn n : Nat) : Int := mxF (cbT y LO bn 0) (fun s => wnO y LO bn q s 0) n
def dnS (y : Nat → Int) (LO : Option LwS) (q bn n : Nat) : Int := mnF (cbT y LO bn 1) (fun s => wnO y LO bn q 0 s) n
def swB (y : Nat → Int) (LO : Option LwS) (q bn : Nat) : Int := upS y LO q bn 256 - dnS y LO q bn 256
theorem mxF_up {t : Nat → Bool} {f : Nat → Int} {N : Nat} (h : ∀ s, N ≤ s → t s = false) : ∀ m, mxF t f (N + m) = mxF t f N := by
  intro m
  induction m with
  | zero => rfl
  | succ m ih =>
    show (if t (N + m) = true ∧ _ then _ else mxF t f (N + m)) = _
    rw [if_neg (fun q => by rw [h _ (by omega)] at q; cases q.1), ih]
theorem mnF_up {t : Nat → Bool} {f : Nat → Int} {N : Nat} (h : ∀ s, N ≤ s → t s = false) : ∀ m, mnF t f (N + m) = mnF t f N := by
  intro m
  induction m with
  | zero => rfl
  | succ m ih =>
    show (if t (N + m) = true ∧ _ then _ else mnF t f (N + m)) = _
    rw [if_neg (fun q => by rw [h _ (by omega)] at q; cases q.1), ih]
theorem mxF_rng {t : Nat → Bool} {f : Nat → Int} (hf : ∀ s, 0 ≤ f s ∧ f s ≤ 10000000000000000) : ∀ n, -1 ≤ mxF t f n ∧ mxF t f n ≤ 10000000000000000 := by
  intro n
  induction n with
  | zero => exact ⟨Int.le_refl _, by show (-1 : Int) ≤ _; omega⟩
  | succ n ih =>
    have := hf n
    show -1 ≤ (if _ then _ else _) ∧ (if _ then _ else _) ≤ (10000000000000000 : Int)
    split <;> omega
theorem mnF_rng {t : Nat → Bool} {f : Nat → Int} (hf : ∀ s, 0 ≤ f s ∧ f s ≤ 10000000000000000) : ∀ n, 0 ≤ mnF t f n ∧ mnF t f n ≤ 1000000000000000000 := by
  intro n
  induction n with
  | zero => exact ⟨by show (0 : Int) ≤ 1000000000000000000; omega, Int.le_refl _⟩
  | succ n ih =>
    have := hf n
    unfold mnF
    split <;> omega
theorem mxF_0 {t : Nat → Bool} {f : Nat → Int} (h0 : t 0 = true) (hf : ∀ s, 0 ≤ f s ∧ f s ≤ 10000000000000000) : ∀ n, 0 ≤ mxF t f (n + 1) := by
  intro n
  induction n with
  | zero =>
    show 0 ≤ (if t 0 = true ∧ (-1 : Int) < f 0 then f 0 else -1)
    have := hf 0
    rw [if_pos ⟨h0, by omega⟩]; omega
  | succ n ih =>
    have := hf (n + 1)
    show 0 ≤ (if _ then f (n + 1) else mxF t f (n + 1))
    split <;> omega
theorem mnF_0 {t : Nat → Bool} {f : Nat → Int} (h0 : t 0 = true) (hf : ∀ s, 0 ≤ f s ∧ f s ≤ 10000000000000000) : ∀ n, mnF t f (n + 1) ≤ 10000000000000000 := by
  intro n
  induction n with
  | zero =>
    show (if t 0 = true ∧ f 0 < (1000000000000000000 : Int) then f 0 else 1000000000000000000) ≤ _
    have := hf 0
    rw [if_pos ⟨h0, by omega⟩]; omega
  | succ n ih =>
    have := hf (n + 1)
    show (if _ then f (n + 1) else mnF t f (n + 1)) ≤ _
    split <;> omega
/-- the most, from the least of all numbers -/
def mxM (t : Nat → Bool) (f : Nat → Int) : Nat → Int
  | 0 => -9223372036854775808
  | o + 1 => if t o = true ∧ mxM t f o < f o then f o else mxM t f o
theorem mxM_F {t : Nat → Bool} {f : Nat → Int} (h0 : t 0 = true) (hf : ∀ s, 0 ≤ f s) : ∀ n, mxM t f (n + 1) = mxF t f (n + 1) := by
  intro n
  induction n with
  | zero =>
    have := hf 0
    show (if t 0 = true ∧ (-9223372036854775808 : Int) < f 0 then f 0 else _) = (if t 0 = true ∧ (-1 : Int) < f 0 then f 0 else _)
    rw [if_pos ⟨h0, by omega⟩, if_pos ⟨h0, by omega⟩]
  | succ n ih =>
    show (if _ ∧ mxM t f (n + 1) < _ then _ else mxM t f (n + 1)) = (if _ ∧ mxF t f (n + 1) < _ then _ else mxF t f (n + 1))
    rw [ih]
theorem mxM_N {t : Nat → Bool} {f : Nat → Int} (h0 : t 0 = true) (hf : ∀ s, 0 ≤ f s ∧ f s ≤ 10000000000000000) : ∀ n, mxM t (fun s => - f s) (n + 1) = - mnF t f (n + 1) := by
  intro n
  induction n with
  | zero =>
    have := hf 0
    show (if t 0 = true ∧ (-9223372036854775808 : Int) < - f 0 then - f 0 else _) = - (if t 0 = true ∧ f 0 < (1000000000000000000 : Int) then f 0 else _)
    rw [if_pos ⟨h0, by omega⟩, if_pos ⟨h0, by omega⟩]
  | succ n ih =>
    show (if t (n + 1) = true ∧ mxM t (fun s => - f s) (n + 1) < - f (n + 1) then - f (n + 1) else mxM t (fun s => - f s) (n + 1)) = - (if t (n + 1) = true ∧ f (n + 1) < mnF t f (n + 1) then f (n + 1) else mnF t f (n + 1))
    rw [ih]
    by_cases c : t (n + 1) = true ∧ f (n + 1) < mnF t f (n + 1)
    · rw [if_pos c, if_pos ⟨c.1, by omega⟩]
    · rw [if_neg c, if_neg (fun q => c ⟨q.1, by omega⟩)]
theorem mxM_rng {t : Nat → Bool} {f : Nat → Int} (hf : ∀ s, -10000000000000000 ≤ f s ∧ f s ≤ 10000000000000000) : ∀ n, -9223372036854775808 ≤ mxM t f n ∧ mxM t f n ≤ 10000000000000000 := by
  intro n
  induction n with
  | zero => exact ⟨Int.le_refl _, by show (-9223372036854775808 : Int) ≤ _; omega⟩
  | succ n ih =>
    have := hf n
    show -9223372036854775808 ≤ (if _ then _ else _) ∧ (if _ then _ else _) ≤ (10000000000000000 : Int)
    split <;> omega
theorem cb_0 (hW : WF y) {bn sd : Nat} (hsd : sd < 2) : cbT y LO bn sd 0 = true := by
  refine cbT_iff.mpr ⟨Nat.zero_and _, ?_⟩
  exact (cn_0 (LO := LO) hW hsd).2
theorem cb_big {bn sd s : Nat} (h : bn < s) : cbT y LO bn sd s = false := by
  cases e : cbT y LO bn sd s with
  | false => rfl
  | true =>
    have := (cbT_iff.mp e).1
    have l : s &&& bn ≤ bn := Nat.and_le_right
    omega
theorem up_rng {q bn n : Nat} : -1 ≤ upS y LO q bn n ∧ upS y LO q bn n ≤ 10000000000000000 := mxF_rng (fun _ => wnO_rng) n
theorem dn_rng {q bn n : Nat} : 0 ≤ dnS y LO q bn n ∧ dnS y LO q bn n ≤ 1000000000000000000 := mnF_rng (fun _ => wnO_rng) n
theorem sw_rng (hW : WF y) {q bn : Nat} : -10000000000000000 ≤ swB y LO q bn ∧ swB y LO q bn ≤ 10000000000000000 := by
  have h1 := up_rng (y := y) (LO := LO) (q := q) (bn := bn) (n := 256)
  have h2 := dn_rng (y := y) (LO := LO) (q := q) (bn := bn) (n := 256)
  have h3 : 0 ≤ upS y LO q bn 256 := mxF_0 (cb_0 hW (by omega)) (fun _ => wnO_rng) 255
  have h4 : dnS y LO q bn 256 ≤ 10000000000000000 := mnF_0 (cb_0 hW (by omega)) (fun _ => wnO_rng) 255
  unfold swB
  omega
/-! the class's best of a side alone -/
def aw (y : Nat → Int) (LO : Option LwS) (q bn sd s : Nat) : Int := wrt sd (if sd = 0 then wnO y LO bn q s 0 else wnO y LO bn q 0 s)
theorem aw_rng {q bn sd s : Nat} : -10000000000000000 ≤ aw y LO q bn sd s ∧ aw y LO q bn sd s ≤ 10000000000000000 := by
  have h1 := wnO_rng (y := y) (LO := LO) (bn := bn) (q := q) (z := s) (o := 0)
  have h2 := wnO_rng (y := y) (LO := LO) (bn := bn) (q := q) (z := 0) (o := s)
  unfold aw wrt
  split <;> omega
theorem x_aloneL (hFu : 6000 ≤ Fu) {vb vs vsd vq : Int32} {a43 a44 a46 a47 a49 : Nat → Int32} (hW : WF y) (hB : BK y LO vb vs vsd vq a43 a44 a46 a47 a49) {sd bn q : Nat} (hsd : sd < 2) (hbn : bn < 2 ^ (y 0).toNat) (hq : q ≤ 8) :
    ∀ (d f s : Nat) (vot : Int32) (ways : Nat → Int64), s + d = bn + 1 → d < f → Rt (fX1_bestAlone_L8 Fu f vb a43 a44 a46 a47 vot ways (i32 (sd : Int)) (i32 (bn : Int)) (i32 (q : Int)) (i64 (mxM (cbT y LO bn sd) (aw y LO q bn sd) s)) (i32 (s : Int))) (fun r => r.1 = i64 (mxM (cbT y LO bn sd) (aw y LO q bn sd) (bn + 1))) := by
  have hp := p2_256 hW
  intro d
  induction d with
  | zero =>
    intro f s vot ways hs hf
    obtain ⟨f, rfl⟩ : ∃ f', f = f' + 1 := ⟨f - 1, by omega⟩
    rw [fX1_bestAlone_L8]
    refine Rt.ift (by rw [i32_lt (by omega) (by omega) (by omega) (by omega)]; omega) (Rt.ret ?_)
    obtain rfl : s = bn + 1 := by omega
    rfl
  | succ d ih =>
    intro f s vot ways hs hf
    obtain ⟨f, rfl⟩ : ∃ f', f = f' + 1 := ⟨f - 1, by omega⟩
    have ar := aw_rng (y := y) (LO := LO) (q := q) (bn := bn) (sd := sd) (s := s)
    have mr := mxM_rng (t := cbT y LO bn sd) (f := aw y LO q bn sd) (fun _ => aw_rng) s
    have step : ∀ vot ways, cnB y LO bn sd s → Rt (fX1_bestAlone_L58 Fu (fX1_bestAlone_L8 Fu f) vb a43 a44 a46 a47 vot ways (i32 (sd : Int)) (i32 (bn : Int)) (i32 (q : Int)) (i64 (mxM (cbT y LO bn sd) (aw y LO q bn sd) s)) (i32 (s : Int)) (i64 (if sd = 0 then wnO y LO bn q s 0 else wnO y LO bn q 0 s))) (fun r => r.1 = i64 (mxM (cbT y LO bn sd) (aw y LO q bn sd) (bn + 1))) := by
      intro vot ways cc
      unfold fX1_bestAlone_L58
      rw [x_worth hsd]
      refine Rt.eqb rfl ?_
      have e : (if i64 (wrt sd (if sd = 0 then wnO y LO bn q s 0 else wnO y LO bn q 0 s)) < i64 (mxM (cbT y LO bn sd) (aw y LO q bn sd) s) then i64 (mxM (cbT y LO bn sd) (aw y LO q bn sd) s) else i64 (wrt sd (if sd = 0 then wnO y LO bn q s 0 else wnO y LO bn q 0 s))) = i64 (mxM (cbT y LO bn sd) (aw y LO q bn sd) (s + 1)) := by
        show (if i64 (aw y LO q bn sd s) < _ then _ else i64 (aw y LO q bn sd s)) = i64 (if cbT y LO bn sd s = true ∧ mxM (cbT y LO bn sd) (aw y LO q bn sd) s < aw y LO q bn sd s then aw y LO q bn sd s else mxM (cbT y LO bn sd) (aw y LO q bn sd) s)
        have el := i64_lt (a := aw y LO q bn sd s) (b := mxM (cbT y LO bn sd) (aw y LO q bn sd) s) (by omega) (by omega) (by omega) (by omega)
        by_cases c1 : aw y LO q bn sd s < mxM (cbT y LO bn sd) (aw y LO q bn sd) s
        · rw [if_pos (el.mpr c1), if_neg (by omega)]
        · rw [if_neg (fun h => c1 (el.mp h))]
          by_cases c2 : mxM (cbT y LO bn sd) (aw y LO q bn sd) s < aw y LO q bn sd s
          · rw [if_pos ⟨cbT_iff.mpr cc, c2⟩]
          · rw [if_neg (by omega)]; congr 1; omega
      rw [e, i32_p1]
      exact ih f (s + 1) vot ways (by omega) (by omega)
    have skip : ∀ vot ways, ¬ cnB y LO bn sd s → Rt (fX1_bestAlone_L8 Fu f vb a43 a44 a46 a47 vot ways (i32 (sd : Int)) (i32 (bn : Int)) (i32 (q : Int)) (i64 (mxM (cbT y LO bn sd) (aw y LO q bn sd) s)) (i32 (s : Int) + 1)) (fun r => r.1 = i64 (mxM (cbT y LO bn sd) (aw y LO q bn sd) (bn + 1))) := by
      intro vot ways cc
      have e : mxM (cbT y LO bn sd) (aw y LO q bn sd) (s + 1) = mxM (cbT y LO bn sd) (aw y LO q bn sd) s := if_neg (fun q => cc (cbT_iff.mp q.1))
      rw [i32_p1, ← e]
      exact ih f (s + 1) vot ways (by omega) (by omega)
    rw [fX1_bestAlone_L8]
    refine Rt.iff (by rw [i32_lt (by omega) (by omega) (by omega) (by omega)]; omega) ?_
    by_cases cs : s &&& bn = s
    · refine Rt.ift ((i32_andn s bn (by omega) (by omega)).2 cs) ?_
      rw [x_affords hW hB hsd (show s < 2 ^ (y 0).toNat by omega)]
      refine Rt.eqb rfl ?_
      by_cases ca : cst y LO sd s ≤ y (8 + sd)
      · refine Rt.iff (by rw [bI_0]; exact fun q => q ca) ?_
        have : sd = 0 ∨ sd = 1 := by omega
        rcases this with rfl | rfl
        · refine Rt.ift rfl (Rt.bind (x_winOn hFu hW hB (bn := bn) (z := s) (o := 0) (q := q) hbn (by omega) (by omega) hq) (fun r hr => ?_))
          rw [hr]; exact step _ _ ⟨cs, ca⟩
        · refine Rt.iff (by decide) (Rt.bind (x_winOn hFu hW hB (bn := bn) (z := 0) (o := s) (q := q) hbn (by omega) (by omega) hq) (fun r hr => ?_))
          rw [hr]; exact step _ _ ⟨cs, ca⟩
      · exact Rt.ift (by rw [bI_0]; exact ca) (skip _ _ (fun q => ca q.2))
    · exact Rt.iff (fun q => cs ((i32_andn s bn (by omega) (by omega)).1 q)) (skip _ _ (fun q => cs q.1))
theorem x_alone (hFu : 6000 ≤ Fu) {vb vs vsd vq : Int32} {a43 a44 a46 a47 a49 : Nat → Int32} (hW : WF y) (hB : BK y LO vb vs vsd vq a43 a44 a46 a47 a49) {sd bn q : Nat} (hsd : sd < 2) (hbn : bn < 2 ^ (y 0).toNat) (hq : q ≤ 8) (vot : Int32) (ways : Nat → Int64) : Rt (fX1_bestAlone Fu vb a43 a44 a46 a47 vot ways (i32 (sd : Int)) (i32 (bn : Int)) (i32 (q : Int))) (fun r => r.1 = i64 (if sd = 0 then upS y LO q bn 256 else - dnS y LO q bn 256)) := by
  have hp := p2_256 hW
  refine (x_aloneL hFu hW hB hsd hbn hq (bn + 1) Fu 0 vot ways (by omega) (by omega)).mono (fun r hr => ?_)
  rw [hr]
  congr 1
  have : sd = 0 ∨ sd = 1 := by omega
  rcases this with rfl | rfl
  · rw [if_pos rfl]
    unfold upS
    rw [show 256 = (bn + 1) + (256 - (bn + 1)) by omega, mxF_up (fun s hs => cb_big (by omega))]
    exact mxM_F (cb_0 hW (by omega)) (fun _ => wnO_rng.1) bn
  · rw [if_neg (by omega)]
    unfold dnS
    rw [show 256 = (bn + 1) + (256 - (bn + 1)) by omega, mnF_up (fun s hs => cb_big (by omega))]
    exact mxM_N (cb_0 hW (by omega)) (fun _ => wnO_rng) bn
/-! the steadiest: bench, in how many ways, swing -/
def stS (y : Nat → Int) (LO : Option LwS) (m : Nat) : Nat → Int × Int × Int
  | 0 => (-1, 0, 0)
  | s + 1 => if bcn s 8 = m then (if (stS y LO m s).1 = -1 ∨ swB y LO (m / 2 + 1) s < (stS y LO m s).2.2 then ((s : Int), 1, swB y LO (m / 2 + 1) s) else if swB y LO (m / 2 + 1) s = (stS y LO m s).2.2 then ((stS y LO m s).1, (stS y LO m s).2.1 + 1, (stS y LO m s).2.2) else stS y LO m s) else stS y LO m s
theorem stS_step (m s : Nat) : stS y LO m (s + 1) = if bcn s 8 = m then (if (stS y LO m s).1 = -1 ∨ swB y LO (m / 2 + 1) s < (stS y LO m s).2.2 then ((s : Int), 1, swB y LO (m / 2 + 1) s) else if swB y LO (m / 2 + 1) s = (stS y LO m s).2.2 then ((stS y LO m s).1, (stS y LO m s).2.1 + 1, (stS y LO m s).2.2) else stS y LO m s) else stS y LO m s := rfl
theorem stS_rng (hW : WF y) (m : Nat) : ∀ s, (-1 ≤ (stS y LO m s).1 ∧ (stS y LO m s).1 < (s : Int)) ∧ (0 ≤ (stS y LO m s).2.1 ∧ (stS y LO m s).2.1 ≤ s) ∧ (-10000000000000000 ≤ (stS y LO m s).2.2 ∧ (stS y LO m s).2.2 ≤ 10000000000000000) := by
  intro s
  induction s with
  | zero => exact ⟨⟨Int.le_refl _, show (-1 : Int) < 0 by omega⟩, ⟨Int.le_refl _, Int.le_refl _⟩, show (-10000000000000000 : Int) ≤ 0 by omega, show (0 : Int) ≤ 10000000000000000 by omega⟩
  | succ s ih =>
    have := sw_rng (LO := LO) hW (q := m / 2 + 1) (bn := s)
    rw [stS_step]
    split
    · split
      · dsimp only; omega
      · split
        · dsimp only; omega
        · omega
    · omega
theorem stS_some {m k : Nat} (hk : bcn k 8 = m) : ∀ d, 0 ≤ (stS y LO m (k + 1 + d)).1 := by
  intro d
  induction d with
  | zero =>
    rw [Nat.add_zero, stS_step, if_pos hk]
    have : ∀ s, -1 ≤ (stS y LO m s).1 := by
      intro s
      induction s with
      | zero => exact Int.le_refl _
      | succ s ih =>
        rw [stS_step]
        split
        · split
          · dsimp only; omega
          · split
            · exact ih
            · exact ih
        · exact ih
    have := this k
    split
    · dsimp only; omega
    · rename_i q
      split
      · dsimp only; omega
      · omega
  | succ d ih =>
    rw [← Nat.add_assoc, stS_step]
    split
    · split
      · dsimp only; omega
      · split
        · exact ih
        · exact ih
    · exact ih
theorem stS_1 {m : Nat} (h : 1 ≤ m) : stS y LO m 1 = (-1, 0, 0) := by
  have e : bcn 0 8 = 0 := by decide
  rw [stS_step, if_neg (by rw [e]; omega)]; rfl
theorem bcn_full : ∀ m : Fin 9, bcn (2 ^ m.val - 1) 8 = m.val := by decide
theorem p2_shift (hW : WF y) : (1 : Int32) <<< (i32 (y 0) &&& 31) = i32 ((2 ^ (y 0).toNat : Nat) : Int) := by
  have h0 := hW.1
  rw [show y 0 = (((y 0).toNat : Nat) : Int) by omega, i32_31 (by omega), show (1 : Int32) = i32 ((1 : Nat) : Int) from rfl, i32_shl (by omega), Nat.one_mul, Int.toNat_natCast]
theorem i32_half {m : Nat} (hm : m ≤ 8) : i32 (m : Int) / 2 + 1 = i32 ((m / 2 + 1 : Nat) : Int) := by
  rw [i32_litN 2, i32_div (by omega) (by omega) (by omega) (by omega), i32_litN 1, i32_add]; congr 1 <;> omega
theorem gz_2 {α : Type} {k : Option α} : gz 2 k = k := gz_ok (a := 2) (by omega) (by omega) (by omega)
theorem x_steadyL (hFu : 6000 ≤ Fu) {vb vs vsd vq : Int32} {a43 a44 a46 a47 a49 : Nat → Int32} (hW : WF y) (hB : BK y LO vb vs vsd vq a43 a44 a46 a47 a49) (hvb : vb = i32 (y 0)) {m : Nat} (hm : m ≤ 8) :
    ∀ (d f s : Nat) (vot : Int32) (ways : Nat → Int64) (sw : Int), s + d = 2 ^ (y 0).toNat → d < f → ((stS y LO m s).1 = -1 ∧ sw = 9223372036854775807 ∨ 0 ≤ (stS y LO m s).1 ∧ sw = (stS y LO m s).2.2) → (0 ≤ (stS y LO m (2 ^ (y 0).toNat)).1) → Rt (fX1_steadiest_L19 Fu f vb (i32 (stS y LO m s).1) (i32 (stS y LO m s).2.1) (i64 sw) a43 a44 a46 a47 vot ways (i32 (m : Int)) (i32 (s : Int))) (fun r => r.1 = i32 (stS y LO m (2 ^ (y 0).toNat)).1 ∧ r.2.1 = i32 (stS y LO m (2 ^ (y 0).toNat)).2.1 ∧ r.2.2.1 = i64 (stS y LO m (2 ^ (y 0).toNat)).2.2) := by
  have hp := p2_256 hW
  have ps := p2_shift hW
  generalize hN : 2 ^ (y 0).toNat = N at *
  intro d
  induction d with
  | zero =>
    intro f s vot ways sw hs hf hsw hpos
    obtain ⟨f, rfl⟩ : ∃ f', f = f' + 1 := ⟨f - 1, by omega⟩
    rw [fX1_steadiest_L19, hvb, ps]
    obtain rfl : s = N := by omega
    refine Rt.ift (by rw [i32_le (by omega) (by omega) (by omega) (by omega)]; omega) (Rt.ret ⟨rfl, rfl, ?_⟩)
    rcases hsw with q | q
    · omega
    · show i64 sw = _; rw [q.2]
  | succ d ih =>
    intro f s vot ways sw hs hf hsw hpos
    obtain ⟨f, rfl⟩ : ∃ f', f = f' + 1 := ⟨f - 1, by omega⟩
    have sr := stS_rng (LO := LO) hW m s
    have wr := sw_rng (LO := LO) hW (q := m / 2 + 1) (bn := s)
    have st := stS_step (y := y) (LO := LO) m s
    rw [fX1_steadiest_L19, hvb, ps]
    refine Rt.iff (by rw [i32_le (by omega) (by omega) (by omega) (by omega)]; omega) ?_
    have eb : fJ6_bitCount_0f7a4 (i32 (s : Int)) = some (i32 ((bcn s 8 : Nat) : Int)) := x_bitCount ⟨s, by omega⟩
    have bl : bcn s 8 ≤ 8 := bcn_le s 8
    rw [eb]
    refine Rt.eqb rfl ?_
    rw [← hvb]
    by_cases cb : bcn s 8 = m
    · rw [if_pos cb] at st
      refine Rt.ift (by rw [cb]) ?_
      rw [gz_2, i32_half hm, show (0 : Int32) = i32 ((0 : Nat) : Int) from rfl, show (1 : Int32) = i32 ((1 : Nat) : Int) from rfl]
      refine Rt.bind (x_alone hFu hW hB (sd := 0) (bn := s) (q := m / 2 + 1) (by omega) (by rw [hN]; omega) (by omega) _ _) (fun r hr => ?_)
      rw [gz_2]
      refine Rt.bind (x_alone hFu hW hB (sd := 1) (bn := s) (q := m / 2 + 1) (by omega) (by rw [hN]; omega) (by omega) _ _) (fun r2 hr2 => ?_)
      rw [if_pos rfl] at hr
      rw [if_neg (by omega)] at hr2
      rw [hr, hr2, i64_add, show upS y LO (m / 2 + 1) s 256 + - dnS y LO (m / 2 + 1) s 256 = swB y LO (m / 2 + 1) s from Int.sub_eq_add_neg.symm]
      unfold fX1_steadiest_L85
      by_cases c1 : (stS y LO m s).1 = -1 ∨ swB y LO (m / 2 + 1) s < (stS y LO m s).2.2
      · rw [if_pos c1] at st
        refine Rt.iff (by rw [i64_le (by omega) (by omega) (by omega) (by omega)]; omega) (Rt.ift rfl ?_)
        rw [show i32 ((0 : Nat) : Int) + 1 = i32 1 from rfl, i32_p1]
        have e1 : (stS y LO m (s + 1)).1 = (s : Int) := by rw [st]
        have e2 : (stS y LO m (s + 1)).2.1 = 1 := by rw [st]
        have e3 : (stS y LO m (s + 1)).2.2 = swB y LO (m / 2 + 1) s := by rw [st]
        have := ih f (s + 1) r2.2.1 r2.2.2 (swB y LO (m / 2 + 1) s) (by omega) (by omega) (Or.inr ⟨by omega, e3.symm⟩) hpos
        rw [e1, e2] at this
        exact this
      · rw [if_neg c1] at st
        have c0 : 0 ≤ (stS y LO m s).1 := by omega
        have es : sw = (stS y LO m s).2.2 := by omega
        refine Rt.ift (by rw [i64_le (by omega) (by omega) (by omega) (by omega)]; omega) ?_
        by_cases c2 : swB y LO (m / 2 + 1) s = (stS y LO m s).2.2
        · rw [if_pos c2] at st
          refine Rt.ift (by rw [es, c2]) ?_
          have e1 : (stS y LO m (s + 1)).1 = (stS y LO m s).1 := by rw [st]
          have e2 : (stS y LO m (s + 1)).2.1 = (stS y LO m s).2.1 + 1 := by rw [st]
          have e3 : (stS y LO m (s + 1)).2.2 = (stS y LO m s).2.2 := by rw [st]
          have := ih f (s + 1) r2.2.1 r2.2.2 sw (by omega) (by omega) (Or.inr ⟨by omega, by omega⟩) hpos
          rw [e1, e2] at this
          rw [show i32 (stS y LO m s).2.1 + 1 = i32 ((stS y LO m s).2.1 + 1) from i32_add _ 1, i32_p1]
          exact this
        · rw [if_neg c2] at st
          refine Rt.iff (by rw [i64_eq (by omega) (by omega) (by omega) (by omega)]; omega) ?_
          have := ih f (s + 1) r2.2.1 r2.2.2 sw (by omega) (by omega) (by rw [st]; exact hsw) hpos
          rw [st] at this
          rw [i32_p1]
          exact this
    · rw [if_neg cb] at st
      refine Rt.iff (by rw [i32_eq (by omega) (by omega) (by omega) (by omega)]; omega) ?_
      have := ih f (s + 1) vot ways sw (by omega) (by omega) (by rw [st]; exact hsw) hpos
      rw [st] at this
      rw [i32_p1]
      exact this
/-! the reference's -/
theorem v_steadyI (hFu : 6000 ≤ Fu) (hM : RM y row) (hW : WF y) {lw : Int32} {set rs : Nat → Int64} {br : Int32} {val sum : Int64} {ch co pc : Nat → Int32} (hc : CH y LO (y 6).toNat ch) (hC : CT y LO co) {m bn : Nat} (hm : m ≤ 8) (hbn : bn < 2 ^ (y 0).toNat) {bt : Int64} {ws be : Int32} {k13 : _} {P : _ → Prop}
    (hk : ∀ f vs, 0 < f → Rt (fX12_findSteady_L46 Fu k13 f row lw set rs br val sum ch vs co pc bt ws (i32 (m : Int)) be (i32 (bn : Int)) (i64 (upS y LO (m / 2 + 1) bn 256)) (i64 (dnS y LO (m / 2 + 1) bn 256)) (i32 ((256 : Nat) : Int))) P) :
    ∀ (d f s : Nat) (vs : Nat → Int64), s + d = 256 → d < f → Rt (fX12_findSteady_L46 Fu k13 f row lw set rs br val sum ch vs co pc bt ws (i32 (m : Int)) be (i32 (bn : Int)) (i64 (upS y LO (m / 2 + 1) bn s)) (i64 (dnS y LO (m / 2 + 1) bn s)) (i32 (s : Int))) P := by
  have hp := p2_256 hW
  intro d
  induction d with
  | zero =>
    intro f s vs hs hf
    obtain rfl : s = 256 := by omega
    exact hk f vs (by omega)
  | succ d ih =>
    intro f s vs hs hf
    obtain ⟨f, rfl⟩ : ∃ f', f = f' + 1 := ⟨f - 1, by omega⟩
    have ur := up_rng (y := y) (LO := LO) (q := m / 2 + 1) (bn := bn) (n := s)
    have dr := dn_rng (y := y) (LO := LO) (q := m / 2 + 1) (bn := bn) (n := s)
    have u1 : upS y LO (m / 2 + 1) bn (s + 1) = if cbT y LO bn 0 s = true ∧ upS y LO (m / 2 + 1) bn s < wnO y LO bn (m / 2 + 1) s 0 then wnO y LO bn (m / 2 + 1) s 0 else upS y LO (m / 2 + 1) bn s := rfl
    have d1 : dnS y LO (m / 2 + 1) bn (s + 1) = if cbT y LO bn 1 s = true ∧ wnO y LO bn (m / 2 + 1) 0 s < dnS y LO (m / 2 + 1) bn s then wnO y LO bn (m / 2 + 1) 0 s else dnS y LO (m / 2 + 1) bn s := rfl
    have w1 := wnO_rng (y := y) (LO := LO) (bn := bn) (q := m / 2 + 1) (z := s) (o := 0)
    have w2 := wnO_rng (y := y) (LO := LO) (bn := bn) (q := m / 2 + 1) (z := 0) (o := s)
    have g97 : ∀ vs, Rt (fX12_findSteady_L97 Fu k13 (fX12_findSteady_L46 Fu k13 f) row lw set rs br val sum ch vs co pc bt ws (i32 (m : Int)) be (i32 (bn : Int)) (i64 (upS y LO (m / 2 + 1) bn (s + 1))) (i64 (dnS y LO (m / 2 + 1) bn s)) (i32 (s : Int))) P := by
      intro vs
      unfold fX12_findSteady_L97 fX12_findSteady_L138
      rw [show (1 : Int32) = i32 ((1 : Nat) : Int) from rfl, v_canB hM hW hC (by omega) (by omega) (by omega) (by omega), Int.toNat_natCast]
      refine Rt.eqb rfl ?_
      by_cases cc : cnB y LO bn 1 s
      · refine Rt.iff (by rw [bI_0]; exact fun q => q ⟨by omega, cc⟩) ?_
        rw [gz_2, show i32 (m : Int) / 2 + i32 ((1 : Nat) : Int) = i32 ((m / 2 + 1 : Nat) : Int) from i32_half hm, show (0 : Int32) = i32 ((0 : Nat) : Int) from rfl]
        refine Rt.bind (v_winsO hFu hM hW hc hbn (by omega) (by omega) (by omega)) (fun r hr => ?_)
        rw [hr]
        by_cases c2 : wnO y LO bn (m / 2 + 1) 0 s < dnS y LO (m / 2 + 1) bn s
        · rw [if_pos ⟨cbT_iff.mpr cc, c2⟩] at d1
          refine Rt.iff (by rw [i64_le (by omega) (by omega) (by omega) (by omega)]; omega) ?_
          rw [show i32 (s : Int) + i32 ((1 : Nat) : Int) = i32 ((s + 1 : Nat) : Int) from i32_p1, ← d1]
          exact ih f (s + 1) _ (by omega) (by omega)
        · rw [if_neg (fun q => c2 q.2)] at d1
          refine Rt.ift (by rw [i64_le (by omega) (by omega) (by omega) (by omega)]; omega) ?_
          rw [show i32 (s : Int) + i32 ((1 : Nat) : Int) = i32 ((s + 1 : Nat) : Int) from i32_p1, ← d1]
          exact ih f (s + 1) _ (by omega) (by omega)
      · refine Rt.ift (by rw [bI_0]; exact fun q => cc q.2) ?_
        rw [if_neg (fun q => cc (cbT_iff.mp q.1))] at d1
        rw [show i32 (s : Int) + i32 ((1 : Nat) : Int) = i32 ((s + 1 : Nat) : Int) from i32_p1, ← d1]
        exact ih f (s + 1) _ (by omega) (by omega)
    rw [fX12_findSteady_L46]
    refine Rt.iff (by rw [i32_litN 256, i32_le (by omega) (by omega) (by omega) (by omega)]; omega) ?_
    rw [show (0 : Int32) = i32 ((0 : Nat) : Int) from rfl, v_canB hM hW hC (by omega) (by omega) (by omega) (by omega), Int.toNat_natCast]
    refine Rt.eqb rfl ?_
    by_cases cc : cnB y LO bn 0 s
    · refine Rt.iff (by rw [show i32 ((0 : Nat) : Int) = 0 from rfl, bI_0]; exact fun q => q ⟨by omega, cc⟩) ?_
      rw [gz_2, i32_half hm]
      refine Rt.bind (v_winsO hFu hM hW hc hbn (by omega) (by omega) (by omega)) (fun r hr => ?_)
      rw [hr]
      unfold fX12_findSteady_L95
      by_cases c2 : upS y LO (m / 2 + 1) bn s < wnO y LO bn (m / 2 + 1) s 0
      · rw [if_pos ⟨cbT_iff.mpr cc, c2⟩] at u1
        refine Rt.iff (by rw [i64_le (by omega) (by omega) (by omega) (by omega)]; omega) ?_
        rw [← u1]; exact g97 _
      · rw [if_neg (fun q => c2 q.2)] at u1
        refine Rt.ift (by rw [i64_le (by omega) (by omega) (by omega) (by omega)]; omega) ?_
        rw [← u1]; exact g97 _
    · refine Rt.ift (by rw [show i32 ((0 : Nat) : Int) = 0 from rfl, bI_0]; exact fun q => cc q.2) ?_
      rw [if_neg (fun q => cc (cbT_iff.mp q.1))] at u1
      rw [← u1]; exact g97 _
theorem v_steadyL (hFu : 6000 ≤ Fu) (hM : RM y row) (hW : WF y) {lw : Int32} {set rs : Nat → Int64} {br : Int32} {val sum : Int64} {ch co pc : Nat → Int32} (hc : CH y LO (y 6).toNat ch) (hC : CT y LO co) {m : Nat} (hm : m ≤ 8) :
    ∀ (d f s : Nat) (vs : Nat → Int64) (bt : Int64), s + d = 2 ^ (y 0).toNat → d < f → (0 ≤ (stS y LO m s).1 → bt = i64 (stS y LO m s).2.2) → Rt (fX12_findSteady_L13 Fu f row lw set rs br val sum ch vs co pc bt (i32 (stS y LO m s).2.1) (i32 (m : Int)) (i32 (stS y LO m s).1) (i32 (s : Int))) (fun r => r.1 = i32 (stS y LO m (2 ^ (y 0).toNat)).1 ∧ (0 ≤ (stS y LO m (2 ^ (y 0).toNat)).1 → r.2.2.2.2.2.2.2.2.2.2.2.1 = i64 (stS y LO m (2 ^ (y 0).toNat)).2.2) ∧ r.2.2.2.2.2.2.2.2.2.2.2.2 = i32 (stS y LO m (2 ^ (y 0).toNat)).2.1) := by
  have hp := p2_256 hW
  have ps := p2_shift hW
  generalize hN : 2 ^ (y 0).toNat = N at *
  intro d
  induction d with
  | zero =>
    intro f s vs bt hs hf hb
    obtain ⟨f, rfl⟩ : ∃ f', f = f' + 1 := ⟨f - 1, by omega⟩
    rw [fX12_findSteady_L13, gd9 (by decide) (by decide), i32_0, hM 0 (by omega), ps]
    obtain rfl : s = N := by omega
    exact Rt.ift (by rw [i32_le (by omega) (by omega) (by omega) (by omega)]; omega) (Rt.ret ⟨rfl, hb, rfl⟩)
  | succ d ih =>
    intro f s vs bt hs hf hb
    obtain ⟨f, rfl⟩ : ∃ f', f = f' + 1 := ⟨f - 1, by omega⟩
    have sr := stS_rng (LO := LO) hW m s
    have wr := sw_rng (LO := LO) hW (q := m / 2 + 1) (bn := s)
    have st := stS_step (y := y) (LO := LO) m s
    have bl : bcn s 8 ≤ 8 := bcn_le s 8
    rw [fX12_findSteady_L13, gd9 (by decide) (by decide), i32_0, hM 0 (by omega), ps]
    refine Rt.iff (by rw [i32_le (by omega) (by omega) (by omega) (by omega)]; omega) ?_
    rw [v_bits hFu (by omega)]
    refine Rt.eqb rfl ?_
    by_cases cb : bcn s 8 = m
    · rw [if_pos cb] at st
      refine Rt.ift (by rw [cb]) ?_
      refine v_steadyI hFu hM hW hc hC hm (by rw [hN]; omega) ?_ 256 Fu 0 vs (by omega) (by omega)
      intro f2 vs2 hf2
      obtain ⟨f2, rfl⟩ : ∃ f', f2 = f' + 1 := ⟨f2 - 1, by omega⟩
      rw [fX12_findSteady_L46]
      refine Rt.ift (by rw [i32_litN 256, i32_le (by omega) (by omega) (by omega) (by omega)]; omega) ?_
      rw [i64_sub, show upS y LO (m / 2 + 1) s 256 - dnS y LO (m / 2 + 1) s 256 = swB y LO (m / 2 + 1) s from rfl]
      have new : (stS y LO m s).1 = -1 ∨ swB y LO (m / 2 + 1) s < (stS y LO m s).2.2 → Rt (fX12_findSteady_L164 Fu (fX12_findSteady_L13 Fu f) row lw set rs br val sum ch vs2 co pc bt (i32 (stS y LO m s).2.1) (i32 (m : Int)) (i32 (s : Int)) (i64 (upS y LO (m / 2 + 1) s 256)) (i64 (dnS y LO (m / 2 + 1) s 256))) (fun r => r.1 = i32 (stS y LO m N).1 ∧ (0 ≤ (stS y LO m N).1 → r.2.2.2.2.2.2.2.2.2.2.2.1 = i64 (stS y LO m N).2.2) ∧ r.2.2.2.2.2.2.2.2.2.2.2.2 = i32 (stS y LO m N).2.1) := by
        intro q
        rw [if_pos q] at st
        unfold fX12_findSteady_L164 fX12_findSteady_L180
        refine Rt.ift rfl ?_
        unfold fX12_findSteady_L203
        rw [i64_sub, show upS y LO (m / 2 + 1) s 256 - dnS y LO (m / 2 + 1) s 256 = swB y LO (m / 2 + 1) s from rfl, show (0 : Int32) + 1 = i32 1 from rfl, i32_p1]
        have e1 : (stS y LO m (s + 1)).1 = (s : Int) := by rw [st]
        have e2 : (stS y LO m (s + 1)).2.1 = 1 := by rw [st]
        have e3 : (stS y LO m (s + 1)).2.2 = swB y LO (m / 2 + 1) s := by rw [st]
        have := ih f (s + 1) vs2 (i64 (swB y LO (m / 2 + 1) s)) (by omega) (by omega) (fun _ => by rw [e3])
        rw [e1, e2] at this
        exact this
      have old : ¬ ((stS y LO m s).1 = -1 ∨ swB y LO (m / 2 + 1) s < (stS y LO m s).2.2) → Rt (fX12_findSteady_L180 Fu (fX12_findSteady_L13 Fu f) row lw set rs br val sum ch vs2 co pc bt (i32 (stS y LO m s).2.1) (i32 (m : Int)) (i32 (stS y LO m s).1) (i32 (s : Int)) (i64 (upS y LO (m / 2 + 1) s 256)) (i64 (dnS y LO (m / 2 + 1) s 256))) (fun r => r.1 = i32 (stS y LO m N).1 ∧ (0 ≤ (stS y LO m N).1 → r.2.2.2.2.2.2.2.2.2.2.2.1 = i64 (stS y LO m N).2.2) ∧ r.2.2.2.2.2.2.2.2.2.2.2.2 = i32 (stS y LO m N).2.1) := by
        intro q
        rw [if_neg q] at st
        have eb := hb (by omega)
        unfold fX12_findSteady_L180 fX12_findSteady_L203
        rw [i64_sub, show upS y LO (m / 2 + 1) s 256 - dnS y LO (m / 2 + 1) s 256 = swB y LO (m / 2 + 1) s from rfl, eb]
        by_cases c2 : swB y LO (m / 2 + 1) s = (stS y LO m s).2.2
        · rw [if_pos c2] at st
          refine Rt.ift (by rw [c2]) ?_
          have e1 : (stS y LO m (s + 1)).1 = (stS y LO m s).1 := by rw [st]
          have e2 : (stS y LO m (s + 1)).2.1 = (stS y LO m s).2.1 + 1 := by rw [st]
          have e3 : (stS y LO m (s + 1)).2.2 = (stS y LO m s).2.2 := by rw [st]
          have := ih f (s + 1) vs2 (i64 (stS y LO m s).2.2) (by omega) (by omega) (fun _ => by rw [e3])
          rw [e1, e2] at this
          rw [show i32 (stS y LO m s).2.1 + 1 = i32 ((stS y LO m s).2.1 + 1) from i32_add _ 1, i32_p1]
          exact this
        · rw [if_neg c2] at st
          refine Rt.iff (by rw [i64_eq (by omega) (by omega) (by omega) (by omega)]; exact c2) ?_
          have := ih f (s + 1) vs2 (i64 (stS y LO m s).2.2) (by omega) (by omega) (fun _ => by rw [st])
          rw [st] at this
          rw [show i32 (stS y LO m s).2.1 + 0 = i32 (stS y LO m s).2.1 by rw [i32_litN 0, i32_add]; congr 1 <;> omega, i32_p1]
          exact this
      by_cases c0 : (stS y LO m s).1 = -1
      · exact Rt.ift (by rw [c0]; rfl) (new (Or.inl c0))
      · refine Rt.iff (by rw [i32_m1, i32_eq (by omega) (by omega) (by omega) (by omega)]; exact c0) ?_
        have eb := hb (by omega)
        by_cases c1 : swB y LO (m / 2 + 1) s < (stS y LO m s).2.2
        · exact Rt.iff (by rw [eb, i64_le (by omega) (by omega) (by omega) (by omega)]; omega) (new (Or.inr c1))
        · exact Rt.ift (by rw [eb, i64_le (by omega) (by omega) (by omega) (by omega)]; omega) (old (by omega))
    · rw [if_neg cb] at st
      refine Rt.iff (by rw [i32_eq (by omega) (by omega) (by omega) (by omega)]; omega) ?_
      have := ih f (s + 1) vs bt (by omega) (by omega) (by rw [st]; exact hb)
      rw [st] at this
      rw [i32_p1]
      exact this
/-! answers -/
def steadyS (y : Nat → Int) (LO : Option LwS) (m w : Int) : Int := if (1 ≤ m ∧ m ≤ y 0) ∧ (0 ≤ w ∧ w ≤ 1) then (if w = 0 then (stS y LO m.toNat (2 ^ (y 0).toNat)).1 else (stS y LO m.toNat (2 ^ (y 0).toNat)).2.1) else -1
def swingS (y : Nat → Int) (LO : Option LwS) (m : Int) : Int := if 1 ≤ m ∧ m ≤ y 0 then (stS y LO m.toNat (2 ^ (y 0).toNat)).2.2 else -1
theorem st_pos (hW : WF y) {m : Nat} (h2 : (m : Int) ≤ y 0) : 0 ≤ (stS y LO m (2 ^ (y 0).toNat)).1 := by
  have h0 := hW.1
  have l : 2 ^ m ≤ 2 ^ (y 0).toNat := Nat.pow_le_pow_right (by omega) (by omega)
  have p : 0 < 2 ^ m := Nat.pow_pos (by omega)
  have := stS_some (y := y) (LO := LO) (bcn_full ⟨m, by omega⟩) (2 ^ (y 0).toNat - 2 ^ m)
  dsimp only at this
  rw [show 2 ^ m - 1 + 1 + (2 ^ (y 0).toNat - 2 ^ m) = 2 ^ (y 0).toNat by omega] at this
  exact this
theorem m_steady (hFu : 6000 ≤ Fu) (hM : RM y row) (hW : WF y) (hO : MO y LO) {th lw : Int32} {set rs : Nat → Int64} {br : Int32} {val sum : Int64} {ch co pc : Nat → Int32} {vs : Nat → Int64} {bt : Int64} {ws : Int32} {m w : Int} (s1 : -2147483648 ≤ m) (s2 : m ≤ 2147483647) (w1 : -2147483648 ≤ w) (w2 : w ≤ 2147483647) :
    Rt (fX12_steady Fu th row lw set rs br val sum ch vs co pc bt ws (i32 m) (i32 w)) (fun r => r.1 = i32 (steadyS y LO m w)) := by
  have eN : ¬ ((1 ≤ m ∧ m ≤ y 0) ∧ (0 ≤ w ∧ w ≤ 1)) → steadyS y LO m w = -1 := fun q => if_neg q
  have eY : ((1 ≤ m ∧ m ≤ y 0) ∧ (0 ≤ w ∧ w ≤ 1)) → steadyS y LO m w = (if w = 0 then (stS y LO m.toNat (2 ^ (y 0).toNat)).1 else (stS y LO m.toNat (2 ^ (y 0).toNat)).2.1) := fun q => if_pos q
  have h0 := hW.1
  unfold fX12_steady
  rw [gd9 (by decide) (by decide), i32_0, hM 0 (by omega), i32_64 s1 s2, i32_64 w1 w2, i32_64 (by omega) (by omega), show (1 : Int64) = i64 1 from rfl, show (0 : Int64) = i64 0 from rfl, v_in (by omega) (by omega) (by omega) (by omega) (by omega) (by omega), v_in (by omega) (by omega) (by omega) (by omega) (by omega) (by omega)]
  refine Rt.eqb rfl ?_
  by_cases cm : 1 ≤ m ∧ m ≤ y 0
  · refine Rt.iff (by rw [bI_0]; exact fun q => q cm) (Rt.eqb rfl ?_)
    by_cases cw : 0 ≤ w ∧ w ≤ 1
    · refine Rt.iff (by rw [bI_0]; exact fun q => q cw) ?_
      rw [eY ⟨cm, cw⟩]
      obtain ⟨m, rfl⟩ := Int.eq_ofNat_of_zero_le (show 0 ≤ m by omega)
      rw [Int.toNat_natCast]
      have hp := p2_256 hW
      unfold fX12_findSteady
      refine Rt.bind (Rt.bind (v_layBribes hFu hM hW hO) (fun r hr => v_steadyL hFu hM hW hr.1 hr.2 (m := m) (by omega) (2 ^ (y 0).toNat) Fu 0 _ _ (by omega) (by omega) (fun q => absurd q (by show ¬ (0 : Int) ≤ -1; omega)))) (fun r2 h2 => ?_)
      by_cases c0 : w = 0
      · subst c0
        rw [if_pos rfl]
        exact Rt.ift rfl (Rt.ret h2.1)
      · rw [if_neg c0]
        exact Rt.iff (by rw [i32_litN 0, i32_eq (by omega) (by omega) (by omega) (by omega)]; exact c0) (Rt.ret h2.2.2)
    · refine Rt.ift (by rw [bI_0]; exact cw) ?_
      rw [eN (fun q => cw q.2)]; exact Rt.ret rfl
  · refine Rt.ift (by rw [bI_0]; exact cm) ?_
    rw [eN (fun q => cm q.1)]; exact Rt.ret rfl
theorem m_swing (hFu : 6000 ≤ Fu) (hM : RM y row) (hW : WF y) (hO : MO y LO) {th lw : Int32} {set rs : Nat → Int64} {br : Int32} {val sum : Int64} {ch co pc : Nat → Int32} {vs : Nat → Int64} {bt : Int64} {ws : Int32} {m : Int} (s1 : -2147483648 ≤ m) (s2 : m ≤ 2147483647) :
    Rt (fX12_swing Fu th row lw set rs br val sum ch vs co pc bt ws (i32 m)) (fun r => r.1 = i64 (swingS y LO m)) := by
  have eN : ¬ (1 ≤ m ∧ m ≤ y 0) → swingS y LO m = -1 := fun q => if_neg q
  have eY : (1 ≤ m ∧ m ≤ y 0) → swingS y LO m = (stS y LO m.toNat (2 ^ (y 0).toNat)).2.2 := fun q => if_pos q
  have h0 := hW.1
  unfold fX12_swing
  rw [gd9 (by decide) (by decide), i32_0, hM 0 (by omega), i32_64 s1 s2, i32_64 (by omega) (by omega), show (1 : Int64) = i64 1 from rfl, v_in (by omega) (by omega) (by omega) (by omega) (by omega) (by omega)]
  refine Rt.eqb rfl ?_
  by_cases cm : 1 ≤ m ∧ m ≤ y 0
  · refine Rt.iff (by rw [bI_0]; exact fun q => q cm) ?_
    rw [eY cm]
    obtain ⟨m, rfl⟩ := Int.eq_ofNat_of_zero_le (show 0 ≤ m by omega)
    rw [Int.toNat_natCast]
    have hp := p2_256 hW
    have po := st_pos (LO := LO) hW cm.2
    have sr := (stS_rng (LO := LO) hW m (2 ^ (y 0).toNat)).1.2
    unfold fX12_findSteady
    refine Rt.bind (Rt.bind (v_layBribes hFu hM hW hO) (fun r hr => v_steadyL hFu hM hW hr.1 hr.2 (m := m) (by omega) (2 ^ (y 0).toNat) Fu 0 _ _ (by omega) (by omega) (fun q => absurd q (by show ¬ (0 : Int) ≤ -1; omega)))) (fun r2 h2 => ?_)
    refine Rt.iff ?_ (Rt.ret (h2.2.1 po))
    have hp2 : ((2 ^ (y 0).toNat : Nat) : Int) ≤ 256 := by omega
    rw [h2.1, i32_m1, i32_eq (by omega) (by omega) (by omega) (by omega)]; omega
  · refine Rt.ift (by rw [bI_0]; exact cm) ?_
    rw [eN cm]; exact Rt.ret rfl
theorem c_steady_N (hFu : 6000 ≤ Fu) {a5 : Nat → Option Nat} (hW : WF y) (hX : RX y beasts meals seats laws inForce tr mh te cases rs ju vo) (hH : HN y LO) {vb vs vsd vq kn sv sb sw : Int32} {ss : Int64} {a43 a44 a45 a46 a47 a49 : Nat → Int32} {a48 : Nat → Int64} (hC : CI y LO vb vs vsd vq kn sv a43 a44 a46 a47 a48 a49) (a38 : Nat → Int32) (vot : Int32) (ways : Nat → Int64) {m w : Int} (s1 : -2147483648 ≤ m) (s2 : m ≤ 2147483647) (w1 : -2147483648 ≤ w) (w2 : w ≤ 2147483647) :
    Rt (fX11_steady_N Fu beasts seats laws inForce tr mh te a5 a38 vb vs vsd vq kn sv sb sw ss a43 a44 a45 a46 a47 a49 vot ways (i32 m) (i32 w)) (fun r => r.1 = i32 (steadyS y LO m w) ∧ CI y LO r.2.2.1 r.2.2.2.1 r.2.2.2.2.1 r.2.2.2.2.2.1 r.2.2.2.2.2.2.1 r.2.2.2.2.2.2.2.1 r.2.2.2.2.2.2.2.2.2.2.2.1 r.2.2.2.2.2.2.2.2.2.2.2.2.1 r.2.2.2.2.2.2.2.2.2.2.2.2.2.2.1 r.2.2.2.2.2.2.2.2.2.2.2.2.2.2.2.1 a48 r.2.2.2.2.2.2.2.2.2.2.2.2.2.2.2.2.1) := by
  have eN : ¬ ((1 ≤ m ∧ m ≤ y 0) ∧ (0 ≤ w ∧ w ≤ 1)) → steadyS y LO m w = -1 := fun q => if_neg q
  have eY : ((1 ≤ m ∧ m ≤ y 0) ∧ (0 ≤ w ∧ w ≤ 1)) → steadyS y LO m w = (if w = 0 then (stS y LO m.toNat (2 ^ (y 0).toNat)).1 else (stS y LO m.toNat (2 ^ (y 0).toNat)).2.1) := fun q => if_pos q
  have h0 := hW.1
  have eB := hX.1
  unfold fX11_steady_N
  rw [x_isEither w w1 w2]
  by_cases cm : 1 ≤ m ∧ m ≤ y 0
  · refine Rt.iff (by rw [i32_litN 1, i32_lt (by omega) (by omega) (by omega) (by omega)]; omega) (Rt.iff (by rw [eB, i32_lt (by omega) (by omega) (by omega) (by omega)]; omega) (Rt.eqb rfl ?_))
    by_cases cw : 0 ≤ w ∧ w ≤ 1
    · refine Rt.iff (by rw [bI_0]; exact fun q => q cw) ?_
      rw [eY ⟨cm, cw⟩]
      obtain ⟨m, rfl⟩ := Int.eq_ofNat_of_zero_le (show 0 ≤ m by omega)
      rw [Int.toNat_natCast]
      have hp := p2_256 hW
      have po := st_pos (LO := LO) hW cm.2
      have p1 : 0 < 2 ^ (y 0).toNat := Nat.pow_pos (by omega)
      refine Rt.bind (x_learnB_N (Q := fun sv => sv = 0 ∨ sv = 1 ∧ SV y LO a48) hFu hW hX hH a38 hC (Or.inl rfl)) (fun r hr => ?_)
      obtain ⟨g1, g2, g3⟩ := hr
      unfold fX1_steadiest
      have s0 := stS_1 (y := y) (LO := LO) (m := m) (by omega)
      have := x_steadyL hFu hW g3 g3.1 (m := m) (by omega) (2 ^ (y 0).toNat - 1) Fu 1 vot ways 9223372036854775807 (by omega) (by omega) (Or.inl ⟨by rw [s0], rfl⟩) po
      rw [s0] at this
      refine Rt.bind this (fun r2 h2 => ?_)
      by_cases c0 : w = 0
      · subst c0
        rw [if_pos rfl]
        exact Rt.ift rfl (Rt.ret ⟨h2.1, Or.inr ⟨g1, g3, g2⟩⟩)
      · rw [if_neg c0]
        exact Rt.iff (by rw [i32_litN 0, i32_eq (by omega) (by omega) (by omega) (by omega)]; exact c0) (Rt.ret ⟨h2.2.1, Or.inr ⟨g1, g3, g2⟩⟩)
    · refine Rt.ift (by rw [bI_0]; exact cw) ?_
      rw [eN (fun q => cw q.2)]; exact Rt.ret ⟨rfl, hC⟩
  · rw [eN (fun q => cm q.1)]
    refine Rt.ite (fun _ => Rt.ret ⟨rfl, hC⟩) (fun c => Rt.ift ?_ (Rt.ret ⟨rfl, hC⟩))
    rw [i32_litN 1, i32_lt (by omega) (by omega) (by omega) (by omega)] at c
    rw [eB, i32_lt (by omega) (by omega) (by omega) (by omega)]; omega
theorem c_swing_N (hFu : 6000 ≤ Fu) {a5 : Nat → Option Nat} (hW : WF y) (hX : RX y beasts meals seats laws inForce tr mh te cases rs ju vo) (hH : HN y LO) {vb vs vsd vq kn sv sb sw : Int32} {ss : Int64} {a43 a44 a45 a46 a47 a49 : Nat → Int32} {a48 : Nat → Int64} (hC : CI y LO vb vs vsd vq kn sv a43 a44 a46 a47 a48 a49) (a38 : Nat → Int32) (vot : Int32) (ways : Nat → Int64) {m : Int} (s1 : -2147483648 ≤ m) (s2 : m ≤ 2147483647) :
    Rt (fX11_swing_N Fu beasts seats laws inForce tr mh te a5 a38 vb vs vsd vq kn sv sb sw ss a43 a44 a45 a46 a47 a49 vot ways (i32 m)) (fun r => r.1 = i64 (swingS y LO m) ∧ CI y LO r.2.2.1 r.2.2.2.1 r.2.2.2.2.1 r.2.2.2.2.2.1 r.2.2.2.2.2.2.1 r.2.2.2.2.2.2.2.1 r.2.2.2.2.2.2.2.2.2.2.2.1 r.2.2.2.2.2.2.2.2.2.2.2.2.1 r.2.2.2.2.2.2.2.2.2.2.2.2.2.2.1 r.2.2.2.2.2.2.2.2.2.2.2.2.2.2.2.1 a48 r.2.2.2.2.2.2.2.2.2.2.2.2.2.2.2.2.1) := by
  have eN : ¬ (1 ≤ m ∧ m ≤ y 0) → swingS y LO m = -1 := fun q => if_neg q
  have eY : (1 ≤ m ∧ m ≤ y 0) → swingS y LO m = (stS y LO m.toNat (2 ^ (y 0).toNat)).2.2 := fun q => if_pos q
  have h0 := hW.1
  have eB := hX.1
  unfold fX11_swing_N
  by_cases cm : 1 ≤ m ∧ m ≤ y 0
  · refine Rt.iff (by rw [i32_litN 1, i32_lt (by omega) (by omega) (by omega) (by omega)]; omega) (Rt.ift (by rw [eB, i32_le (by omega) (by omega) (by omega) (by omega)]; omega) ?_)
    rw [eY cm]
    obtain ⟨m, rfl⟩ := Int.eq_ofNat_of_zero_le (show 0 ≤ m by omega)
    rw [Int.toNat_natCast]
    have hp := p2_256 hW
    have po := st_pos (LO := LO) hW cm.2
    have p1 : 0 < 2 ^ (y 0).toNat := Nat.pow_pos (by omega)
    refine Rt.bind (x_learnB_N (Q := fun sv => sv = 0 ∨ sv = 1 ∧ SV y LO a48) hFu hW hX hH a38 hC (Or.inl rfl)) (fun r hr => ?_)
    obtain ⟨g1, g2, g3⟩ := hr
    unfold fX1_steadiest
    have s0 := stS_1 (y := y) (LO := LO) (m := m) (by omega)
    have := x_steadyL hFu hW g3 g3.1 (m := m) (by omega) (2 ^ (y 0).toNat - 1) Fu 1 vot ways 9223372036854775807 (by omega) (by omega) (Or.inl ⟨by rw [s0], rfl⟩) po
    rw [s0] at this
    exact Rt.bind this (fun r2 h2 => Rt.ret ⟨h2.2.2, Or.inr ⟨g1, g3, g2⟩⟩)
  · rw [eN cm]
    refine Rt.ite (fun _ => Rt.ret ⟨rfl, hC⟩) (fun c => Rt.iff ?_ (Rt.ret ⟨rfl, hC⟩))
    rw [i32_litN 1, i32_lt (by omega) (by omega) (by omega) (by omega)] at c
    rw [eB, i32_le (by omega) (by omega) (by omega) (by omega)]; omega
theorem c_steady_L (hFu : 6000 ≤ Fu) {nh nt ne ns bb q : Nat} {a5 : Nat → Option Nat} {aL1 aL2 aL3 aL4 : Nat → Int32} (hW : WF y) (hX : RX y beasts meals seats laws inForce tr mh te cases rs ju vo) (hH : HL y LO nh nt ne ns bb q a5 aL1 aL2 aL3 aL4) {vb vs vsd vq kn sv sb sw : Int32} {ss : Int64} {a43 a44 a45 a46 a47 a49 : Nat → Int32} {a48 : Nat → Int64} (hC : CI y LO vb vs vsd vq kn sv a43 a44 a46 a47 a48 a49) (ht : Int32) (an : Int64) (a38 : Nat → Int32) (a39 : Nat → Int64) (vot : Int32) (ways : Nat → Int64) {m w : Int} (s1 : -2147483648 ≤ m) (s2 : m ≤ 2147483647) (w1 : -2147483648 ≤ w) (w2 : w ≤ 2147483647) :
    Rt (fX11_steady_L Fu nh nt ne ns bb q beasts seats laws inForce tr mh te a5 ht an a38 a39 vb vs vsd vq kn sv sb sw ss a43 a44 a45 a46 a47 a49 vot ways aL1 aL2 aL3 aL4 (i32 m) (i32 w)) (fun r => r.1 = i32 (steadyS y LO m w) ∧ CI y LO r.2.2.2.2.2.1 r.2.2.2.2.2.2.1 r.2.2.2.2.2.2.2.1 r.2.2.2.2.2.2.2.2.1 r.2.2.2.2.2.2.2.2.2.1 r.2.2.2.2.2.2.2.2.2.2.1 r.2.2.2.2.2.2.2.2.2.2.2.2.2.2.1 r.2.2.2.2.2.2.2.2.2.2.2.2.2.2.2.1 r.2.2.2.2.2.2.2.2.2.2.2.2.2.2.2.2.2.1 r.2.2.2.2.2.2.2.2.2.2.2.2.2.2.2.2.2.2.1 a48 r.2.2.2.2.2.2.2.2.2.2.2.2.2.2.2.2.2.2.2.1) := by
  have eN : ¬ ((1 ≤ m ∧ m ≤ y 0) ∧ (0 ≤ w ∧ w ≤ 1)) → steadyS y LO m w = -1 := fun q => if_neg q
  have eY : ((1 ≤ m ∧ m ≤ y 0) ∧ (0 ≤ w ∧ w ≤ 1)) → steadyS y LO m w = (if w = 0 then (stS y LO m.toNat (2 ^ (y 0).toNat)).1 else (stS y LO m.toNat (2 ^ (y 0).toNat)).2.1) := fun q => if_pos q
  have h0 := hW.1
  have eB := hX.1
  unfold fX11_steady_L
  rw [x_isEither w w1 w2]
  by_cases cm : 1 ≤ m ∧ m ≤ y 0
  · refine Rt.iff (by rw [i32_litN 1, i32_lt (by omega) (by omega) (by omega) (by omega)]; omega) (Rt.iff (by rw [eB, i32_lt (by omega) (by omega) (by omega) (by omega)]; omega) (Rt.eqb rfl ?_))
    by_cases cw : 0 ≤ w ∧ w ≤ 1
    · refine Rt.iff (by rw [bI_0]; exact fun q => q cw) ?_
      rw [eY ⟨cm, cw⟩]
      obtain ⟨m, rfl⟩ := Int.eq_ofNat_of_zero_le (show 0 ≤ m by omega)
      rw [Int.toNat_natCast]
      have hp := p2_256 hW
      have po := st_pos (LO := LO) hW cm.2
      have p1 : 0 < 2 ^ (y 0).toNat := Nat.pow_pos (by omega)
      refine Rt.bind (x_learnB_L (Q := fun sv => sv = 0 ∨ sv = 1 ∧ SV y LO a48) hFu hW hX hH ht an a38 a39 hC (Or.inl rfl)) (fun r hr => ?_)
      obtain ⟨g1, g2, g3⟩ := hr
      unfold fX1_steadiest
      have s0 := stS_1 (y := y) (LO := LO) (m := m) (by omega)
      have := x_steadyL hFu hW g3 g3.1 (m := m) (by omega) (2 ^ (y 0).toNat - 1) Fu 1 vot ways 9223372036854775807 (by omega) (by omega) (Or.inl ⟨by rw [s0], rfl⟩) po
      rw [s0] at this
      refine Rt.bind this (fun r2 h2 => ?_)
      by_cases c0 : w = 0
      · subst c0
        rw [if_pos rfl]
        exact Rt.ift rfl (Rt.ret ⟨h2.1, Or.inr ⟨g1, g3, g2⟩⟩)
      · rw [if_neg c0]
        exact Rt.iff (by rw [i32_litN 0, i32_eq (by omega) (by omega) (by omega) (by omega)]; exact c0) (Rt.ret ⟨h2.2.1, Or.inr ⟨g1, g3, g2⟩⟩)
    · refine Rt.ift (by rw [bI_0]; exact cw) ?_
      rw [eN (fun q => cw q.2)]; exact Rt.ret ⟨rfl, hC⟩
  · rw [eN (fun q => cm q.1)]
    refine Rt.ite (fun _ => Rt.ret ⟨rfl, hC⟩) (fun c => Rt.ift ?_ (Rt.ret ⟨rfl, hC⟩))
    rw [i32_litN 1, i32_lt (by omega) (by omega) (by omega) (by omega)] at c
    rw [eB, i32_lt (by omega) (by omega) (by omega) (by omega)]; omega
theorem c_swing_L (hFu : 6000 ≤ Fu) {nh nt ne ns bb q : Nat} {a5 : Nat → Option Nat} {aL1 aL2 aL3 aL4 : Nat → Int32} (hW : WF y) (hX : RX y beasts meals seats laws inForce tr mh te cases rs ju vo) (hH : HL y LO nh nt ne ns bb q a5 aL1 aL2 aL3 aL4) {vb vs vsd vq kn sv sb sw : Int32} {ss : Int64} {a43 a44 a45 a46 a47 a49 : Nat → Int32} {a48 : Nat → Int64} (hC : CI y LO vb vs vsd vq kn sv a43 a44 a46 a47 a48 a49) (ht : Int32) (an : Int64) (a38 : Nat → Int32) (a39 : Nat → Int64) (vot : Int32) (ways : Nat → Int64) {m : Int} (s1 : -2147483648 ≤ m) (s2 : m ≤ 2147483647) :
    Rt (fX11_swing_L Fu nh nt ne ns bb q beasts seats laws inForce tr mh te a5 ht an a38 a39 vb vs vsd vq kn sv sb sw ss a43 a44 a45 a46 a47 a49 vot ways aL1 aL2 aL3 aL4 (i32 m)) (fun r => r.1 = i64 (swingS y LO m) ∧ CI y LO r.2.2.2.2.2.1 r.2.2.2.2.2.2.1 r.2.2.2.2.2.2.2.1 r.2.2.2.2.2.2.2.2.1 r.2.2.2.2.2.2.2.2.2.1 r.2.2.2.2.2.2.2.2.2.2.1 r.2.2.2.2.2.2.2.2.2.2.2.2.2.2.1 r.2.2.2.2.2.2.2.2.2.2.2.2.2.2.2.1 r.2.2.2.2.2.2.2.2.2.2.2.2.2.2.2.2.2.1 r.2.2.2.2.2.2.2.2.2.2.2.2.2.2.2.2.2.2.1 a48 r.2.2.2.2.2.2.2.2.2.2.2.2.2.2.2.2.2.2.2.1) := by
  have eN : ¬ (1 ≤ m ∧ m ≤ y 0) → swingS y LO m = -1 := fun q => if_neg q
  have eY : (1 ≤ m ∧ m ≤ y 0) → swingS y LO m = (stS y LO m.toNat (2 ^ (y 0).toNat)).2.2 := fun q => if_pos q
  have h0 := hW.1
  have eB := hX.1
  unfold fX11_swing_L
  by_cases cm : 1 ≤ m ∧ m ≤ y 0
  · refine Rt.iff (by rw [i32_litN 1, i32_lt (by omega) (by omega) (by omega) (by omega)]; omega) (Rt.ift (by rw [eB, i32_le (by omega) (by omega) (by omega) (by omega)]; omega) ?_)
    rw [eY cm]
    obtain ⟨m, rfl⟩ := Int.eq_ofNat_of_zero_le (show 0 ≤ m by omega)
    rw [Int.toNat_natCast]
    have hp := p2_256 hW
    have po := st_pos (LO := LO) hW cm.2
    have p1 : 0 < 2 ^ (y 0).toNat := Nat.pow_pos (by omega)
    refine Rt.bind (x_learnB_L (Q := fun sv => sv = 0 ∨ sv = 1 ∧ SV y LO a48) hFu hW hX hH ht an a38 a39 hC (Or.inl rfl)) (fun r hr => ?_)
    obtain ⟨g1, g2, g3⟩ := hr
    unfold fX1_steadiest
    have s0 := stS_1 (y := y) (LO := LO) (m := m) (by omega)
    have := x_steadyL hFu hW g3 g3.1 (m := m) (by omega) (2 ^ (y 0).toNat - 1) Fu 1 vot ways 9223372036854775807 (by omega) (by omega) (Or.inl ⟨by rw [s0], rfl⟩) po
    rw [s0] at this
    exact Rt.bind this (fun r2 h2 => Rt.ret ⟨h2.2.2, Or.inr ⟨g1, g3, g2⟩⟩)
  · rw [eN cm]
    refine Rt.ite (fun _ => Rt.ret ⟨rfl, hC⟩) (fun c => Rt.iff ?_ (Rt.ret ⟨rfl, hC⟩))
    rw [i32_litN 1, i32_lt (by omega) (by omega) (by omega) (by omega)] at c
    rw [eB, i32_le (by omega) (by omega) (by omega) (by omega)]; omega
end STEADY
