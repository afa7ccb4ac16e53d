/-! ===== bribes: what they cost, what they bring ===== -/
def csn (c : Nat → Int) (s : Nat) : Nat → Int
  | 0 => 0
  | b + 1 => csn c s b + (if s.testBit b then c b else 0)
def cst (y : Nat → Int) (LO : Option LwS) (sd s : Nat) : Int := csn (fun b => prc y LO b (sd : Int)) s (y 0).toNat
def wnO (y : Nat → Int) (LO : Option LwS) (bn q z o : Nat) : Int := al (cl bn.testBit (fun b => chn y LO b (((y 6).toNat : Nat) : Int) ((fv y z o b : Nat) : Int) 0) 8) q
def wn (y : Nat → Int) (LO : Option LwS) (z o : Nat) : Int := wnO y LO (y 4).toNat (y 5).toNat z o
abbrev cnB (y : Nat → Int) (LO : Option LwS) (bn sd s : Nat) : Prop := s &&& bn = s ∧ cst y LO sd s ≤ y (8 + sd)
abbrev cnS (y : Nat → Int) (LO : Option LwS) (sd s : Nat) : Prop := cnB y LO (y 4).toNat sd s
theorem csn_rng {c : Nat → Int} (h : ∀ b, 0 ≤ c b ∧ c b ≤ 999) {s : Nat} : ∀ n, 0 ≤ csn c s n ∧ csn c s n ≤ 999 * n := by
  intro n
  induction n with
  | zero => exact ⟨Int.le_refl 0, Int.le_refl 0⟩
  | succ n ih =>
    have := h n
    show 0 ≤ csn c s n + (if s.testBit n then c n else 0) ∧ csn c s n + (if s.testBit n then c n else 0) ≤ 999 * ((n + 1 : Nat) : Int)
    split <;> omega
theorem csn_ext {c : Nat → Int} {s s' : Nat} : ∀ n, (∀ b, b < n → s.testBit b = s'.testBit b) → csn c s n = csn c s' n := by
  intro n
  induction n with
  | zero => intro _; rfl
  | succ n ih =>
    intro h
    show csn c s n + (if s.testBit n then c n else 0) = csn c s' n + (if s'.testBit n then c n else 0)
    rw [ih (fun b hb => h b (by omega)), h n (by omega)]
theorem csn_0 {c : Nat → Int} : ∀ n, csn c 0 n = 0 := by
  intro n
  induction n with
  | zero => rfl
  | succ n ih => show csn c 0 n + (if (0 : Nat).testBit n then c n else 0) = 0; rw [ih, Nat.zero_testBit]; rfl
theorem csn_mono {c : Nat → Int} (h : ∀ b, 0 ≤ c b) {s s' : Nat} (hs : ∀ b, s.testBit b = true → s'.testBit b = true) : ∀ n, csn c s n ≤ csn c s' n := by
  intro n
  induction n with
  | zero => exact Int.le_refl 0
  | succ n ih =>
    have := h n
    show csn c s n + (if s.testBit n then c n else 0) ≤ csn c s' n + (if s'.testBit n then c n else 0)
    by_cases q : s.testBit n = true
    · rw [if_pos q, if_pos (hs n q)]; omega
    · rw [if_neg q]; split <;> omega
/-- the lowest bit -/
def tz (s : Nat) : Nat := if s % 2 = 1 then 0 else if s / 2 % 2 = 1 then 1 else if s / 4 % 2 = 1 then 2 else if s / 8 % 2 = 1 then 3 else if s / 16 % 2 = 1 then 4 else if s / 32 % 2 = 1 then 5 else if s / 64 % 2 = 1 then 6 else 7
theorem tz_fact : ∀ s : Fin 256, s.val ≠ 0 → fJ6_numberOfTrailingZeros_0f7a4 (i32 ((s.val : Nat) : Int)) = some (i32 ((tz s.val : Nat) : Int)) ∧ tz s.val < 8 ∧ s.val.testBit (tz s.val) = true ∧ ∀ j : Fin 8, (s.val &&& (s.val - 1)).testBit j.val = (s.val.testBit j.val && decide (j.val ≠ tz s.val)) := by decide +kernel
theorem csn_low {c : Nat → Int} {s t : Nat} (ht : s.testBit t = true) : ∀ n, n ≤ 8 → (∀ j, j < 8 → (s &&& (s - 1)).testBit j = (s.testBit j && decide (j ≠ t))) → csn c s n = csn c (s &&& (s - 1)) n + (if t < n then c t else 0) := by
  intro n
  induction n with
  | zero => intro _ _; rfl
  | succ n ih =>
    intro hn h
    show csn c s n + (if s.testBit n then c n else 0) = csn c (s &&& (s - 1)) n + (if (s &&& (s - 1)).testBit n then c n else 0) + (if t < n + 1 then c t else 0)
    rw [ih (by omega) h, h n (by omega)]
    by_cases e : n = t
    · subst e
      rw [if_pos ht, if_neg (show ¬ n < n by omega), if_pos (show n < n + 1 by omega)]
      simp
    · have : (s.testBit n && decide (n ≠ t)) = s.testBit n := by simp [e]
      rw [this]
      by_cases q : t < n
      · rw [if_pos q, if_pos (show t < n + 1 by omega)]; omega
      · rw [if_neg q, if_neg (show ¬ t < n + 1 by omega)]; omega
section BRIB
variable {y : Nat → Int} {row : Nat → Int32} {beasts meals seats laws inForce cases : Int32} {tr mh te rs ju vo : Nat → Int32} {Fu : Nat} {LO : Option LwS}
theorem cst_rng (hW : WF y) {sd s : Nat} : 0 ≤ cst y LO sd s ∧ cst y LO sd s ≤ 7992 := by
  have h0 := hW.1
  have := csn_rng (c := fun b => prc y LO b (sd : Int)) (fun b => prc_rng) (s := s) (y 0).toNat
  unfold cst
  omega
theorem wnO_rng {bn q z o : Nat} : 0 ≤ wnO y LO bn q z o ∧ wnO y LO bn q z o ≤ 10000000000000000 := by
  unfold wnO
  have l := cl_len bn.testBit (fun b => chn y LO b (((y 6).toNat : Nat) : Int) ((fv y z o b : Nat) : Int) 0) 8
  have a := al_le (q := q) (cl_ok (t := bn.testBit) (p := fun b => chn y LO b (((y 6).toNat : Nat) : Int) ((fv y z o b : Nat) : Int) 0) (fun b => chn_rng) 8) l
  have p := pow100 l
  omega
theorem WF.purse (hW : WF y) {sd : Nat} (h : sd < 2) : 0 ≤ y (8 + sd) ∧ y (8 + sd) ≤ 999 := by
  have : sd = 0 ∨ sd = 1 := by omega
  rcases this with rfl | rfl
  · exact hW.term (t := 3) (by omega)
  · exact hW.term (t := 4) (by omega)
/-- the class's bribery knows the yard -/
def BK (y : Nat → Int) (LO : Option LwS) (vb vs vsd vq : Int32) (a43 a44 a46 a47 a49 : Nat → Int32) : Prop :=
  vb = i32 (y 0) ∧ vs = i32 (y 4) ∧ vq = i32 (y 5) ∧ vsd = i32 ((bcn (y 4).toNat 8 : Nat) : Int) ∧
  (∀ b f : Nat, (b : Int) < y 0 → f < 4 → a43 (4 * b + f) = i32 (chn y LO b (((y 6).toNat : Nat) : Int) (f : Int) 0)) ∧
  (∀ b : Nat, (b : Int) < y 0 → a44 b = i32 (y (17 + 6 * b))) ∧
  (∀ sd s : Nat, sd < 2 → s < 2 ^ (y 0).toNat → a46 (256 * sd + s) = i32 (cst y LO sd s)) ∧
  (∀ sd : Nat, sd < 2 → a47 sd = i32 (y (8 + sd))) ∧
  (∀ b : Nat, (b : Int) < y 0 → (y 4).toNat.testBit b = true → a49 (bcn (y 4).toNat b) = i32 (b : Int))
theorem p2_256 (hW : WF y) : 2 ^ (y 0).toNat ≤ 256 := by
  have h0 := hW.1
  have : 2 ^ (y 0).toNat ≤ 2 ^ 8 := Nat.pow_le_pow_right (by omega) (by omega)
  omega
theorem x_addL (hW : WF y) {vb : Int32} (hvb : vb = i32 (y 0)) {sd : Nat} (hsd : sd < 2) {a45 : Nat → Int32} (h45 : ∀ b : Nat, (b : Int) < y 0 → a45 (8 * sd + b) = i32 (prc y LO b (sd : Int))) {base : Nat → Int32} :
    ∀ (d f s : Nat) (a46 : Nat → Int32), s + d = 2 ^ (y 0).toNat → 1 ≤ s → d < f → (∀ j, j < s → a46 (256 * sd + j) = i32 (cst y LO sd j)) → (∀ k, (k < 256 * sd ∨ 256 * sd + 256 ≤ k) → a46 k = base k) → Rt (fX1_addPrices_L13 Fu f vb a45 a46 (i32 (sd : Int)) (i32 (s : Int))) (fun r => (∀ j, j < 2 ^ (y 0).toNat → r (256 * sd + j) = i32 (cst y LO sd j)) ∧ (∀ k, (k < 256 * sd ∨ 256 * sd + 256 ≤ k) → r k = base k)) := by
  have h0 := hW.1
  have hp := p2_256 hW
  have eN : (1 : Int32) <<< (vb &&& 31) = i32 ((2 ^ (y 0).toNat : Nat) : Int) := by
    rw [hvb, show y 0 = (((y 0).toNat : Nat) : Int) by omega, i32_31 (by omega), i32_litN 1, i32_shl (by omega), Nat.one_mul, Int.toNat_natCast]
  intro d
  induction d with
  | zero =>
    intro f s a46 hs h1 hf h2 h3
    obtain ⟨f, rfl⟩ : ∃ f', f = f' + 1 := ⟨f - 1, by omega⟩
    rw [fX1_addPrices_L13, eN]
    refine Rt.ift (by rw [i32_le (by omega) (by omega) (by omega) (by omega)]; omega) (Rt.ret ⟨fun j hj => h2 j (by omega), h3⟩)
  | succ d ih =>
    intro f s a46 hs h1 hf h2 h3
    obtain ⟨f, rfl⟩ : ∃ f', f = f' + 1 := ⟨f - 1, by omega⟩
    obtain ⟨t1, t2, t3, t4⟩ := tz_fact ⟨s, by omega⟩ (by show s ≠ 0; omega)
    have t4' : ∀ j, j < 8 → (s &&& (s - 1)).testBit j = (s.testBit j && decide (j ≠ tz s)) := fun j hj => t4 ⟨j, hj⟩
    have t1' : fJ6_numberOfTrailingZeros_0f7a4 (i32 (s : Int)) = some (i32 ((tz s : Nat) : Int)) := t1
    have tn : tz s < (y 0).toNat := by
      apply Nat.lt_of_not_le
      intro q
      have : s.testBit (tz s) = false := Nat.testBit_lt_two_pow (Nat.lt_of_lt_of_le (show s < 2 ^ (y 0).toNat by omega) (Nat.pow_le_pow_right (by omega) q))
      rw [show s.testBit (tz s) = true from t3] at this; cases this
    have ql : s &&& (s - 1) ≤ s - 1 := Nat.and_le_right
    rw [fX1_addPrices_L13, eN]
    refine Rt.iff (by rw [i32_le (by omega) (by omega) (by omega) (by omega)]; omega) ?_
    rw [t1']
    refine Rt.eqb rfl ?_
    rw [show i32 (s : Int) &&& (i32 (s : Int) - 1) = i32 ((s &&& (s - 1) : Nat) : Int) by rw [i32_litN 1, i32_sub, show (s : Int) - ((1 : Nat) : Int) = ((s - 1 : Nat) : Int) by omega, i32_and]]
    rw [show i32 (sd : Int) * 256 + i32 ((s &&& (s - 1) : Nat) : Int) = i32 ((256 * sd + (s &&& (s - 1)) : Nat) : Int) by rw [i32_litN 256, i32_mul, i32_add]; congr 1; omega]
    rw [show i32 (sd : Int) * 8 + i32 ((tz s : Nat) : Int) = i32 ((8 * sd + tz s : Nat) : Int) by rw [i32_litN 8, i32_mul, i32_add]; congr 1; omega]
    rw [show i32 (sd : Int) * 256 + i32 (s : Int) = i32 ((256 * sd + s : Nat) : Int) by rw [i32_litN 256, i32_mul, i32_add]; congr 1; omega]
    have t2' : tz s < 8 := t2
    rw [gd_ok (by omega) (by omega) (by omega), gd_ok (by omega) (by omega) (by omega), gd_ok (by omega) (by omega) (by omega), i32_nat (by omega) (by omega), i32_nat (by omega) (by omega), i32_nat (by omega) (by omega), Int.toNat_natCast, Int.toNat_natCast, Int.toNat_natCast, h2 _ (by omega), h45 (tz s) (by omega), i32_add, i32_p1]
    refine ih f (s + 1) _ (by omega) (by omega) (by omega) (fun j hj => ?_) (fun k hk => ?_)
    · by_cases e : j = s
      · subst e
        rw [va_up_at]
        congr 1
        have := csn_low (c := fun b => prc y LO b (sd : Int)) (show j.testBit (tz j) = true from t3) (y 0).toNat (by omega) t4'
        rw [if_pos tn] at this
        exact this.symm
      · rw [va_up_ne _ _ (by omega)]; exact h2 j (by omega)
    · rw [va_up_ne _ _ (by omega)]; exact h3 k hk
theorem x_addPrices (hFu : 6000 ≤ Fu) (hW : WF y) {vb : Int32} (hvb : vb = i32 (y 0)) {sd : Nat} (hsd : sd < 2) {a45 a46 : Nat → Int32} (h45 : ∀ b : Nat, (b : Int) < y 0 → a45 (8 * sd + b) = i32 (prc y LO b (sd : Int))) :
    Rt (fX1_addPrices Fu vb a45 a46 (i32 (sd : Int))) (fun r => (∀ j, j < 2 ^ (y 0).toNat → r (256 * sd + j) = i32 (cst y LO sd j)) ∧ (∀ k, (k < 256 * sd ∨ 256 * sd + 256 ≤ k) → r k = a46 k)) := by
  have h0 := hW.1
  have hp := p2_256 hW
  have hp1 : 0 < 2 ^ (y 0).toNat := Nat.pow_pos (by omega)
  unfold fX1_addPrices
  rw [show i32 (sd : Int) * 256 = i32 ((256 * sd : Nat) : Int) by rw [i32_litN 256, i32_mul]; congr 1; omega, gd_ok (by omega) (by omega) (by omega), i32_nat (by omega) (by omega), Int.toNat_natCast]
  refine x_addL (base := a46) hW hvb hsd h45 (2 ^ (y 0).toNat - 1) Fu 1 _ (by omega) (by omega) (by omega) (fun j hj => ?_) (fun k hk => ?_)
  · obtain rfl : j = 0 := by omega
    rw [Nat.add_zero, va_up_at]
    unfold cst; rw [csn_0]; rfl
  · rw [va_up_ne _ _ (by omega)]
theorem x_lr170_N (hFu : 6000 ≤ Fu) {a5 : Nat → Option Nat} (hW : WF y) (hX : RX y beasts meals seats laws inForce tr mh te cases rs ju vo) (hH : HN y LO) {vb vs vsd vq kn sv : Int32} (hvb : vb = i32 (y 0)) {a43 a44 a46 a47 a49 : Nat → Int32} {sd : Nat} (hsd : sd < 2) {k148 : _} {P : _ → Prop}
    (hk : ∀ (a38 : Nat → Int32) (b45 b46 : Nat → Int32), (∀ j, j < 2 ^ (y 0).toNat → b46 (256 * sd + j) = i32 (cst y LO sd j)) → (∀ k, (k < 256 * sd ∨ 256 * sd + 256 ≤ k) → b46 k = a46 k) → Rt (k148 beasts seats laws inForce tr mh te a5 a38 vb vs vsd vq kn sv a43 a44 b45 b46 a47 a49 (i32 ((sd + 1 : Nat) : Int))) P) :
    ∀ (d f b : Nat) (a38 : Nat → Int32) (a45 : Nat → Int32), (b : Int) + d = y 0 → d < f → (∀ j : Nat, j < b → a45 (8 * sd + j) = i32 (prc y LO j (sd : Int))) → Rt (fX1_learn_N_L170 Fu k148 f beasts seats laws inForce tr mh te a5 a38 vb vs vsd vq kn sv a43 a44 a45 a46 a47 a49 (i32 (sd : Int)) (i32 (b : Int))) P := by
  have h0 := hW.1
  intro d
  induction d with
  | zero =>
    intro f b a38 a45 hb hf h45
    obtain ⟨f, rfl⟩ : ∃ f', f = f' + 1 := ⟨f - 1, by omega⟩
    rw [fX1_learn_N_L170, i32_p1]
    refine Rt.ift (by rw [hvb, i32_le (by omega) (by omega) (by omega) (by omega)]; omega) ?_
    refine Rt.bind (x_addPrices hFu hW hvb hsd (fun j hj => h45 j (by omega))) (fun r hr => hk a38 a45 r hr.1 hr.2)
  | succ d ih =>
    intro f b a38 a45 hb hf h45
    obtain ⟨f, rfl⟩ : ∃ f', f = f' + 1 := ⟨f - 1, by omega⟩
    rw [fX1_learn_N_L170]
    refine Rt.iff (by rw [hvb, i32_le (by omega) (by omega) (by omega) (by omega)]; omega) ?_
    refine Rt.bind (x_priceOf_N hFu hW hX hH a38 (show b < 8 by omega) (show -1 ≤ (sd : Int) by omega) (by omega)) (fun r hr => ?_)
    rw [show i32 (sd : Int) * 8 + i32 (b : Int) = i32 ((8 * sd + b : Nat) : Int) by rw [i32_litN 8, i32_mul, i32_add]; congr 1; omega]
    rw [gd_ok (by omega) (by omega) (by omega), i32_nat (by omega) (by omega), Int.toNat_natCast, i32_p1]
    refine ih f (b + 1) r.2 _ (by omega) (by omega) (fun j hj => ?_)
    by_cases e : j = b
    · subst e; rw [va_up_at, hr]
    · rw [va_up_ne _ _ (by omega)]; exact h45 j (by omega)
theorem x_lr148_N (hFu : 6000 ≤ Fu) {a5 : Nat → Option Nat} (hW : WF y) (hX : RX y beasts meals seats laws inForce tr mh te cases rs ju vo) (hH : HN y LO) {vb vs vsd vq kn sv : Int32} (hvb : vb = i32 (y 0)) {a43 a44 a49 : Nat → Int32} {P : _ → Prop}
    (hk : ∀ (a38 : Nat → Int32) (b45 b46 b47 : Nat → Int32), (∀ sd s : Nat, sd < 2 → s < 2 ^ (y 0).toNat → b46 (256 * sd + s) = i32 (cst y LO sd s)) → (∀ sd : Nat, sd < 2 → b47 sd = i32 (y (8 + sd))) → P (a38, vb, vs, vsd, vq, kn, sv, a43, a44, b45, b46, b47, a49)) :
    ∀ (d f sd : Nat) (a38 : Nat → Int32) (a45 a46 a47 : Nat → Int32), sd + d = 2 → d < f → (∀ t s : Nat, t < sd → s < 2 ^ (y 0).toNat → a46 (256 * t + s) = i32 (cst y LO t s)) → (∀ t : Nat, t < sd → a47 t = i32 (y (8 + t))) → Rt (fX1_learn_N_L148 Fu f beasts seats laws inForce tr mh te a5 a38 vb vs vsd vq kn sv a43 a44 a45 a46 a47 a49 (i32 (sd : Int))) P := by
  have h0 := hW.1
  have hp := p2_256 hW
  intro d
  induction d with
  | zero =>
    intro f sd a38 a45 a46 a47 hs hf h46 h47
    obtain ⟨f, rfl⟩ : ∃ f', f = f' + 1 := ⟨f - 1, by omega⟩
    obtain rfl : sd = 2 := by omega
    rw [fX1_learn_N_L148]
    exact Rt.ift (by decide) (Rt.ret (hk a38 a45 a46 a47 h46 h47))
  | succ d ih =>
    intro f sd a38 a45 a46 a47 hs hf h46 h47
    obtain ⟨f, rfl⟩ : ∃ f', f = f' + 1 := ⟨f - 1, by omega⟩
    have t3 : te (3 + sd) = i32 (y (8 + sd)) := by
      have := hX.2.2.2.2.2.2.1 (3 + sd) (by omega)
      rw [show 5 + (3 + sd) = 8 + sd by omega] at this; exact this
    rw [fX1_learn_N_L148]
    refine Rt.iff (by rw [i32_litN 2, i32_le (by omega) (by omega) (by omega) (by omega)]; omega) ?_
    rw [show (3 : Int32) + i32 (sd : Int) = i32 ((3 + sd : Nat) : Int) by rw [i32_litN 3, i32_add]; congr 1, gd_ok (by omega) (by omega) (by omega), gd_ok (by omega) (by omega) (by omega), i32_nat (by omega) (by omega), i32_nat (by omega) (by omega), Int.toNat_natCast, Int.toNat_natCast, t3]
    refine x_lr170_N hFu hW hX hH hvb (show sd < 2 by omega) (fun a38 b45 b46 g1 g2 => ?_) (y 0).toNat Fu 0 a38 a45 (by omega) (by omega) (fun j hj => by omega)
    refine ih f (sd + 1) a38 b45 b46 _ (by omega) (by omega) (fun t s ht hs' => ?_) (fun t ht => ?_)
    · by_cases e : t = sd
      · subst e; exact g1 s hs'
      · rw [g2 _ (by omega)]; exact h46 t s (by omega) hs'
    · by_cases e : t = sd
      · subst e; rw [va_up_at]
      · rw [va_up_ne _ _ e]; exact h47 t (by omega)
theorem x_lr102_N (hFu : 6000 ≤ Fu) {a5 : Nat → Option Nat} (hW : WF y) (hX : RX y beasts meals seats laws inForce tr mh te cases rs ju vo) (hH : HN y LO) {vb vs vsd vq kn sv : Int32} {a44 a45 a46 a47 a49 : Nat → Int32} {b : Nat} (hb : b < 8) {k51 : _} {P : _ → Prop}
    (hk : ∀ (a38 : Nat → Int32) (b43 : Nat → Int32), (∀ b' f : Nat, b' < b + 1 → f < 4 → b43 (4 * b' + f) = i32 (chn y LO b' (((y 6).toNat : Nat) : Int) (f : Int) 0)) → Rt (k51 beasts seats laws inForce tr mh te a5 a38 vb vs vsd vq kn sv b43 a44 a45 a46 a47 a49 (i32 ((b + 1 : Nat) : Int))) P) :
    ∀ (d f j : Nat) (a38 : Nat → Int32) (a43 : Nat → Int32), j + d = 4 → d < f → (∀ b' f : Nat, b' < b ∧ f < 4 ∨ b' = b ∧ f < j → a43 (4 * b' + f) = i32 (chn y LO b' (((y 6).toNat : Nat) : Int) (f : Int) 0)) → Rt (fX1_learn_N_L102 Fu k51 f beasts seats laws inForce tr mh te a5 a38 vb vs vsd vq kn sv a43 a44 a45 a46 a47 a49 (i32 (b : Int)) (i32 (j : Int))) P := by
  have h6 := hW.hour
  have t1 : te (1 : Int32).toNatClampNeg = i32 (((y 6).toNat : Nat) : Int) := by rw [show (((y 6).toNat : Nat) : Int) = y 6 by omega]; exact hX.2.2.2.2.2.2.1 1 (by omega)
  intro d
  induction d with
  | zero =>
    intro f j a38 a43 hj hf h43
    obtain ⟨f, rfl⟩ : ∃ f', f = f' + 1 := ⟨f - 1, by omega⟩
    obtain rfl : j = 4 := by omega
    rw [fX1_learn_N_L102, i32_p1]
    exact Rt.ift (by decide) (hk a38 a43 (fun b' f h1 h2 => h43 b' f (by omega)))
  | succ d ih =>
    intro f j a38 a43 hj hf h43
    obtain ⟨f, rfl⟩ : ∃ f', f = f' + 1 := ⟨f - 1, by omega⟩
    rw [fX1_learn_N_L102]
    refine Rt.iff (by rw [i32_litN 3, i32_lt (by omega) (by omega) (by omega) (by omega)]; omega) ?_
    rw [gd9 (by decide) (by decide), t1]
    refine Rt.bind (x_chanceOf_N (min := 0) hFu hW hX hH a38 hb (show (y 6).toNat < 24 by omega) (show -1 ≤ (j : Int) by omega) (by omega) (by omega) (by omega)) (fun r hr => ?_)
    rw [show i32 (b : Int) * 4 + i32 (j : Int) = i32 ((4 * b + j : Nat) : Int) by rw [i32_litN 4, i32_mul, i32_add]; congr 1; omega]
    rw [gd_ok (by omega) (by omega) (by omega), i32_nat (by omega) (by omega), Int.toNat_natCast, i32_p1]
    refine ih f (j + 1) r.2 _ (by omega) (by omega) (fun b' f' h => ?_)
    by_cases e : b' = b ∧ f' = j
    · obtain ⟨rfl, rfl⟩ := e; rw [va_up_at, hr]
    · rw [va_up_ne _ _ (by omega)]; exact h43 b' f' (by omega)
theorem x_lr51_N (hFu : 6000 ≤ Fu) {a5 : Nat → Option Nat} (hW : WF y) (hX : RX y beasts meals seats laws inForce tr mh te cases rs ju vo) (hH : HN y LO) {s n : Nat} (e4 : y 4 = (s : Int)) (e0 : y 0 = (n : Int)) (hn : n ≤ 8) (hs : s < 256) (hbit : ∀ b, n ≤ b → s.testBit b = false) {vq kn sv : Int32} (hvq : vq = i32 (y 5)) :
    ∀ (d f b : Nat) (a38 : Nat → Int32) (a43 a44 a45 a46 a47 a49 : Nat → Int32), b + d = n → d < f → (∀ b' f : Nat, b' < b → f < 4 → a43 (4 * b' + f) = i32 (chn y LO b' (((y 6).toNat : Nat) : Int) (f : Int) 0)) → (∀ b' : Nat, b' < b → a44 b' = i32 (y (17 + 6 * b'))) → (∀ b' : Nat, b' < b → s.testBit b' = true → a49 (bcn s b') = i32 (b' : Int)) → Rt (fX1_learn_N_L51 Fu f beasts seats laws inForce tr mh te a5 a38 (i32 (y 0)) (i32 (y 4)) (i32 ((bcn s b : Nat) : Int)) vq kn sv a43 a44 a45 a46 a47 a49 (i32 (b : Int))) (fun r => (r.2).2.2.2.2.1 = kn ∧ (r.2).2.2.2.2.2.1 = sv ∧ BK y LO (r.2).1 (r.2).2.1 (r.2).2.2.1 (r.2).2.2.2.1 (r.2).2.2.2.2.2.2.1 (r.2).2.2.2.2.2.2.2.1 (r.2).2.2.2.2.2.2.2.2.2.1 (r.2).2.2.2.2.2.2.2.2.2.2.1 (r.2).2.2.2.2.2.2.2.2.2.2.2) := by
  have eb := hX.1
  have es := hX.2.2.1
  rw [e0] at eb
  rw [e4] at es
  have b8 : bcn s 8 = bcn s n := by
    have key : ∀ m, bcn s (n + m) = bcn s n := by
      intro m
      induction m with
      | zero => rfl
      | succ m ih => show bcn s (n + m) + (if s.testBit (n + m) then 1 else 0) = _; rw [ih, hbit (n + m) (by omega)]; rfl
    have := key (8 - n)
    rw [show n + (8 - n) = 8 by omega] at this; exact this
  intro d
  induction d with
  | zero =>
    intro f b a38 a43 a44 a45 a46 a47 a49 hb hf h43 h44 h49
    obtain ⟨f, rfl⟩ : ∃ f', f = f' + 1 := ⟨f - 1, by omega⟩
    obtain rfl : b = n := by omega
    rw [fX1_learn_N_L51]
    refine Rt.ift (by rw [e0]; exact Int32.le_refl _) ?_
    refine x_lr148_N hFu hW hX hH rfl (fun a38 b45 b46 b47 g1 g2 => ?_) 2 Fu 0 a38 a45 a46 a47 (by omega) (by omega) (fun t s ht => by omega) (fun t ht => by omega)
    refine ⟨rfl, rfl, rfl, rfl, hvq, ?_, ?_, ?_, g1, g2, ?_⟩
    · rw [e4, Int.toNat_natCast, b8]
    · intro b' f' hb' hf'; exact h43 b' f' (by omega) hf'
    · intro b' hb'; exact h44 b' (by omega)
    · intro b' hb' ht
      rw [e4, Int.toNat_natCast] at ht ⊢
      exact h49 b' (by omega) ht
  | succ d ih =>
    intro f b a38 a43 a44 a45 a46 a47 a49 hb hf h43 h44 h49
    obtain ⟨f, rfl⟩ : ∃ f', f = f' + 1 := ⟨f - 1, by omega⟩
    have bl := bcn_le s b
    have eS : fX10_isSeated beasts seats (i32 (b : Int)) = some (bI (s.testBit b = true)) := by
      rw [eb, es, x_seated (by omega) (by omega) hs (b : Int) (by omega) (by omega), Int.toNat_natCast]
      unfold bI
      by_cases c : s.testBit b = true
      · rw [if_pos c, if_pos ⟨by omega, c⟩]
      · rw [if_neg c, if_neg (fun q => c q.2)]
    rw [fX1_learn_N_L51]
    refine Rt.iff (by rw [e0, i32_le (by omega) (by omega) (by omega) (by omega)]; omega) ?_
    rw [eS]
    refine Rt.eqb rfl ?_
    unfold fX1_learn_N_L87
    rw [x_fav hX (show b < 8 by omega)]
    have ebc : bcn s (b + 1) = bcn s b + (if s.testBit b then 1 else 0) := rfl
    by_cases c : s.testBit b = true
    · refine Rt.iff (by rw [bI_0]; exact fun q => q c) ?_
      rw [gd_ok (by omega) (by omega) (by omega)]
      refine Rt.eqb rfl ?_
      rw [gd_ok (by omega) (by omega) (by omega), i32_nat (by omega) (by omega), Int.toNat_natCast, i32_nat (by omega) (by omega), Int.toNat_natCast, i32_p1]
      rw [if_pos c] at ebc
      refine x_lr102_N hFu hW hX hH (show b < 8 by omega) (fun a38 b43 g => ?_) 4 Fu 0 a38 a43 (by omega) (by omega) (fun b' f' h => h43 b' f' (by omega) (by omega))
      rw [← ebc]
      refine ih f (b + 1) a38 b43 _ a45 a46 a47 _ (by omega) (by omega) g (fun b' hb' => ?_) (fun b' hb' ht => ?_)
      · by_cases e : b' = b
        · subst e; rw [va_up_at]
        · rw [va_up_ne _ _ e]; exact h44 b' (by omega)
      · by_cases e : b' = b
        · subst e; rw [va_up_at]
        · have lt : bcn s b' < bcn s b := by
            have mono : ∀ m, bcn s (b' + 1) ≤ bcn s (b' + 1 + m) := by
              intro m
              induction m with
              | zero => exact Nat.le_refl _
              | succ m ih => show _ ≤ bcn s (b' + 1 + m) + (if s.testBit (b' + 1 + m) then 1 else 0); omega
            have h1 : bcn s (b' + 1) = bcn s b' + 1 := by show bcn s b' + (if s.testBit b' then 1 else 0) = _; rw [if_pos ht]
            have h2 := mono (b - (b' + 1))
            rw [show b' + 1 + (b - (b' + 1)) = b by omega] at h2
            omega
          rw [va_up_ne _ _ (by omega)]; exact h49 b' (by omega) ht
    · refine Rt.ift (by rw [bI_0]; exact c) ?_
      refine Rt.eqb rfl ?_
      rw [gd_ok (by omega) (by omega) (by omega), i32_nat (by omega) (by omega), Int.toNat_natCast]
      rw [if_neg c] at ebc
      refine x_lr102_N hFu hW hX hH (show b < 8 by omega) (fun a38 b43 g => ?_) 4 Fu 0 a38 a43 (by omega) (by omega) (fun b' f' h => h43 b' f' (by omega) (by omega))
      rw [show bcn s b = bcn s (b + 1) by rw [ebc]; rfl]
      refine ih f (b + 1) a38 b43 _ a45 a46 a47 a49 (by omega) (by omega) g (fun b' hb' => ?_) (fun b' hb' ht => ?_)
      · by_cases e : b' = b
        · subst e; rw [va_up_at]
        · rw [va_up_ne _ _ e]; exact h44 b' (by omega)
      · by_cases e : b' = b
        · subst e; exact absurd ht c
        · exact h49 b' (by omega) ht
theorem x_learnB_N (hFu : 6000 ≤ Fu) {a5 : Nat → Option Nat} (hW : WF y) (hX : RX y beasts meals seats laws inForce tr mh te cases rs ju vo) (hH : HN y LO) {vb vs vsd vq kn sv : Int32} {a43 a44 a45 a46 a47 a49 : Nat → Int32} (a38 : Nat → Int32) {Q : Int32 → Prop} (hC : kn = 0 ∨ kn = 1 ∧ BK y LO vb vs vsd vq a43 a44 a46 a47 a49 ∧ Q sv) (hQ0 : Q 0) :
    Rt (fX1_learn_N Fu beasts seats laws inForce tr mh te a5 a38 vb vs vsd vq kn sv a43 a44 a45 a46 a47 a49 ) (fun r => (r.2).2.2.2.2.1 = 1 ∧ Q (r.2).2.2.2.2.2.1 ∧ BK y LO (r.2).1 (r.2).2.1 (r.2).2.2.1 (r.2).2.2.2.1 (r.2).2.2.2.2.2.2.1 (r.2).2.2.2.2.2.2.2.1 (r.2).2.2.2.2.2.2.2.2.2.1 (r.2).2.2.2.2.2.2.2.2.2.2.1 (r.2).2.2.2.2.2.2.2.2.2.2.2) := by
  obtain ⟨s, n, e4, e0, hn, hs1, hs, hb⟩ := hW.seats
  have t0 : te (0 : Int32).toNatClampNeg = i32 (y 5) := hX.2.2.2.2.2.2.1 0 (by omega)
  unfold fX1_learn_N
  rcases hC with rfl | ⟨rfl, hB, hq⟩
  · refine Rt.ift rfl ?_
    rw [gd9 (by decide) (by decide), t0]
    have := x_lr51_N (a5 := a5) (kn := 1) (sv := 0) hFu hW hX hH e4 e0 hn hs hb rfl n Fu 0 a38 a43 a44 a45 a46 a47 a49 (by omega) (by omega) (fun b' f h => by omega) (fun b' h => by omega) (fun b' h => by omega)
    rw [← hX.1, ← hX.2.2.1] at this
    exact this.mono (fun r hr => ⟨hr.1, by rw [hr.2.1]; exact hQ0, hr.2.2⟩)
  · exact Rt.iff (by decide) (Rt.ret ⟨rfl, hq, hB⟩)
theorem x_lr170_L (hFu : 6000 ≤ Fu) {nh nt ne ns bb q : Nat} {a5 : Nat → Option Nat} {aL1 aL2 aL3 aL4 : Nat → Int32} (hW : WF y) (hX : RX y beasts meals seats laws inForce tr mh te cases rs ju vo) (hH : HL y LO nh nt ne ns bb q a5 aL1 aL2 aL3 aL4) {vb vs vsd vq kn sv : Int32} (hvb : vb = i32 (y 0)) {a43 a44 a46 a47 a49 : Nat → Int32} {sd : Nat} (hsd : sd < 2) {k148 : _} {P : _ → Prop}
    (hk : ∀ (ht : Int32) (an : Int64) (a38 : Nat → Int32) (a39 : Nat → Int64) (b45 b46 : Nat → Int32), (∀ j, j < 2 ^ (y 0).toNat → b46 (256 * sd + j) = i32 (cst y LO sd j)) → (∀ k, (k < 256 * sd ∨ 256 * sd + 256 ≤ k) → b46 k = a46 k) → Rt (k148 beasts seats laws inForce tr mh te a5 ht an a38 a39 vb vs vsd vq kn sv a43 a44 b45 b46 a47 a49 aL1 aL2 aL3 aL4 (i32 ((sd + 1 : Nat) : Int))) P) :
    ∀ (d f b : Nat) (ht : Int32) (an : Int64) (a38 : Nat → Int32) (a39 : Nat → Int64) (a45 : Nat → Int32), (b : Int) + d = y 0 → d < f → (∀ j : Nat, j < b → a45 (8 * sd + j) = i32 (prc y LO j (sd : Int))) → Rt (fX1_learn_L_L170 Fu nh nt ne ns bb q k148 f beasts seats laws inForce tr mh te a5 ht an a38 a39 vb vs vsd vq kn sv a43 a44 a45 a46 a47 a49 aL1 aL2 aL3 aL4 (i32 (sd : Int)) (i32 (b : Int))) P := by
  have h0 := hW.1
  intro d
  induction d with
  | zero =>
    intro f b ht an a38 a39 a45 hb hf h45
    obtain ⟨f, rfl⟩ : ∃ f', f = f' + 1 := ⟨f - 1, by omega⟩
    rw [fX1_learn_L_L170, i32_p1]
    refine Rt.ift (by rw [hvb, i32_le (by omega) (by omega) (by omega) (by omega)]; omega) ?_
    refine Rt.bind (x_addPrices hFu hW hvb hsd (fun j hj => h45 j (by omega))) (fun r hr => hk ht an a38 a39 a45 r hr.1 hr.2)
  | succ d ih =>
    intro f b ht an a38 a39 a45 hb hf h45
    obtain ⟨f, rfl⟩ : ∃ f', f = f' + 1 := ⟨f - 1, by omega⟩
    rw [fX1_learn_L_L170]
    refine Rt.iff (by rw [hvb, i32_le (by omega) (by omega) (by omega) (by omega)]; omega) ?_
    refine Rt.bind (x_priceOf_L hFu hW hX hH ht an a38 a39 (show b < 8 by omega) (show -1 ≤ (sd : Int) by omega) (by omega)) (fun r hr => ?_)
    rw [show i32 (sd : Int) * 8 + i32 (b : Int) = i32 ((8 * sd + b : Nat) : Int) by rw [i32_litN 8, i32_mul, i32_add]; congr 1; omega]
    rw [gd_ok (by omega) (by omega) (by omega), i32_nat (by omega) (by omega), Int.toNat_natCast, i32_p1]
    refine ih f (b + 1) r.2.1 r.2.2.1 r.2.2.2.1 r.2.2.2.2 _ (by omega) (by omega) (fun j hj => ?_)
    by_cases e : j = b
    · subst e; rw [va_up_at, hr]
    · rw [va_up_ne _ _ (by omega)]; exact h45 j (by omega)
theorem x_lr148_L (hFu : 6000 ≤ Fu) {nh nt ne ns bb q : Nat} {a5 : Nat → Option Nat} {aL1 aL2 aL3 aL4 : Nat → Int32} (hW : WF y) (hX : RX y beasts meals seats laws inForce tr mh te cases rs ju vo) (hH : HL y LO nh nt ne ns bb q a5 aL1 aL2 aL3 aL4) {vb vs vsd vq kn sv : Int32} (hvb : vb = i32 (y 0)) {a43 a44 a49 : Nat → Int32} {P : _ → Prop}
    (hk : ∀ (ht : Int32) (an : Int64) (a38 : Nat → Int32) (a39 : Nat → Int64) (b45 b46 b47 : Nat → Int32), (∀ sd s : Nat, sd < 2 → s < 2 ^ (y 0).toNat → b46 (256 * sd + s) = i32 (cst y LO sd s)) → (∀ sd : Nat, sd < 2 → b47 sd = i32 (y (8 + sd))) → P (ht, an, a38, a39, vb, vs, vsd, vq, kn, sv, a43, a44, b45, b46, b47, a49)) :
    ∀ (d f sd : Nat) (ht : Int32) (an : Int64) (a38 : Nat → Int32) (a39 : Nat → Int64) (a45 a46 a47 : Nat → Int32), sd + d = 2 → d < f → (∀ t s : Nat, t < sd → s < 2 ^ (y 0).toNat → a46 (256 * t + s) = i32 (cst y LO t s)) → (∀ t : Nat, t < sd → a47 t = i32 (y (8 + t))) → Rt (fX1_learn_L_L148 Fu nh nt ne ns bb q f beasts seats laws inForce tr mh te a5 ht an a38 a39 vb vs vsd vq kn sv a43 a44 a45 a46 a47 a49 aL1 aL2 aL3 aL4 (i32 (sd : Int))) P := by
  have h0 := hW.1
  have hp := p2_256 hW
  intro d
  induction d with
  | zero =>
    intro f sd ht an a38 a39 a45 a46 a47 hs hf h46 h47
    obtain ⟨f, rfl⟩ : ∃ f', f = f' + 1 := ⟨f - 1, by omega⟩
    obtain rfl : sd = 2 := by omega
    rw [fX1_learn_L_L148]
    exact Rt.ift (by decide) (Rt.ret (hk ht an a38 a39 a45 a46 a47 h46 h47))
  | succ d ih =>
    intro f sd ht an a38 a39 a45 a46 a47 hs hf h46 h47
    obtain ⟨f, rfl⟩ : ∃ f', f = f' + 1 := ⟨f - 1, by omega⟩
    have t3 : te (3 + sd) = i32 (y (8 + sd)) := by
      have := hX.2.2.2.2.2.2.1 (3 + sd) (by omega)
      rw [show 5 + (3 + sd) = 8 + sd by omega] at this; exact this
    rw [fX1_learn_L_L148]
    refine Rt.iff (by rw [i32_litN 2, i32_le (by omega) (by omega) (by omega) (by omega)]; omega) ?_
    rw [show (3 : Int32) + i32 (sd : Int) = i32 ((3 + sd : Nat) : Int) by rw [i32_litN 3, i32_add]; congr 1, gd_ok (by omega) (by omega) (by omega), gd_ok (by omega) (by omega) (by omega), i32_nat (by omega) (by omega), i32_nat (by omega) (by omega), Int.toNat_natCast, Int.toNat_natCast, t3]
    refine x_lr170_L hFu hW hX hH hvb (show sd < 2 by omega) (fun ht an a38 a39 b45 b46 g1 g2 => ?_) (y 0).toNat Fu 0 ht an a38 a39 a45 (by omega) (by omega) (fun j hj => by omega)
    refine ih f (sd + 1) ht an a38 a39 b45 b46 _ (by omega) (by omega) (fun t s ht hs' => ?_) (fun t ht => ?_)
    · by_cases e : t = sd
      · subst e; exact g1 s hs'
      · rw [g2 _ (by omega)]; exact h46 t s (by omega) hs'
    · by_cases e : t = sd
      · subst e; rw [va_up_at]
      · rw [va_up_ne _ _ e]; exact h47 t (by omega)
theorem x_lr102_L (hFu : 6000 ≤ Fu) {nh nt ne ns bb q : Nat} {a5 : Nat → Option Nat} {aL1 aL2 aL3 aL4 : Nat → Int32} (hW : WF y) (hX : RX y beasts meals seats laws inForce tr mh te cases rs ju vo) (hH : HL y LO nh nt ne ns bb q a5 aL1 aL2 aL3 aL4) {vb vs vsd vq kn sv : Int32} {a44 a45 a46 a47 a49 : Nat → Int32} {b : Nat} (hb : b < 8) {k51 : _} {P : _ → Prop}
    (hk : ∀ (ht : Int32) (an : Int64) (a38 : Nat → Int32) (a39 : Nat → Int64) (b43 : Nat → Int32), (∀ b' f : Nat, b' < b + 1 → f < 4 → b43 (4 * b' + f) = i32 (chn y LO b' (((y 6).toNat : Nat) : Int) (f : Int) 0)) → Rt (k51 beasts seats laws inForce tr mh te a5 ht an a38 a39 vb vs vsd vq kn sv b43 a44 a45 a46 a47 a49 aL1 aL2 aL3 aL4 (i32 ((b + 1 : Nat) : Int))) P) :
    ∀ (d f j : Nat) (ht : Int32) (an : Int64) (a38 : Nat → Int32) (a39 : Nat → Int64) (a43 : Nat → Int32), j + d = 4 → d < f → (∀ b' f : Nat, b' < b ∧ f < 4 ∨ b' = b ∧ f < j → a43 (4 * b' + f) = i32 (chn y LO b' (((y 6).toNat : Nat) : Int) (f : Int) 0)) → Rt (fX1_learn_L_L102 Fu nh nt ne ns bb q k51 f beasts seats laws inForce tr mh te a5 ht an a38 a39 vb vs vsd vq kn sv a43 a44 a45 a46 a47 a49 aL1 aL2 aL3 aL4 (i32 (b : Int)) (i32 (j : Int))) P := by
  have h6 := hW.hour
  have t1 : te (1 : Int32).toNatClampNeg = i32 (((y 6).toNat : Nat) : Int) := by rw [show (((y 6).toNat : Nat) : Int) = y 6 by omega]; exact hX.2.2.2.2.2.2.1 1 (by omega)
  intro d
  induction d with
  | zero =>
    intro f j ht an a38 a39 a43 hj hf h43
    obtain ⟨f, rfl⟩ : ∃ f', f = f' + 1 := ⟨f - 1, by omega⟩
    obtain rfl : j = 4 := by omega
    rw [fX1_learn_L_L102, i32_p1]
    exact Rt.ift (by decide) (hk ht an a38 a39 a43 (fun b' f h1 h2 => h43 b' f (by omega)))
  | succ d ih =>
    intro f j ht an a38 a39 a43 hj hf h43
    obtain ⟨f, rfl⟩ : ∃ f', f = f' + 1 := ⟨f - 1, by omega⟩
    rw [fX1_learn_L_L102]
    refine Rt.iff (by rw [i32_litN 3, i32_lt (by omega) (by omega) (by omega) (by omega)]; omega) ?_
    rw [gd9 (by decide) (by decide), t1]
    refine Rt.bind (x_chanceOf_L (min := 0) hFu hW hX hH ht an a38 a39 hb (show (y 6).toNat < 24 by omega) (show -1 ≤ (j : Int) by omega) (by omega) (by omega) (by omega)) (fun r hr => ?_)
    rw [show i32 (b : Int) * 4 + i32 (j : Int) = i32 ((4 * b + j : Nat) : Int) by rw [i32_litN 4, i32_mul, i32_add]; congr 1; omega]
    rw [gd_ok (by omega) (by omega) (by omega), i32_nat (by omega) (by omega), Int.toNat_natCast, i32_p1]
    refine ih f (j + 1) r.2.1 r.2.2.1 r.2.2.2.1 r.2.2.2.2 _ (by omega) (by omega) (fun b' f' h => ?_)
    by_cases e : b' = b ∧ f' = j
    · obtain ⟨rfl, rfl⟩ := e; rw [va_up_at, hr]
    · rw [va_up_ne _ _ (by omega)]; exact h43 b' f' (by omega)
theorem x_lr51_L (hFu : 6000 ≤ Fu) {nh nt ne ns bb q : Nat} {a5 : Nat → Option Nat} {aL1 aL2 aL3 aL4 : Nat → Int32} (hW : WF y) (hX : RX y beasts meals seats laws inForce tr mh te cases rs ju vo) (hH : HL y LO nh nt ne ns bb q a5 aL1 aL2 aL3 aL4) {s n : Nat} (e4 : y 4 = (s : Int)) (e0 : y 0 = (n : Int)) (hn : n ≤ 8) (hs : s < 256) (hbit : ∀ b, n ≤ b → s.testBit b = false) {vq kn sv : Int32} (hvq : vq = i32 (y 5)) :
    ∀ (d f b : Nat) (ht : Int32) (an : Int64) (a38 : Nat → Int32) (a39 : Nat → Int64) (a43 a44 a45 a46 a47 a49 : Nat → Int32), b + d = n → d < f → (∀ b' f : Nat, b' < b → f < 4 → a43 (4 * b' + f) = i32 (chn y LO b' (((y 6).toNat : Nat) : Int) (f : Int) 0)) → (∀ b' : Nat, b' < b → a44 b' = i32 (y (17 + 6 * b'))) → (∀ b' : Nat, b' < b → s.testBit b' = true → a49 (bcn s b') = i32 (b' : Int)) → Rt (fX1_learn_L_L51 Fu nh nt ne ns bb q f beasts seats laws inForce tr mh te a5 ht an a38 a39 (i32 (y 0)) (i32 (y 4)) (i32 ((bcn s b : Nat) : Int)) vq kn sv a43 a44 a45 a46 a47 a49 aL1 aL2 aL3 aL4 (i32 (b : Int))) (fun r => (r.2.2.2.2).2.2.2.2.1 = kn ∧ (r.2.2.2.2).2.2.2.2.2.1 = sv ∧ BK y LO (r.2.2.2.2).1 (r.2.2.2.2).2.1 (r.2.2.2.2).2.2.1 (r.2.2.2.2).2.2.2.1 (r.2.2.2.2).2.2.2.2.2.2.1 (r.2.2.2.2).2.2.2.2.2.2.2.1 (r.2.2.2.2).2.2.2.2.2.2.2.2.2.1 (r.2.2.2.2).2.2.2.2.2.2.2.2.2.2.1 (r.2.2.2.2).2.2.2.2.2.2.2.2.2.2.2) := by
  have eb := hX.1
  have es := hX.2.2.1
  rw [e0] at eb
  rw [e4] at es
  have b8 : bcn s 8 = bcn s n := by
    have key : ∀ m, bcn s (n + m) = bcn s n := by
      intro m
      induction m with
      | zero => rfl
      | succ m ih => show bcn s (n + m) + (if s.testBit (n + m) then 1 else 0) = _; rw [ih, hbit (n + m) (by omega)]; rfl
    have := key (8 - n)
    rw [show n + (8 - n) = 8 by omega] at this; exact this
  intro d
  induction d with
  | zero =>
    intro f b ht an a38 a39 a43 a44 a45 a46 a47 a49 hb hf h43 h44 h49
    obtain ⟨f, rfl⟩ : ∃ f', f = f' + 1 := ⟨f - 1, by omega⟩
    obtain rfl : b = n := by omega
    rw [fX1_learn_L_L51]
    refine Rt.ift (by rw [e0]; exact Int32.le_refl _) ?_
    refine x_lr148_L hFu hW hX hH rfl (fun ht an a38 a39 b45 b46 b47 g1 g2 => ?_) 2 Fu 0 ht an a38 a39 a45 a46 a47 (by omega) (by omega) (fun t s ht => by omega) (fun t ht => by omega)
    refine ⟨rfl, rfl, rfl, rfl, hvq, ?_, ?_, ?_, g1, g2, ?_⟩
    · rw [e4, Int.toNat_natCast, b8]
    · intro b' f' hb' hf'; exact h43 b' f' (by omega) hf'
    · intro b' hb'; exact h44 b' (by omega)
    · intro b' hb' ht
      rw [e4, Int.toNat_natCast] at ht ⊢
      exact h49 b' (by omega) ht
  | succ d ih =>
    intro f b ht an a38 a39 a43 a44 a45 a46 a47 a49 hb hf h43 h44 h49
    obtain ⟨f, rfl⟩ : ∃ f', f = f' + 1 := ⟨f - 1, by omega⟩
    have bl := bcn_le s b
    have eS : fX10_isSeated beasts seats (i32 (b : Int)) = some (bI (s.testBit b = true)) := by
      rw [eb, es, x_seated (by omega) (by omega) hs (b : Int) (by omega) (by omega), Int.toNat_natCast]
      unfold bI
      by_cases c : s.testBit b = true
      · rw [if_pos c, if_pos ⟨by omega, c⟩]
      · rw [if_neg c, if_neg (fun q => c q.2)]
    rw [fX1_learn_L_L51]
    refine Rt.iff (by rw [e0, i32_le (by omega) (by omega) (by omega) (by omega)]; omega) ?_
    rw [eS]
    refine Rt.eqb rfl ?_
    unfold fX1_learn_L_L87
    rw [x_fav hX (show b < 8 by omega)]
    have ebc : bcn s (b + 1) = bcn s b + (if s.testBit b then 1 else 0) := rfl
    by_cases c : s.testBit b = true
    · refine Rt.iff (by rw [bI_0]; exact fun q => q c) ?_
      rw [gd_ok (by omega) (by omega) (by omega)]
      refine Rt.eqb rfl ?_
      rw [gd_ok (by omega) (by omega) (by omega), i32_nat (by omega) (by omega), Int.toNat_natCast, i32_nat (by omega) (by omega), Int.toNat_natCast, i32_p1]
      rw [if_pos c] at ebc
      refine x_lr102_L hFu hW hX hH (show b < 8 by omega) (fun ht an a38 a39 b43 g => ?_) 4 Fu 0 ht an a38 a39 a43 (by omega) (by omega) (fun b' f' h => h43 b' f' (by omega) (by omega))
      rw [← ebc]
      refine ih f (b + 1) ht an a38 a39 b43 _ a45 a46 a47 _ (by omega) (by omega) g (fun b' hb' => ?_) (fun b' hb' ht => ?_)
      · by_cases e : b' = b
        · subst e; rw [va_up_at]
        · rw [va_up_ne _ _ e]; exact h44 b' (by omega)
      · by_cases e : b' = b
        · subst e; rw [va_up_at]
        · have lt : bcn s b' < bcn s b := by
            have mono : ∀ m, bcn s (b' + 1) ≤ bcn s (b' + 1 + m) := by
              intro m
              induction m with
              | zero => exact Nat.le_refl _
              | succ m ih => show _ ≤ bcn s (b' + 1 + m) + (if s.testBit (b' + 1 + m) then 1 else 0); omega
            have h1 : bcn s (b' + 1) = bcn s b' + 1 := by show bcn s b' + (if s.testBit b' then 1 else 0) = _; rw [if_pos ht]
            have h2 := mono (b - (b' + 1))
            rw [show b' + 1 + (b - (b' + 1)) = b by omega] at h2
            omega
          rw [va_up_ne _ _ (by omega)]; exact h49 b' (by omega) ht
    · refine Rt.ift (by rw [bI_0]; exact c) ?_
      refine Rt.eqb rfl ?_
      rw [gd_ok (by omega) (by omega) (by omega), i32_nat (by omega) (by omega), Int.toNat_natCast]
      rw [if_neg c] at ebc
      refine x_lr102_L hFu hW hX hH (show b < 8 by omega) (fun ht an a38 a39 b43 g => ?_) 4 Fu 0 ht an a38 a39 a43 (by omega) (by omega) (fun b' f' h => h43 b' f' (by omega) (by omega))
      rw [show bcn s b = bcn s (b + 1) by rw [ebc]; rfl]
      refine ih f (b + 1) ht an a38 a39 b43 _ a45 a46 a47 a49 (by omega) (by omega) g (fun b' hb' => ?_) (fun b' hb' ht => ?_)
      · by_cases e : b' = b
        · subst e; rw [va_up_at]
        · rw [va_up_ne _ _ e]; exact h44 b' (by omega)
      · by_cases e : b' = b
        · subst e; exact absurd ht c
        · exact h49 b' (by omega) ht
theorem x_learnB_L (hFu : 6000 ≤ Fu) {nh nt ne ns bb q : Nat} {a5 : Nat → Option Nat} {aL1 aL2 aL3 aL4 : Nat → Int32} (hW : WF y) (hX : RX y beasts meals seats laws inForce tr mh te cases rs ju vo) (hH : HL y LO nh nt ne ns bb q a5 aL1 aL2 aL3 aL4) {vb vs vsd vq kn sv : Int32} {a43 a44 a45 a46 a47 a49 : Nat → Int32} (ht : Int32) (an : Int64) (a38 : Nat → Int32) (a39 : Nat → Int64) {Q : Int32 → Prop} (hC : kn = 0 ∨ kn = 1 ∧ BK y LO vb vs vsd vq a43 a44 a46 a47 a49 ∧ Q sv) (hQ0 : Q 0) :
    Rt (fX1_learn_L Fu nh nt ne ns bb q beasts seats laws inForce tr mh te a5 ht an a38 a39 vb vs vsd vq kn sv a43 a44 a45 a46 a47 a49 aL1 aL2 aL3 aL4) (fun r => (r.2.2.2.2).2.2.2.2.1 = 1 ∧ Q (r.2.2.2.2).2.2.2.2.2.1 ∧ BK y LO (r.2.2.2.2).1 (r.2.2.2.2).2.1 (r.2.2.2.2).2.2.1 (r.2.2.2.2).2.2.2.1 (r.2.2.2.2).2.2.2.2.2.2.1 (r.2.2.2.2).2.2.2.2.2.2.2.1 (r.2.2.2.2).2.2.2.2.2.2.2.2.2.1 (r.2.2.2.2).2.2.2.2.2.2.2.2.2.2.1 (r.2.2.2.2).2.2.2.2.2.2.2.2.2.2.2) := by
  obtain ⟨s, n, e4, e0, hn, hs1, hs, hb⟩ := hW.seats
  have t0 : te (0 : Int32).toNatClampNeg = i32 (y 5) := hX.2.2.2.2.2.2.1 0 (by omega)
  unfold fX1_learn_L
  rcases hC with rfl | ⟨rfl, hB, hq⟩
  · refine Rt.ift rfl ?_
    rw [gd9 (by decide) (by decide), t0]
    have := x_lr51_L (a5 := a5) (kn := 1) (sv := 0) hFu hW hX hH e4 e0 hn hs hb rfl n Fu 0 ht an a38 a39 a43 a44 a45 a46 a47 a49 (by omega) (by omega) (fun b' f h => by omega) (fun b' h => by omega) (fun b' h => by omega)
    rw [← hX.1, ← hX.2.2.1] at this
    exact this.mono (fun r hr => ⟨hr.1, by rw [hr.2.1]; exact hQ0, hr.2.2⟩)
  · exact Rt.iff (by decide) (Rt.ret ⟨rfl, hq, hB⟩)
end BRIB
