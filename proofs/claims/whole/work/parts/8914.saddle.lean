section SADDLE
variable {y : Nat → Int} {row : Nat → Int32} {beasts meals seats laws inForce cases : Int32} {tr mh te rs ju vo : Nat → Int32} {Fu : Nat} {LO : Option LwS}
/-! saddles -/
def cntP (p : Nat → Bool) : Nat → Int
  | 0 => 0
  | n + 1 => cntP p n + (if p n = true then 1 else 0)
def fstP (p : Nat → Bool) : Nat → Int
  | 0 => -1
  | n + 1 => if fstP p n = -1 ∧ p n = true then (n : Int) else fstP p n
theorem cntP_rng {p : Nat → Bool} : ∀ n, 0 ≤ cntP p n ∧ cntP p n ≤ n := by
  intro n
  induction n with
  | zero => exact ⟨Int.le_refl _, Int.le_refl _⟩
  | succ n ih => unfold cntP; split <;> omega
theorem fstP_rng {p : Nat → Bool} : ∀ n, -1 ≤ fstP p n ∧ fstP p n < n := by
  intro n
  induction n with
  | zero => exact ⟨Int.le_refl _, by show (-1 : Int) < 0; omega⟩
  | succ n ih => unfold fstP; split <;> omega
theorem cnt_fst {p : Nat → Bool} : ∀ n, cntP p n = 0 ↔ fstP p n = -1 := by
  intro n
  induction n with
  | zero => exact ⟨fun _ => rfl, fun _ => rfl⟩
  | succ n ih =>
    have r := cntP_rng (p := p) n
    unfold cntP fstP
    by_cases c : p n = true
    · rw [if_pos c]
      by_cases f : fstP p n = -1
      · rw [if_pos ⟨f, c⟩]; omega
      · rw [if_neg (fun q => f q.1)]; omega
    · rw [if_neg c, if_neg (fun q => c q.2)]; omega
theorem cntP_up {p : Nat → Bool} {N : Nat} (h : ∀ s, N ≤ s → p s = false) : ∀ m, cntP p (N + m) = cntP p N := by
  intro m
  induction m with
  | zero => rfl
  | succ m ih =>
    show cntP p (N + m) + (if p (N + m) = true then 1 else 0) = _
    rw [h _ (by omega), ih]; rw [if_neg (by decide)]; omega
theorem fstP_up {p : Nat → Bool} {N : Nat} (h : ∀ s, N ≤ s → p s = false) : ∀ m, fstP p (N + m) = fstP p N := by
  intro m
  induction m with
  | zero => rfl
  | succ m ih =>
    show (if fstP p (N + m) = -1 ∧ p (N + m) = true then ((N + m : Nat) : Int) else fstP p (N + m)) = _
    rw [h _ (by omega), ih, if_neg (fun q => by cases q.2)]
theorem cntP_ext {p q : Nat → Bool} (h : ∀ s, p s = q s) : p = q := funext h
theorem bst_max {t : Nat → Bool} {wv co : Nat → Int} : ∀ n s, s < n → t s = true → 0 ≤ bst t wv co n ∧ wv s ≤ wv (bst t wv co n).toNat := by
  intro n
  induction n with
  | zero => intro s h; omega
  | succ n ih =>
    intro s hs ht
    have e : bst t wv co (n + 1) = if t n = true ∧ (bst t wv co n = -1 ∨ wv (bst t wv co n).toNat < wv n ∨ wv (bst t wv co n).toNat = wv n ∧ co n < co (bst t wv co n).toNat) then (n : Int) else bst t wv co n := rfl
    rw [e]
    by_cases c : s = n
    · subst c
      split
      · rw [Int.toNat_natCast]; exact ⟨by omega, Int.le_refl _⟩
      · rename_i q
        have f := bst_fact (t := t) (wv := wv) (co := co) s
        refine ⟨?_, ?_⟩
        · rcases f with f | f
          · exact absurd ⟨ht, Or.inl f⟩ q
          · exact f.1
        · by_cases q2 : wv (bst t wv co s).toNat < wv s
          · exact absurd ⟨ht, Or.inr (Or.inl q2)⟩ q
          · omega
    · have := ih s (by omega) ht
      split
      · rename_i q
        rw [Int.toNat_natCast]
        refine ⟨by omega, ?_⟩
        rcases q.2 with q2 | q2 | q2 <;> omega
      · exact this
/-- what each side can make sure of -/
def V0 (y : Nat → Int) (LO : Option LwS) : Int := lv y LO 0 (sfS y LO 0 256).toNat
def V1 (y : Nat → Int) (LO : Option LwS) : Int := lv y LO 1 (sfS y LO 1 256).toNat
theorem V0_le (hW : WF y) {z : Nat} (h : cnS y LO 0 z) : loS y LO z ≤ V0 y LO := (bst_max (t := cnT y LO 0) (wv := fun s => wrt 0 (lv y LO 0 s)) (co := cst y LO 0) 256 z (cn_lt hW h).2.2 (cnT_iff.mpr h)).2
theorem V1_ge (hW : WF y) {o : Nat} (h : cnS y LO 1 o) : V1 y LO ≤ hiS y LO o := by
  have : - hiS y LO o ≤ - V1 y LO := (bst_max (t := cnT y LO 1) (wv := fun s => wrt 1 (lv y LO 1 s)) (co := cst y LO 1) 256 o (cn_lt hW h).2.2 (cnT_iff.mpr h)).2
  omega
theorem V_le (hW : WF y) : V0 y LO ≤ V1 y LO := by
  have k0 := (sf_ok256 (LO := LO) hW (sd := 0) (by omega)).2
  have k1 := (sf_ok256 (LO := LO) hW (sd := 1) (by omega)).2
  have a := lo_le hW (z := (sfS y LO 0 256).toNat) k1
  have b := hi_ge hW (o := (sfS y LO 1 256).toNat) k0
  exact Int.le_trans a b
def pZ (y : Nat → Int) (LO : Option LwS) (z : Nat) : Bool := decide (V0 y LO = V1 y LO ∧ cnS y LO 0 z ∧ loS y LO z = V0 y LO)
def pO (y : Nat → Int) (LO : Option LwS) (o : Nat) : Bool := decide (V0 y LO = V1 y LO ∧ cnS y LO 1 o ∧ hiS y LO o = V0 y LO)
theorem pZ_iff {z : Nat} : pZ y LO z = true ↔ V0 y LO = V1 y LO ∧ cnS y LO 0 z ∧ loS y LO z = V0 y LO := by unfold pZ; exact decide_eq_true_iff
theorem pO_iff {o : Nat} : pO y LO o = true ↔ V0 y LO = V1 y LO ∧ cnS y LO 1 o ∧ hiS y LO o = V0 y LO := by unfold pO; exact decide_eq_true_iff
theorem sd_iff (hW : WF y) {z o : Nat} (hz : cnS y LO 0 z) (ho : cnS y LO 1 o) : (wn y LO z o = hiS y LO o ∧ wn y LO z o = loS y LO z) ↔ pZ y LO z = true ∧ pO y LO o = true := by
  have a := lo_le hW (z := z) ho
  have b := hi_ge hW (o := o) hz
  have c := V0_le hW hz
  have d := V1_ge hW ho
  have e := V_le (LO := LO) hW
  rw [pZ_iff, pO_iff]
  generalize V0 y LO = v0 at *
  generalize V1 y LO = v1 at *
  generalize loS y LO z = l at *
  generalize hiS y LO o = h at *
  generalize wn y LO z o = w at *
  constructor
  · rintro ⟨h1, h2⟩
    exact ⟨⟨by omega, hz, by omega⟩, by omega, ho, by omega⟩
  · rintro ⟨⟨h1, _, h2⟩, _, _, h3⟩
    omega
def saddleS (y : Nat → Int) (LO : Option LwS) (w : Int) : Int := if 0 ≤ w ∧ w ≤ 2 then (if w = 2 then cntP (pZ y LO) 256 * cntP (pO y LO) 256 else if cntP (pZ y LO) 256 * cntP (pO y LO) 256 = 0 then -1 else if w = 0 then fstP (pZ y LO) 256 else fstP (pO y LO) 256) else -1
/-! the class's -/
def pL (y : Nat → Int) (LO : Option LwS) (sd : Nat) (v : Int) (s : Nat) : Bool := decide (cnS y LO sd s ∧ lv y LO sd s = v)
theorem pL_iff {sd s : Nat} {v : Int} : pL y LO sd v s = true ↔ cnS y LO sd s ∧ lv y LO sd s = v := by unfold pL; exact decide_eq_true_iff
theorem pL_big (hW : WF y) {sd : Nat} {v : Int} {s : Nat} (h : (y 4).toNat + 1 ≤ s) : pL y LO sd v s = false := by
  cases e : pL y LO sd v s with
  | false => rfl
  | true => have := (cn_lt hW (pL_iff.mp e).1).1; omega
theorem x_leavL (hFu : 6000 ≤ Fu) {vb vs vsd vq : Int32} {a43 a44 a46 a47 a49 : Nat → Int32} (hW : WF y) (hB : BK y LO vb vs vsd vq a43 a44 a46 a47 a49) {sd : Nat} (hsd : sd < 2) {v : Int} (v1 : 0 ≤ v) (v2 : v ≤ 10000000000000000) :
    ∀ (d f s : Nat) (sv : Int32) (a48 : Nat → Int64) (t0 : Int32) (w0 : Nat → Int64) (t1 : Int32) (w1 : Nat → Int64) (t2 : Int32) (w2 : Nat → Int64) (t3 : Int32) (w3 : Nat → Int64) (t4 : Int32) (w4 : Nat → Int64) (t5 : Int32) (w5 : Nat → Int64) (t6 : Int32) (w6 : Nat → Int64) (t7 : Int32) (w7 : Nat → Int64), s + d = (y 4).toNat + 1 → d < f → (sv = 0 ∨ sv = 1 ∧ SV y LO a48) → Rt (fX1_leaving_L6 Fu f vs vsd vq sv a43 a44 a46 a47 a48 a49 t0 w0 t1 w1 t2 w2 t3 w3 t4 w4 t5 w5 t6 w6 t7 w7 (i32 (sd : Int)) (i64 v) (i32 (cntP (pL y LO sd v) s)) (i32 (s : Int))) (fun r => r.1 = i32 (cntP (pL y LO sd v) 256) ∧ (r.2.1 = 0 ∨ r.2.1 = 1 ∧ SV y LO r.2.2.1)) := by
  obtain ⟨t, n, e4, e0, hn, hs1, hs, hb⟩ := hW.seats
  have evs := hB.2.1
  intro d
  induction d with
  | zero =>
    intro f s sv a48 t0 w0 t1 w1 t2 w2 t3 w3 t4 w4 t5 w5 t6 w6 t7 w7 hd hf hS
    obtain ⟨f, rfl⟩ : ∃ f', f = f' + 1 := ⟨f - 1, by omega⟩
    rw [fX1_leaving_L6]
    refine Rt.ift (by rw [evs, i32_lt (by omega) (by omega) (by omega) (by omega)]; omega) (Rt.ret ⟨?_, hS⟩)
    show i32 _ = i32 _
    rw [show 256 = s + (256 - s) by omega, cntP_up (fun k hk => pL_big hW (by omega))]
  | succ d ih =>
    intro f s sv a48 t0 w0 t1 w1 t2 w2 t3 w3 t4 w4 t5 w5 t6 w6 t7 w7 hd hf hS
    obtain ⟨f, rfl⟩ : ∃ f', f = f' + 1 := ⟨f - 1, by omega⟩
    have st : cntP (pL y LO sd v) (s + 1) = cntP (pL y LO sd v) s + (if pL y LO sd v s = true then 1 else 0) := rfl
    rw [fX1_leaving_L6]
    refine Rt.iff (by rw [evs, i32_lt (by omega) (by omega) (by omega) (by omega)]; omega) ?_
    rw [x_canN hW hB hsd (by omega)]
    refine Rt.eqb rfl ?_
    by_cases cc : cnS y LO sd s
    · refine Rt.iff (by rw [bI_0]; exact fun q => q cc) ?_
      have lr := lv_rng (LO := LO) hW (sd := sd) (s := s)
      refine Rt.bind (x_left hFu hW hB hS t0 w0 t1 w1 t2 w2 t3 w3 t4 w4 t5 w5 t6 w6 t7 w7 hsd cc) (fun r h1 => ?_)
      rw [h1.1, i32_p1]
      by_cases cv : lv y LO sd s = v
      · refine Rt.ift (by rw [cv]) ?_
        rw [if_pos (pL_iff.mpr ⟨cc, cv⟩)] at st
        have := ih f (s + 1) r.2.1 r.2.2.1 r.2.2.2.1 r.2.2.2.2.1 r.2.2.2.2.2.1 r.2.2.2.2.2.2.1 r.2.2.2.2.2.2.2.1 r.2.2.2.2.2.2.2.2.1 r.2.2.2.2.2.2.2.2.2.1 r.2.2.2.2.2.2.2.2.2.2.1 r.2.2.2.2.2.2.2.2.2.2.2.1 r.2.2.2.2.2.2.2.2.2.2.2.2.1 r.2.2.2.2.2.2.2.2.2.2.2.2.2.1 r.2.2.2.2.2.2.2.2.2.2.2.2.2.2.1 r.2.2.2.2.2.2.2.2.2.2.2.2.2.2.2.1 r.2.2.2.2.2.2.2.2.2.2.2.2.2.2.2.2.1 r.2.2.2.2.2.2.2.2.2.2.2.2.2.2.2.2.2.1 r.2.2.2.2.2.2.2.2.2.2.2.2.2.2.2.2.2.2 (by omega) (by omega) (Or.inr h1.2)
        rw [st] at this
        rw [show i32 (cntP (pL y LO sd v) s) + 1 = i32 (cntP (pL y LO sd v) s + 1) from i32_add _ 1]
        exact this
      · refine Rt.iff (by rw [i64_eq (by omega) (by omega) (by omega) (by omega)]; exact cv) ?_
        rw [if_neg (fun q => cv (pL_iff.mp q).2), Int.add_zero] at st
        have := ih f (s + 1) r.2.1 r.2.2.1 r.2.2.2.1 r.2.2.2.2.1 r.2.2.2.2.2.1 r.2.2.2.2.2.2.1 r.2.2.2.2.2.2.2.1 r.2.2.2.2.2.2.2.2.1 r.2.2.2.2.2.2.2.2.2.1 r.2.2.2.2.2.2.2.2.2.2.1 r.2.2.2.2.2.2.2.2.2.2.2.1 r.2.2.2.2.2.2.2.2.2.2.2.2.1 r.2.2.2.2.2.2.2.2.2.2.2.2.2.1 r.2.2.2.2.2.2.2.2.2.2.2.2.2.2.1 r.2.2.2.2.2.2.2.2.2.2.2.2.2.2.2.1 r.2.2.2.2.2.2.2.2.2.2.2.2.2.2.2.2.1 r.2.2.2.2.2.2.2.2.2.2.2.2.2.2.2.2.2.1 r.2.2.2.2.2.2.2.2.2.2.2.2.2.2.2.2.2.2 (by omega) (by omega) (Or.inr h1.2)
        rw [st] at this
        exact this
    · refine Rt.ift (by rw [bI_0]; exact cc) ?_
      rw [if_neg (fun q => cc (pL_iff.mp q).1), Int.add_zero] at st
      rw [i32_p1]
      have := ih f (s + 1) sv a48 t0 w0 t1 w1 t2 w2 t3 w3 t4 w4 t5 w5 t6 w6 t7 w7 (by omega) (by omega) hS
      rw [st] at this
      exact this
theorem x_firstL (hFu : 6000 ≤ Fu) {vb vs vsd vq : Int32} {a43 a44 a46 a47 a49 : Nat → Int32} (hW : WF y) (hB : BK y LO vb vs vsd vq a43 a44 a46 a47 a49) {sd : Nat} (hsd : sd < 2) {v : Int} (v1 : 0 ≤ v) (v2 : v ≤ 10000000000000000) :
    ∀ (d f s : Nat) (sv : Int32) (a48 : Nat → Int64) (t0 : Int32) (w0 : Nat → Int64) (t1 : Int32) (w1 : Nat → Int64) (t2 : Int32) (w2 : Nat → Int64) (t3 : Int32) (w3 : Nat → Int64) (t4 : Int32) (w4 : Nat → Int64) (t5 : Int32) (w5 : Nat → Int64) (t6 : Int32) (w6 : Nat → Int64) (t7 : Int32) (w7 : Nat → Int64), s + d = (y 4).toNat + 1 → d < f → fstP (pL y LO sd v) s = -1 → (sv = 0 ∨ sv = 1 ∧ SV y LO a48) → Rt (fX1_firstLeaving_L3 Fu f vs vsd vq sv a43 a44 a46 a47 a48 a49 t0 w0 t1 w1 t2 w2 t3 w3 t4 w4 t5 w5 t6 w6 t7 w7 (i32 (sd : Int)) (i64 v) (i32 (s : Int))) (fun r => r.1 = i32 (fstP (pL y LO sd v) 256) ∧ (r.2.1 = 0 ∨ r.2.1 = 1 ∧ SV y LO r.2.2.1)) := by
  obtain ⟨t, n, e4, e0, hn, hs1, hs, hb⟩ := hW.seats
  have evs := hB.2.1
  intro d
  induction d with
  | zero =>
    intro f s sv a48 t0 w0 t1 w1 t2 w2 t3 w3 t4 w4 t5 w5 t6 w6 t7 w7 hd hf hF hS
    obtain ⟨f, rfl⟩ : ∃ f', f = f' + 1 := ⟨f - 1, by omega⟩
    rw [fX1_firstLeaving_L3]
    refine Rt.ift (by rw [evs, i32_lt (by omega) (by omega) (by omega) (by omega)]; omega) (Rt.ret ⟨?_, hS⟩)
    show i32 (-1) = i32 _
    rw [show 256 = s + (256 - s) by omega, fstP_up (fun k hk => pL_big hW (by omega)), hF]
  | succ d ih =>
    intro f s sv a48 t0 w0 t1 w1 t2 w2 t3 w3 t4 w4 t5 w5 t6 w6 t7 w7 hd hf hF hS
    obtain ⟨f, rfl⟩ : ∃ f', f = f' + 1 := ⟨f - 1, by omega⟩
    have st : fstP (pL y LO sd v) (s + 1) = if fstP (pL y LO sd v) s = -1 ∧ pL y LO sd v s = true then (s : Int) else fstP (pL y LO sd v) s := rfl
    rw [fX1_firstLeaving_L3]
    refine Rt.iff (by rw [evs, i32_lt (by omega) (by omega) (by omega) (by omega)]; omega) ?_
    rw [x_canN hW hB hsd (by omega)]
    refine Rt.eqb rfl ?_
    by_cases cc : cnS y LO sd s
    · refine Rt.iff (by rw [bI_0]; exact fun q => q cc) ?_
      have lr := lv_rng (LO := LO) hW (sd := sd) (s := s)
      refine Rt.bind (x_left hFu hW hB hS t0 w0 t1 w1 t2 w2 t3 w3 t4 w4 t5 w5 t6 w6 t7 w7 hsd cc) (fun r h1 => ?_)
      rw [h1.1, i32_p1]
      by_cases cv : lv y LO sd s = v
      · refine Rt.ift (by rw [cv]) (Rt.ret ⟨?_, Or.inr h1.2⟩)
        rw [if_pos ⟨hF, pL_iff.mpr ⟨cc, cv⟩⟩] at st
        have keep : ∀ m, fstP (pL y LO sd v) (s + 1 + m) = (s : Int) := by
          intro m
          induction m with
          | zero => exact st
          | succ m im =>
            have e : fstP (pL y LO sd v) (s + 1 + (m + 1)) = if fstP (pL y LO sd v) (s + 1 + m) = -1 ∧ pL y LO sd v (s + 1 + m) = true then ((s + 1 + m : Nat) : Int) else fstP (pL y LO sd v) (s + 1 + m) := rfl
            rw [e, if_neg (fun q => by omega), im]
        have := keep (256 - (s + 1))
        rw [show s + 1 + (256 - (s + 1)) = 256 by omega] at this
        rw [this]
      · refine Rt.iff (by rw [i64_eq (by omega) (by omega) (by omega) (by omega)]; exact cv) ?_
        rw [if_neg (fun q => cv (pL_iff.mp q.2).2)] at st
        exact ih f (s + 1) r.2.1 r.2.2.1 r.2.2.2.1 r.2.2.2.2.1 r.2.2.2.2.2.1 r.2.2.2.2.2.2.1 r.2.2.2.2.2.2.2.1 r.2.2.2.2.2.2.2.2.1 r.2.2.2.2.2.2.2.2.2.1 r.2.2.2.2.2.2.2.2.2.2.1 r.2.2.2.2.2.2.2.2.2.2.2.1 r.2.2.2.2.2.2.2.2.2.2.2.2.1 r.2.2.2.2.2.2.2.2.2.2.2.2.2.1 r.2.2.2.2.2.2.2.2.2.2.2.2.2.2.1 r.2.2.2.2.2.2.2.2.2.2.2.2.2.2.2.1 r.2.2.2.2.2.2.2.2.2.2.2.2.2.2.2.2.1 r.2.2.2.2.2.2.2.2.2.2.2.2.2.2.2.2.2.1 r.2.2.2.2.2.2.2.2.2.2.2.2.2.2.2.2.2.2 (by omega) (by omega) (by rw [st]; exact hF) (Or.inr h1.2)
    · refine Rt.ift (by rw [bI_0]; exact cc) ?_
      rw [if_neg (fun q => cc (pL_iff.mp q.2).1)] at st
      rw [i32_p1]
      exact ih f (s + 1) sv a48 t0 w0 t1 w1 t2 w2 t3 w3 t4 w4 t5 w5 t6 w6 t7 w7 (by omega) (by omega) (by rw [st]; exact hF) hS
theorem pL_Z (h : V0 y LO = V1 y LO) : pL y LO 0 (V0 y LO) = pZ y LO := by
  funext s
  apply Bool.eq_iff_iff.mpr
  rw [pL_iff, pZ_iff]
  exact ⟨fun q => ⟨h, q.1, q.2⟩, fun q => ⟨q.2.1, q.2.2⟩⟩
theorem pL_O (h : V0 y LO = V1 y LO) : pL y LO 1 (V0 y LO) = pO y LO := by
  funext s
  apply Bool.eq_iff_iff.mpr
  rw [pL_iff, pO_iff]
  exact ⟨fun q => ⟨h, q.1, q.2⟩, fun q => ⟨q.2.1, q.2.2⟩⟩
theorem pZ_no (h : ¬ V0 y LO = V1 y LO) : cntP (pZ y LO) 256 = 0 := by
  have := cntP_up (p := pZ y LO) (N := 0) (fun s _ => by
    cases e : pZ y LO s with
    | false => rfl
    | true => exact absurd (pZ_iff.mp e).1 h) 256
  exact this
theorem pZ_some (hW : WF y) (h : V0 y LO = V1 y LO) : 0 < cntP (pZ y LO) 256 ∧ 0 < cntP (pO y LO) 256 := by
  have some : ∀ (p : Nat → Bool) (k : Nat), k < 256 → p k = true → 0 < cntP p 256 := by
    intro p k hk hp
    have mono : ∀ m, 0 < cntP p (k + 1 + m) := by
      intro m
      induction m with
      | zero =>
        have := (cntP_rng (p := p) k).1
        show 0 < cntP p k + (if p k = true then 1 else 0)
        rw [if_pos hp]; omega
      | succ m im =>
        show 0 < cntP p (k + 1 + m) + (if p (k + 1 + m) = true then 1 else 0)
        split <;> omega
    have := mono (256 - (k + 1))
    rw [show k + 1 + (256 - (k + 1)) = 256 by omega] at this
    exact this
  have k0 := (sf_ok256 (LO := LO) hW (sd := 0) (by omega)).2
  have k1 := (sf_ok256 (LO := LO) hW (sd := 1) (by omega)).2
  exact ⟨some _ _ (cn_lt hW k0).2.2 (pZ_iff.mpr ⟨h, k0, rfl⟩), some _ _ (cn_lt hW k1).2.2 (pO_iff.mpr ⟨h, k1, h.symm⟩)⟩
theorem V0_eq : lv y LO 0 (sfS y LO 0 256).toNat = V0 y LO := rfl
theorem V1_eq : lv y LO 1 (sfS y LO 1 256).toNat = V1 y LO := rfl
theorem V0_rng (hW : WF y) : 0 ≤ V0 y LO ∧ V0 y LO ≤ 10000000000000000 := lv_rng hW
theorem V1_rng (hW : WF y) : 0 ≤ V1 y LO ∧ V1 y LO ≤ 10000000000000000 := lv_rng hW
theorem V_i64 (hW : WF y) : i64 (V0 y LO) = i64 (V1 y LO) ↔ V0 y LO = V1 y LO := by
  have a := V0_rng (LO := LO) hW
  have b := V1_rng (LO := LO) hW
  generalize V0 y LO = v at *
  generalize V1 y LO = w at *
  rw [i64_eq (by omega) (by omega) (by omega) (by omega)]
theorem cnt_0 {p : Nat → Bool} : cntP p 0 = 0 := rfl
theorem fst_0 {p : Nat → Bool} : fstP p 0 = -1 := rfl
theorem sad_ne (hW : WF y) (h : V0 y LO = V1 y LO) : ¬ cntP (pZ y LO) 256 * cntP (pO y LO) 256 = 0 := by
  have ps := pZ_some hW h
  exact Int.ne_of_gt (Int.mul_pos ps.1 ps.2)
theorem sf_i32 (hW : WF y) {sd : Nat} (hsd : sd < 2) : ∃ s : Nat, i32 (sfS y LO sd 256) = i32 (s : Int) ∧ cnS y LO sd s ∧ i64 (lv y LO sd s) = i64 (lv y LO sd (sfS y LO sd 256).toNat) := by
  have k := sf_ok256 (LO := LO) hW hsd
  refine ⟨(sfS y LO sd 256).toNat, ?_, k.2, rfl⟩
  rw [Int.toNat_of_nonneg k.1]
end SADDLE
