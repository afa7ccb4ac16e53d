section SURVEY
variable {y : Nat → Int} {row : Nat → Int32} {beasts meals seats laws inForce cases : Int32} {tr mh te rs ju vo : Nat → Int32} {Fu : Nat} {LO : Option LwS}
theorem mnF_le {t : Nat → Bool} {f : Nat → Int} : ∀ n o, o < n → t o = true → mnF t f n ≤ f o := by
  intro n
  induction n with
  | zero => intro o h; omega
  | succ n ih =>
    intro o h ht
    unfold mnF
    by_cases c : o = n
    · subst c; split
      · omega
      · rename_i q
        by_cases q2 : f o < mnF t f o
        · exact absurd ⟨ht, q2⟩ q
        · omega
    · have := ih o (by omega) ht
      split <;> omega
theorem mxF_ge {t : Nat → Bool} {f : Nat → Int} : ∀ n o, o < n → t o = true → f o ≤ mxF t f n := by
  intro n
  induction n with
  | zero => intro o h; omega
  | succ n ih =>
    intro o h ht
    unfold mxF
    by_cases c : o = n
    · subst c; split
      · omega
      · rename_i q
        by_cases q2 : mxF t f o < f o
        · exact absurd ⟨ht, q2⟩ q
        · omega
    · have := ih o (by omega) ht
      split <;> omega
theorem mnF_att {t : Nat → Bool} {f : Nat → Int} : ∀ n, mnF t f n = 1000000000000000000 ∨ ∃ o, o < n ∧ t o = true ∧ mnF t f n = f o := by
  intro n
  induction n with
  | zero => exact Or.inl rfl
  | succ n ih =>
    unfold mnF
    split
    · rename_i q; exact Or.inr ⟨n, by omega, q.1, rfl⟩
    · rcases ih with h | ⟨o, h1, h2, h3⟩
      · exact Or.inl h
      · exact Or.inr ⟨o, by omega, h2, h3⟩
theorem mxF_att {t : Nat → Bool} {f : Nat → Int} : ∀ n, mxF t f n = -1 ∨ ∃ o, o < n ∧ t o = true ∧ mxF t f n = f o := by
  intro n
  induction n with
  | zero => exact Or.inl rfl
  | succ n ih =>
    unfold mxF
    split
    · rename_i q; exact Or.inr ⟨n, by omega, q.1, rfl⟩
    · rcases ih with h | ⟨o, h1, h2, h3⟩
      · exact Or.inl h
      · exact Or.inr ⟨o, by omega, h2, h3⟩
theorem wn_rng {z o : Nat} : 0 ≤ wn y LO z o ∧ wn y LO z o ≤ 10000000000000000 := wnO_rng
theorem lo_le (hW : WF y) {z o : Nat} (h : cnS y LO 1 o) : loS y LO z ≤ wn y LO z o := mnF_le 256 o (cn_lt hW h).2.2 (cnT_iff.mpr h)
theorem hi_ge (hW : WF y) {z o : Nat} (h : cnS y LO 0 z) : wn y LO z o ≤ hiS y LO o := mxF_ge 256 z (cn_lt hW h).2.2 (cnT_iff.mpr h)
theorem lo_att (hW : WF y) (z : Nat) : ∃ o, cnS y LO 1 o ∧ loS y LO z = wn y LO z o := by
  rcases mnF_att (t := cnT y LO 1) (f := fun o => wn y LO z o) 256 with h | ⟨o, _, h2, h3⟩
  · have h1 := lo_le (LO := LO) hW (z := z) (cn_0 (LO := LO) hW (sd := 1) (by omega))
    have := wn_rng (y := y) (LO := LO) (z := z) (o := 0)
    have h : loS y LO z = 1000000000000000000 := h
    omega
  · exact ⟨o, cnT_iff.mp h2, h3⟩
theorem hi_att (hW : WF y) (o : Nat) : ∃ z, cnS y LO 0 z ∧ hiS y LO o = wn y LO z o := by
  rcases mxF_att (t := cnT y LO 0) (f := fun z => wn y LO z o) 256 with h | ⟨z, _, h2, h3⟩
  · have h1 := hi_ge (LO := LO) hW (o := o) (cn_0 (LO := LO) hW (sd := 0) (by omega))
    have := wn_rng (y := y) (LO := LO) (z := 0) (o := o)
    have h : hiS y LO o = -1 := h
    omega
  · exact ⟨z, cnT_iff.mp h2, h3⟩
theorem lo_rng (hW : WF y) {z : Nat} : 0 ≤ loS y LO z ∧ loS y LO z ≤ 10000000000000000 := by
  obtain ⟨o, _, h⟩ := lo_att (LO := LO) hW z
  rw [h]; exact wn_rng
theorem hi_rng (hW : WF y) {o : Nat} : 0 ≤ hiS y LO o ∧ hiS y LO o ≤ 10000000000000000 := by
  obtain ⟨z, _, h⟩ := hi_att (LO := LO) hW o
  rw [h]; exact wn_rng
theorem EE_0 {z o : Nat} : EE y LO 0 0 0 z o ↔ cnS y LO 0 z ∧ cnS y LO 1 o := by
  unfold EE
  rw [Nat.pow_zero, Nat.mod_one, Nat.mod_one]
  exact ⟨fun h => ⟨h.1, h.2.1⟩, fun h => ⟨h.1, h.2, rfl, rfl⟩⟩
def B0 : Nat → Int := fun k => if k < 256 then 9223372036854775807 else 0
theorem sv_of (hW : WF y) {a : Nat → Int64} {B : Nat → Int} (h : NB a B) (hN : Nt (wn y LO) B0 B (EE y LO 0 0 0)) : SV y LO a := by
  have c0 := cn_0 (LO := LO) hW (sd := 0) (by omega)
  have c1 := cn_0 (LO := LO) hW (sd := 1) (by omega)
  refine ⟨fun z hz => ?_, fun o ho => ?_⟩
  · have l := (cn_lt hW hz).2.2
    obtain ⟨h1, h2, h3⟩ := hN.1 z l
    rw [(h z (by omega)).1]
    congr 1
    have w := wn_rng (y := y) (LO := LO) (z := z) (o := 0)
    have b := h2 0 (EE_0.mpr ⟨hz, c1⟩)
    have e0 : B0 z = 9223372036854775807 := if_pos l
    rcases h3 with h3 | ⟨o, q1, q2⟩
    · omega
    · have a1 := lo_le hW (z := z) (EE_0.mp q1).2
      obtain ⟨o2, q3, q4⟩ := lo_att (LO := LO) hW z
      have := h2 o2 (EE_0.mpr ⟨hz, q3⟩)
      omega
  · have l := (cn_lt hW ho).2.2
    obtain ⟨h1, h2, h3⟩ := hN.2 o l
    rw [(h (256 + o) (by omega)).1]
    congr 1
    have w := wn_rng (y := y) (LO := LO) (z := 0) (o := o)
    have b := h2 0 (EE_0.mpr ⟨c0, ho⟩)
    have e0 : B0 (256 + o) = 0 := if_neg (by omega)
    obtain ⟨z2, q3, q4⟩ := hi_att (LO := LO) hW o
    have h4 := h2 z2 (EE_0.mpr ⟨q3, ho⟩)
    have h5 := hi_rng (LO := LO) hW (o := o)
    rcases h3 with h3 | ⟨z, q1, q2⟩
    · omega
    · have a1 := hi_ge hW (o := o) (EE_0.mp q1).1
      omega
theorem x_fillR {v : Int64} {lo hi : Nat} (h2 : hi ≤ 512) : ∀ (d f j : Nat) (a : Nat → Int64), j + d = hi → d < f → Rt (fJ7_fill_bad5a_L10 Fu 512 f a (i32 (hi : Int)) v (i32 (j : Int))) (fun r => ∀ k, r k = if j ≤ k ∧ k < hi then v else a k) := by
  intro d
  induction d with
  | zero =>
    intro f j a hj hf
    obtain ⟨f, rfl⟩ : ∃ g, f = g + 1 := ⟨f - 1, by omega⟩
    rw [fJ7_fill_bad5a_L10]
    exact Rt.ift (by rw [i32_le (by omega) (by omega) (by omega) (by omega)]; omega) (Rt.ret (fun k => by rw [if_neg (by omega)]))
  | succ d ih =>
    intro f j a hj hf
    obtain ⟨f, rfl⟩ : ∃ g, f = g + 1 := ⟨f - 1, by omega⟩
    rw [fJ7_fill_bad5a_L10]
    refine Rt.iff (by rw [i32_le (by omega) (by omega) (by omega) (by omega)]; omega) (Rt.gd (by omega) (by omega) (by omega) ?_)
    rw [i32_nat (by omega) (by omega), Int.toNat_natCast, i32_p1]
    refine (ih f (j + 1) _ (by omega) (by omega)).mono (fun r hr k => ?_)
    rw [hr k]
    by_cases c : k = j
    · subst c
      rw [if_neg (by omega), va_up_at, if_pos ⟨by omega, by omega⟩]
    · rw [va_up_ne _ _ c]
      by_cases q : j ≤ k ∧ k < hi
      · rw [if_pos q, if_pos (by omega)]
      · rw [if_neg q, if_neg (by omega)]
theorem x_fillB (hFu : 6000 ≤ Fu) {v : Int64} {lo hi : Nat} (h1 : lo ≤ hi) (h2 : hi ≤ 512) (a : Nat → Int64) : Rt (fJ7_fill_bad5a Fu 512 a (i32 (lo : Int)) (i32 (hi : Int)) v) (fun r => ∀ k, r k = if lo ≤ k ∧ k < hi then v else a k) := by
  unfold fJ7_fill_bad5a fJ7_rangeCheck_23922
  rw [if_pos (show i32 (lo : Int) ≤ i32 (hi : Int) by rw [i32_le (by omega) (by omega) (by omega) (by omega)]; omega), if_pos (show (0 : Int32) ≤ i32 (lo : Int) by rw [i32_litN 0, i32_le (by omega) (by omega) (by omega) (by omega)]; omega), if_pos (show i32 (hi : Int) ≤ Int32.ofNat 512 by rw [show Int32.ofNat 512 = i32 ((512 : Nat) : Int) from rfl, i32_le (by omega) (by omega) (by omega) (by omega)]; omega)]
  exact Rt.eqb rfl (x_fillR (lo := lo) h2 (hi - lo) Fu lo a (by omega) (by omega))
theorem wn_0 (hW : WF y) (h : ∀ k, (y 4).toNat.testBit k = false) {z o : Nat} : wn y LO z o = 0 := by
  have hq := hW.quota
  have e : cl (y 4).toNat.testBit (chs y LO z o) 8 = [] := by
    have := cl_gap (t := (y 4).toNat.testBit) (p := chs y LO z o) 8 0 (fun k _ _ => h k)
    exact this
  show al (cl (y 4).toNat.testBit (chs y LO z o) 8) (y 5).toNat = 0
  rw [e]
  refine sm_zero (fun k hk => ?_)
  show (if k = 0 then (1 : Int) else 0) = 0
  rw [if_neg (by omega)]
theorem x_survey (hFu : 6000 ≤ Fu) {vb vs vsd vq sv : Int32} {a43 a44 a46 a47 a49 : Nat → Int32} {a48 : Nat → Int64} (hW : WF y) (hB : BK y LO vb vs vsd vq a43 a44 a46 a47 a49) (hS : sv = 0 ∨ sv = 1 ∧ SV y LO a48) (t0 : Int32) (w0 : Nat → Int64) (t1 : Int32) (w1 : Nat → Int64) (t2 : Int32) (w2 : Nat → Int64) (t3 : Int32) (w3 : Nat → Int64) (t4 : Int32) (w4 : Nat → Int64) (t5 : Int32) (w5 : Nat → Int64) (t6 : Int32) (w6 : Nat → Int64) (t7 : Int32) (w7 : Nat → Int64) : Rt (fX1_survey Fu vsd vq sv a43 a44 a46 a47 a48 a49 t0 w0 t1 w1 t2 w2 t3 w3 t4 w4 t5 w5 t6 w6 t7 w7) (fun r => r.1 = 1 ∧ SV y LO r.2.1) := by
  obtain ⟨s, n, e4, e0, hn, hs1, hs, hbn⟩ := hW.seats
  have b8 := bcn_le (y 4).toNat 8
  unfold fX1_survey
  rcases hS with rfl | ⟨rfl, hS⟩
  · refine Rt.ift rfl ?_
    refine Rt.bind (x_fillB hFu (lo := 0) (hi := 256) (by omega) (by omega) a48) (fun r1 h1 => ?_)
    refine Rt.bind (x_fillB hFu (lo := 256) (hi := 512) (by omega) (by omega) r1) (fun r2 h2 => ?_)
    have hN : NB r2 B0 := by
      intro k hk
      rw [h2 k]
      unfold B0
      by_cases c : k < 256
      · rw [if_neg (by omega), h1 k, if_pos ⟨by omega, by omega⟩, if_pos c]
        exact ⟨rfl, by omega, by omega⟩
      · rw [if_pos ⟨by omega, hk⟩, if_neg c]
        exact ⟨rfl, by omega, by omega⟩
    by_cases c : bcn (y 4).toNat 8 = 0
    · have hno : ∀ k, (y 4).toNat.testBit k = false := by
        intro k
        cases e : (y 4).toNat.testBit k with
        | false => rfl
        | true =>
          obtain ⟨_, k8⟩ := seat_rng hW e
          have e1 : bcn (y 4).toNat (k + 1) = bcn (y 4).toNat k + 1 := by show bcn (y 4).toNat k + (if (y 4).toNat.testBit k then 1 else 0) = _; rw [e]; rfl
          have mo := bcn_mono (s := (y 4).toNat) (a := k + 1) (8 - (k + 1))
          rw [show k + 1 + (8 - (k + 1)) = 8 by omega] at mo
          omega
      refine Rt.ift (by rw [hB.2.2.2.1, c]; rfl) ?_
      refine Rt.bind (x_note hN (W := wn y LO) (z := 0) (o := 0) (by omega) (by omega) (by rw [wn_0 hW hno]; rfl) wn_rng.1 wn_rng.2) (fun r3 ⟨B', g1, g2⟩ => Rt.ret ⟨rfl, sv_of hW g1 (g2.ext (fun z o => ?_))⟩)
      exact EE_last hW (fun k _ => hno k) (Nat.zero_and _) (Nat.zero_and _) (cn_0 (LO := LO) hW (sd := 0) (by omega)).2 (cn_0 (LO := LO) hW (sd := 1) (by omega)).2 z o
    · refine Rt.iff (by rw [hB.2.2.2.1, i32_litN 0, i32_eq (by omega) (by omega) (by omega) (by omega)]; omega) ?_
      refine Rt.bind (x_clear hFu) (fun r3 h3 => ?_)
      rcases next_seat (s := (y 4).toNat) 8 0 (by omega) with ⟨b, _, hb8, ht, hgap⟩ | hno
      · have hK := bcn_gap (s := (y 4).toNat) b 0 (fun k k1 k2 => hgap k k1 (by omega))
        rw [Nat.zero_add] at hK
        have eT : cl (y 4).toNat.testBit (chs y LO 0 0) b = [] := by
          have := cl_gap (t := (y 4).toNat.testBit) (p := chs y LO 0 0) b 0 (fun k k1 k2 => hgap k k1 (by omega))
          rw [Nat.zero_add] at this
          exact this
        have p : 0 < 2 ^ b := Nat.pow_pos (by omega)
        refine Rt.bind (x_pf0 hFu hW hB (b := b) (z0 := 0) (o0 := 0) ht hK p p (Nat.zero_and _) (Nat.zero_and _) (by rw [eT]; exact h3) r2 B0 t1 w1 t2 w2 t3 w3 t4 w4 t5 w5 t6 w6 t7 w7 hN) (fun r4 ⟨B', g1, g2⟩ => Rt.ret ⟨rfl, sv_of hW g1 (g2.ext (fun z o => ?_))⟩)
        exact EE_skip (by omega) hgap
      · have := bcn_gap (s := (y 4).toNat) 8 0 (fun k k1 k2 => hno k k1 (by omega))
        exact absurd this c
  · exact Rt.iff (by decide) (Rt.ret ⟨rfl, hS⟩)
/-- what bribes leave side 0 at worst -/
def lv (y : Nat → Int) (LO : Option LwS) (sd s : Nat) : Int := if sd = 0 then loS y LO s else hiS y LO s
theorem lv_rng (hW : WF y) {sd s : Nat} : 0 ≤ lv y LO sd s ∧ lv y LO sd s ≤ 10000000000000000 := by
  unfold lv
  split
  · exact lo_rng hW
  · exact hi_rng hW
theorem x_left (hFu : 6000 ≤ Fu) {vb vs vsd vq sv : Int32} {a43 a44 a46 a47 a49 : Nat → Int32} {a48 : Nat → Int64} (hW : WF y) (hB : BK y LO vb vs vsd vq a43 a44 a46 a47 a49) (hS : sv = 0 ∨ sv = 1 ∧ SV y LO a48) (t0 : Int32) (w0 : Nat → Int64) (t1 : Int32) (w1 : Nat → Int64) (t2 : Int32) (w2 : Nat → Int64) (t3 : Int32) (w3 : Nat → Int64) (t4 : Int32) (w4 : Nat → Int64) (t5 : Int32) (w5 : Nat → Int64) (t6 : Int32) (w6 : Nat → Int64) (t7 : Int32) (w7 : Nat → Int64) {sd s : Nat} (hsd : sd < 2) (hs : cnS y LO sd s) : Rt (fX1_left Fu vsd vq sv a43 a44 a46 a47 a48 a49 t0 w0 t1 w1 t2 w2 t3 w3 t4 w4 t5 w5 t6 w6 t7 w7 (i32 (sd : Int)) (i32 (s : Int))) (fun r => r.1 = i64 (lv y LO sd s) ∧ r.2.1 = 1 ∧ SV y LO r.2.2.1) := by
  have l := (cn_lt hW hs).2.2
  unfold fX1_left
  refine Rt.bind (x_survey hFu hW hB hS t0 w0 t1 w1 t2 w2 t3 w3 t4 w4 t5 w5 t6 w6 t7 w7) (fun r hr => ?_)
  rw [show i32 (sd : Int) * 256 + i32 (s : Int) = i32 ((256 * sd + s : Nat) : Int) by rw [i32_litN 256, i32_mul, i32_add]; congr 1 <;> omega]
  refine Rt.gd (by omega) (by omega) (by omega) (Rt.ret ⟨?_, hr.1, hr.2⟩)
  show r.2.1 (i32 ((256 * sd + s : Nat) : Int)).toNatClampNeg = _
  rw [i32_nat (by omega) (by omega), Int.toNat_natCast]
  unfold lv
  rcases (show sd = 0 ∨ sd = 1 by omega) with rfl | rfl
  · rw [if_pos rfl, show 256 * 0 + s = s by omega]; exact hr.2.1 s hs
  · rw [if_neg (by omega), show 256 * 1 + s = 256 + s by omega]; exact hr.2.2 s hs
/-! the safest -/
def sfS (y : Nat → Int) (LO : Option LwS) (sd n : Nat) : Int := bst (cnT y LO sd) (fun s => wrt sd (lv y LO sd s)) (cst y LO sd) n
theorem sf_step (sd s : Nat) : sfS y LO sd (s + 1) = if cnT y LO sd s = true ∧ (sfS y LO sd s = -1 ∨ wrt sd (lv y LO sd (sfS y LO sd s).toNat) < wrt sd (lv y LO sd s) ∨ wrt sd (lv y LO sd (sfS y LO sd s).toNat) = wrt sd (lv y LO sd s) ∧ cst y LO sd s < cst y LO sd (sfS y LO sd s).toNat) then (s : Int) else sfS y LO sd s := rfl
theorem sf_fact (sd n : Nat) : sfS y LO sd n = -1 ∨ 0 ≤ sfS y LO sd n ∧ sfS y LO sd n < n ∧ cnS y LO sd (sfS y LO sd n).toNat := by
  rcases bst_fact (t := cnT y LO sd) (wv := fun s => wrt sd (lv y LO sd s)) (co := cst y LO sd) n with h | ⟨h1, h2, h3⟩
  · exact Or.inl h
  · exact Or.inr ⟨h1, h2, cnT_iff.mp h3⟩
theorem sf_ok (hW : WF y) {sd : Nat} (hsd : sd < 2) (n : Nat) : 0 ≤ sfS y LO sd (n + 1) ∧ cnS y LO sd (sfS y LO sd (n + 1)).toNat := by
  have h : 0 ≤ sfS y LO sd (n + 1) := bst_some (cnT_0 hW hsd) n
  rcases sf_fact (y := y) (LO := LO) sd (n + 1) with q | q
  · omega
  · exact ⟨h, q.2.2⟩
theorem sf_256 (hW : WF y) {sd : Nat} : sfS y LO sd 256 = sfS y LO sd ((y 4).toNat + 1) := bst_seats hW
theorem x_safestL (hFu : 6000 ≤ Fu) {vb vs vsd vq : Int32} {a43 a44 a46 a47 a49 : Nat → Int32} (hW : WF y) (hB : BK y LO vb vs vsd vq a43 a44 a46 a47 a49) {sd : Nat} (hsd : sd < 2) :
    ∀ (d f s : Nat) (sv : Int32) (a48 : Nat → Int64) (t0 : Int32) (w0 : Nat → Int64) (t1 : Int32) (w1 : Nat → Int64) (t2 : Int32) (w2 : Nat → Int64) (t3 : Int32) (w3 : Nat → Int64) (t4 : Int32) (w4 : Nat → Int64) (t5 : Int32) (w5 : Nat → Int64) (t6 : Int32) (w6 : Nat → Int64) (t7 : Int32) (w7 : Nat → Int64), s + d = (y 4).toNat → d < f → (sv = 0 ∨ sv = 1 ∧ SV y LO a48) → Rt (fX1_safest_L4 Fu f vs vsd vq sv a43 a44 a46 a47 a48 a49 t0 w0 t1 w1 t2 w2 t3 w3 t4 w4 t5 w5 t6 w6 t7 w7 (i32 (sd : Int)) (i32 (sfS y LO sd (s + 1))) (i32 ((s + 1 : Nat) : Int))) (fun r => r.1 = i32 (sfS y LO sd 256) ∧ (r.2.1 = 0 ∨ r.2.1 = 1 ∧ SV y LO r.2.2.1)) := by
  obtain ⟨t, n, e4, e0, hn, hs1, hs, hb⟩ := hW.seats
  have evs := hB.2.1
  intro d
  induction d with
  | zero =>
    intro f s sv a48 t0 w0 t1 w1 t2 w2 t3 w3 t4 w4 t5 w5 t6 w6 t7 w7 hsd2 hf hS
    obtain ⟨f, rfl⟩ : ∃ f', f = f' + 1 := ⟨f - 1, by omega⟩
    rw [fX1_safest_L4]
    refine Rt.ift (by rw [evs, i32_lt (by omega) (by omega) (by omega) (by omega)]; omega) (Rt.ret ⟨?_, hS⟩)
    rw [sf_256 hW, show (y 4).toNat = s by omega]
  | succ d ih =>
    intro f s sv a48 t0 w0 t1 w1 t2 w2 t3 w3 t4 w4 t5 w5 t6 w6 t7 w7 hsd2 hf hS
    obtain ⟨f, rfl⟩ : ∃ f', f = f' + 1 := ⟨f - 1, by omega⟩
    have st := sf_step (y := y) (LO := LO) sd (s + 1)
    have ok := sf_ok (LO := LO) hW hsd s
    have cl2 := cn_lt hW ok.2
    rw [fX1_safest_L4]
    refine Rt.iff (by rw [evs, i32_lt (by omega) (by omega) (by omega) (by omega)]; omega) ?_
    rw [x_canN hW hB hsd (by omega)]
    refine Rt.eqb rfl ?_
    by_cases cc : cnS y LO sd (s + 1)
    · refine Rt.iff (by rw [bI_0]; exact fun q => q cc) ?_
      have cl := cn_lt hW cc
      refine Rt.bind (x_left hFu hW hB hS t0 w0 t1 w1 t2 w2 t3 w3 t4 w4 t5 w5 t6 w6 t7 w7 hsd cc) (fun r h1 => ?_)
      rw [h1.1, x_worth hsd]
      refine Rt.eqb rfl ?_
      have eb : sfS y LO sd (s + 1) = (((sfS y LO sd (s + 1)).toNat : Nat) : Int) := by omega
      have x2 := x_left hFu hW hB (Or.inr h1.2) r.2.2.2.1 r.2.2.2.2.1 r.2.2.2.2.2.1 r.2.2.2.2.2.2.1 r.2.2.2.2.2.2.2.1 r.2.2.2.2.2.2.2.2.1 r.2.2.2.2.2.2.2.2.2.1 r.2.2.2.2.2.2.2.2.2.2.1 r.2.2.2.2.2.2.2.2.2.2.2.1 r.2.2.2.2.2.2.2.2.2.2.2.2.1 r.2.2.2.2.2.2.2.2.2.2.2.2.2.1 r.2.2.2.2.2.2.2.2.2.2.2.2.2.2.1 r.2.2.2.2.2.2.2.2.2.2.2.2.2.2.2.1 r.2.2.2.2.2.2.2.2.2.2.2.2.2.2.2.2.1 r.2.2.2.2.2.2.2.2.2.2.2.2.2.2.2.2.2.1 r.2.2.2.2.2.2.2.2.2.2.2.2.2.2.2.2.2.2 hsd ok.2
      rw [← eb] at x2
      refine Rt.bind x2 (fun r2 h2 => ?_)
      rw [h2.1, x_worth hsd]
      refine Rt.eqb rfl ?_
      have lr := lv_rng (LO := LO) hW (sd := sd) (s := s + 1)
      have lr2 := lv_rng (LO := LO) hW (sd := sd) (s := (sfS y LO sd (s + 1)).toNat)
      have w1 : -10000000000000000 ≤ wrt sd (lv y LO sd (s + 1)) ∧ wrt sd (lv y LO sd (s + 1)) ≤ 10000000000000000 := by unfold wrt; split <;> omega
      have w2 : -10000000000000000 ≤ wrt sd (lv y LO sd (sfS y LO sd (s + 1)).toNat) ∧ wrt sd (lv y LO sd (sfS y LO sd (s + 1)).toNat) ≤ 10000000000000000 := by unfold wrt; split <;> omega
      rw [i64_sub]
      have cr := cst_rng (LO := LO) hW (sd := sd) (s := s + 1)
      have cr2 := cst_rng (LO := LO) hW (sd := sd) (s := (sfS y LO sd (s + 1)).toNat)
      have yes : (wrt sd (lv y LO sd (sfS y LO sd (s + 1)).toNat) < wrt sd (lv y LO sd (s + 1)) ∨ wrt sd (lv y LO sd (sfS y LO sd (s + 1)).toNat) = wrt sd (lv y LO sd (s + 1)) ∧ cst y LO sd (s + 1) < cst y LO sd (sfS y LO sd (s + 1)).toNat) → Rt (fX1_safest_L73 Fu (fX1_safest_L4 Fu f) vs vsd vq r2.2.1 a43 a44 a46 a47 r2.2.2.1 a49 r2.2.2.2.1 r2.2.2.2.2.1 r2.2.2.2.2.2.1 r2.2.2.2.2.2.2.1 r2.2.2.2.2.2.2.2.1 r2.2.2.2.2.2.2.2.2.1 r2.2.2.2.2.2.2.2.2.2.1 r2.2.2.2.2.2.2.2.2.2.2.1 r2.2.2.2.2.2.2.2.2.2.2.2.1 r2.2.2.2.2.2.2.2.2.2.2.2.2.1 r2.2.2.2.2.2.2.2.2.2.2.2.2.2.1 r2.2.2.2.2.2.2.2.2.2.2.2.2.2.2.1 r2.2.2.2.2.2.2.2.2.2.2.2.2.2.2.2.1 r2.2.2.2.2.2.2.2.2.2.2.2.2.2.2.2.2.1 r2.2.2.2.2.2.2.2.2.2.2.2.2.2.2.2.2.2.1 r2.2.2.2.2.2.2.2.2.2.2.2.2.2.2.2.2.2.2 (i32 (sd : Int)) (i32 ((s + 1 : Nat) : Int))) (fun r => r.1 = i32 (sfS y LO sd 256) ∧ (r.2.1 = 0 ∨ r.2.1 = 1 ∧ SV y LO r.2.2.1)) := by
        intro q
        rw [if_pos ⟨cnT_iff.mpr cc, Or.inr q⟩] at st
        unfold fX1_safest_L73
        rw [i32_p1]
        have := ih f (s + 1) r2.2.1 r2.2.2.1 r2.2.2.2.1 r2.2.2.2.2.1 r2.2.2.2.2.2.1 r2.2.2.2.2.2.2.1 r2.2.2.2.2.2.2.2.1 r2.2.2.2.2.2.2.2.2.1 r2.2.2.2.2.2.2.2.2.2.1 r2.2.2.2.2.2.2.2.2.2.2.1 r2.2.2.2.2.2.2.2.2.2.2.2.1 r2.2.2.2.2.2.2.2.2.2.2.2.2.1 r2.2.2.2.2.2.2.2.2.2.2.2.2.2.1 r2.2.2.2.2.2.2.2.2.2.2.2.2.2.2.1 r2.2.2.2.2.2.2.2.2.2.2.2.2.2.2.2.1 r2.2.2.2.2.2.2.2.2.2.2.2.2.2.2.2.2.1 r2.2.2.2.2.2.2.2.2.2.2.2.2.2.2.2.2.2.1 r2.2.2.2.2.2.2.2.2.2.2.2.2.2.2.2.2.2.2 (by omega) (by omega) (Or.inr h2.2)
        rw [st] at this
        exact this
      have no : ¬ (wrt sd (lv y LO sd (sfS y LO sd (s + 1)).toNat) < wrt sd (lv y LO sd (s + 1)) ∨ wrt sd (lv y LO sd (sfS y LO sd (s + 1)).toNat) = wrt sd (lv y LO sd (s + 1)) ∧ cst y LO sd (s + 1) < cst y LO sd (sfS y LO sd (s + 1)).toNat) → Rt (fX1_safest_L4 Fu f vs vsd vq r2.2.1 a43 a44 a46 a47 r2.2.2.1 a49 r2.2.2.2.1 r2.2.2.2.2.1 r2.2.2.2.2.2.1 r2.2.2.2.2.2.2.1 r2.2.2.2.2.2.2.2.1 r2.2.2.2.2.2.2.2.2.1 r2.2.2.2.2.2.2.2.2.2.1 r2.2.2.2.2.2.2.2.2.2.2.1 r2.2.2.2.2.2.2.2.2.2.2.2.1 r2.2.2.2.2.2.2.2.2.2.2.2.2.1 r2.2.2.2.2.2.2.2.2.2.2.2.2.2.1 r2.2.2.2.2.2.2.2.2.2.2.2.2.2.2.1 r2.2.2.2.2.2.2.2.2.2.2.2.2.2.2.2.1 r2.2.2.2.2.2.2.2.2.2.2.2.2.2.2.2.2.1 r2.2.2.2.2.2.2.2.2.2.2.2.2.2.2.2.2.2.1 r2.2.2.2.2.2.2.2.2.2.2.2.2.2.2.2.2.2.2 (i32 (sd : Int)) (i32 (sfS y LO sd (s + 1))) (i32 ((s + 1 : Nat) : Int) + 1)) (fun r => r.1 = i32 (sfS y LO sd 256) ∧ (r.2.1 = 0 ∨ r.2.1 = 1 ∧ SV y LO r.2.2.1)) := by
        intro q
        rw [if_neg (fun q' => by rcases q'.2 with q2 | q2; omega; exact q q2)] at st
        rw [i32_p1]
        have := ih f (s + 1) r2.2.1 r2.2.2.1 r2.2.2.2.1 r2.2.2.2.2.1 r2.2.2.2.2.2.1 r2.2.2.2.2.2.2.1 r2.2.2.2.2.2.2.2.1 r2.2.2.2.2.2.2.2.2.1 r2.2.2.2.2.2.2.2.2.2.1 r2.2.2.2.2.2.2.2.2.2.2.1 r2.2.2.2.2.2.2.2.2.2.2.2.1 r2.2.2.2.2.2.2.2.2.2.2.2.2.1 r2.2.2.2.2.2.2.2.2.2.2.2.2.2.1 r2.2.2.2.2.2.2.2.2.2.2.2.2.2.2.1 r2.2.2.2.2.2.2.2.2.2.2.2.2.2.2.2.1 r2.2.2.2.2.2.2.2.2.2.2.2.2.2.2.2.2.1 r2.2.2.2.2.2.2.2.2.2.2.2.2.2.2.2.2.2.1 r2.2.2.2.2.2.2.2.2.2.2.2.2.2.2.2.2.2.2 (by omega) (by omega) (Or.inr h2.2)
        rw [st] at this
        exact this
      by_cases c1 : wrt sd (lv y LO sd (sfS y LO sd (s + 1)).toNat) < wrt sd (lv y LO sd (s + 1))
      · exact Rt.ift (by rw [i64_litN 0, i64_lt (by omega) (by omega) (by omega) (by omega)]; omega) (yes (Or.inl c1))
      · refine Rt.iff (by rw [i64_litN 0, i64_lt (by omega) (by omega) (by omega) (by omega)]; omega) ?_
        by_cases c2 : wrt sd (lv y LO sd (sfS y LO sd (s + 1)).toNat) = wrt sd (lv y LO sd (s + 1))
        · refine Rt.ift (by rw [i64_litN 0, i64_eq (by omega) (by omega) (by omega) (by omega)]; omega) ?_
          have xc := x_cost hW hB hsd cl2.2.1
          rw [← eb] at xc
          rw [x_cost hW hB hsd cl.2.1, xc]
          refine Rt.eqb rfl (Rt.eqb rfl ?_)
          by_cases c3 : cst y LO sd (s + 1) < cst y LO sd (sfS y LO sd (s + 1)).toNat
          · exact Rt.iff (by rw [i32_le (by omega) (by omega) (by omega) (by omega)]; omega) (yes (Or.inr ⟨c2, c3⟩))
          · exact Rt.ift (by rw [i32_le (by omega) (by omega) (by omega) (by omega)]; omega) (no (by omega))
        · exact Rt.iff (by rw [i64_litN 0, i64_eq (by omega) (by omega) (by omega) (by omega)]; omega) (no (by omega))
    · refine Rt.ift (by rw [bI_0]; exact cc) ?_
      rw [if_neg (fun q => cc (cnT_iff.mp q.1))] at st
      rw [i32_p1]
      have := ih f (s + 1) sv a48 t0 w0 t1 w1 t2 w2 t3 w3 t4 w4 t5 w5 t6 w6 t7 w7 (by omega) (by omega) hS
      rw [st] at this
      exact this
theorem x_safest (hFu : 6000 ≤ Fu) {vb vs vsd vq sv : Int32} {a43 a44 a46 a47 a49 : Nat → Int32} {a48 : Nat → Int64} (hW : WF y) (hB : BK y LO vb vs vsd vq a43 a44 a46 a47 a49) (hS : sv = 0 ∨ sv = 1 ∧ SV y LO a48) (t0 : Int32) (w0 : Nat → Int64) (t1 : Int32) (w1 : Nat → Int64) (t2 : Int32) (w2 : Nat → Int64) (t3 : Int32) (w3 : Nat → Int64) (t4 : Int32) (w4 : Nat → Int64) (t5 : Int32) (w5 : Nat → Int64) (t6 : Int32) (w6 : Nat → Int64) (t7 : Int32) (w7 : Nat → Int64) {sd : Nat} (hsd : sd < 2) : Rt (fX1_safest Fu vs vsd vq sv a43 a44 a46 a47 a48 a49 t0 w0 t1 w1 t2 w2 t3 w3 t4 w4 t5 w5 t6 w6 t7 w7 (i32 (sd : Int))) (fun r => r.1 = i32 (sfS y LO sd 256) ∧ (r.2.1 = 0 ∨ r.2.1 = 1 ∧ SV y LO r.2.2.1)) := by
  obtain ⟨t, n, e4, e0, hn, hs1, hs, hb⟩ := hW.seats
  have e : sfS y LO sd 1 = 0 := by
    rw [sf_step, if_pos ⟨cnT_0 hW hsd, Or.inl rfl⟩]; rfl
  have := x_safestL hFu hW hB hsd (y 4).toNat Fu 0 sv a48 t0 w0 t1 w1 t2 w2 t3 w3 t4 w4 t5 w5 t6 w6 t7 w7 (by omega) (by omega) hS
  rw [e] at this
  exact this
end SURVEY
