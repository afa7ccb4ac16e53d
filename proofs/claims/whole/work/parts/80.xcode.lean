/-! ===== steps of the class: a piece and what it computes ===== -/
section FOL
variable {Fu ns f to p k a : Nat} {H : Int32} {wd aL : Nat → Int32} {sk : Nat → Int64}
theorem fol_step (hp : p < to) (ht : to ≤ ns) (hn : ns ≤ 400) (ha : a < 1024) (hk : k ≤ 11) (e : aL p = i32 ((1024 * k + a : Nat) : Int)) :
    fX0_follow_L_L8 Fu ns (f + 1) H wd sk aL (i32 (to : Int)) (i32 (p : Int)) =
    (if i32 (k : Int) = (0 : Int32) then ((fX0_push H sk (i32 (a : Int))).bind fun r9 => (fX0_follow_L_L8 Fu ns f) r9.1 wd r9.2 aL (i32 (to : Int)) (i32 ((p + 1 : Nat) : Int))) else (if i32 (k : Int) = (1 : Int32) then (if (10 : Int32) ≤ i32 (a : Int) then (fX0_follow_L_L89 Fu ns (fX0_follow_L_L8 Fu ns f) H wd sk aL (i32 (to : Int)) (i32 (p : Int)) 0) else (gd (i32 (a : Int)) 10 (fX0_follow_L_L89 Fu ns (fX0_follow_L_L8 Fu ns f) H wd sk aL (i32 (to : Int)) (i32 (p : Int)) (wd a)))) else (if H = (0 : Int32) then (some (0, H, sk)) else (if i32 (k : Int) = (9 : Int32) then (gd (H - 1) 51 (gd (H - 1) 51 ((fX0_follow_L_L8 Fu ns f) H wd (va_up sk (H - 1).toNatClampNeg (1 - (sk (H - 1).toNatClampNeg))) aL (i32 (to : Int)) (i32 ((p + 1 : Nat) : Int))))) else (if i32 (k : Int) = (10 : Int32) then (fX0_follow_L_L152 Fu ns (fX0_follow_L_L8 Fu ns f) H wd sk aL (i32 (to : Int)) (i32 (p : Int)) (i32 (k : Int)) (i32 (a : Int))) else (if i32 (k : Int) = (11 : Int32) then (fX0_follow_L_L152 Fu ns (fX0_follow_L_L8 Fu ns f) H wd sk aL (i32 (to : Int)) (i32 (p : Int)) (i32 (k : Int)) (i32 (a : Int))) else ((fX0_combine H sk (i32 (k : Int))).bind fun r5 => (if (r5.1 : Int32) = (0 : Int32) then (some (0, r5.2.1, r5.2.2)) else ((fX0_follow_L_L8 Fu ns f) r5.2.1 wd r5.2.2 aL (i32 (to : Int)) (i32 ((p + 1 : Nat) : Int)))))))))))  := by
  have e1 : i32 ((1024 * k + a : Nat) : Int) / 1024 = i32 (k : Int) := by
    rw [i32_litN 1024, i32_div (by omega) (by omega) (by omega) (by omega)]; congr 1; omega
  have e2 : i32 ((1024 * k + a : Nat) : Int) - i32 (k : Int) * 1024 = i32 (a : Int) := by
    rw [i32_litN 1024, i32_mul, i32_sub]; congr 1; omega
  have e3 : i32 (p : Int) + 1 = i32 ((p + 1 : Nat) : Int) := by rw [i32_litN 1, i32_add]; congr 1
  have e4 : Int32.ofNat ns = i32 (ns : Int) := rfl
  rw [fX0_follow_L_L8, e4, i32_nat (by omega) (by omega), Int.toNat_natCast, e, e1, e2, e3]
  rw [if_neg (by rw [i32_le (by omega) (by omega) (by omega) (by omega)]; omega), if_neg (by rw [i32_le (by omega) (by omega) (by omega) (by omega)]; omega)]
  rw [gd_ok (by omega) (by omega) (by omega), gd_ok (by omega) (by omega) (by omega), gz_in (by decide), gz_in (by decide), i32_nat (by omega) (by omega), Int.toNat_natCast]
theorem fol_num (hp : p < to) (ht : to ≤ ns) (hn : ns ≤ 400) (ha : a < 1024) (e : aL p = i32 (a : Int)) {h : Nat} (hh : h < 51) :
    fX0_follow_L_L8 Fu ns (f + 1) (i32 (h : Int)) wd sk aL (i32 (to : Int)) (i32 (p : Int)) = fX0_follow_L_L8 Fu ns f (i32 ((h + 1 : Nat) : Int)) wd (va_up sk h (i64 (a : Int))) aL (i32 (to : Int)) (i32 ((p + 1 : Nat) : Int)) := by
  rw [fol_step (k := 0) hp ht hn ha (by omega) (by rw [e, Nat.mul_zero, Nat.zero_add]), if_pos (show i32 ((0 : Nat) : Int) = 0 from rfl), x_push hh, i32_64 (by omega) (by omega)]; rfl
theorem fol_word (hp : p < to) (ht : to ≤ ns) (hn : ns ≤ 400) (ha : a < 10) (e : aL p = i32 ((1024 + a : Nat) : Int)) {h : Nat} (hh : h < 51) {v : Int} (hv : wd a = i32 v) (v1 : -1000000000 ≤ v) (v2 : v ≤ 1000000000) :
    fX0_follow_L_L8 Fu ns (f + 1) (i32 (h : Int)) wd sk aL (i32 (to : Int)) (i32 (p : Int)) = fX0_follow_L_L8 Fu ns f (i32 ((h + 1 : Nat) : Int)) wd (va_up sk h (i64 v)) aL (i32 (to : Int)) (i32 ((p + 1 : Nat) : Int)) := by
  rw [fol_step (k := 1) (a := a) hp ht hn (by omega) (by omega) (by rw [e]), if_neg (by decide), if_pos (show i32 ((1 : Nat) : Int) = 1 from rfl), if_neg (by rw [i32_litN 10, i32_le (by omega) (by omega) (by omega) (by omega)]; omega), gd_ok (by omega) (by omega) (by omega)]
  unfold fX0_follow_L_L89
  rw [hv, x_push hh, i32_64 (by omega) (by omega), show i32 (p : Int) + 1 = i32 ((p + 1 : Nat) : Int) by rw [i32_litN 1, i32_add]; congr 1]
  rfl
theorem i32_h1 {h : Nat} (hh : h < 100) : ¬ i32 ((h + 1 : Nat) : Int) = 0 := by
  rw [i32_litN 0, i32_eq (by omega) (by omega) (by omega) (by omega)]; omega
theorem i32_s1 {h : Nat} : i32 ((h + 1 : Nat) : Int) - 1 = i32 (h : Int) := by rw [i32_litN 1, i32_sub]; congr 1; omega
theorem i32_p1 {h : Nat} : i32 (h : Int) + 1 = i32 ((h + 1 : Nat) : Int) := by rw [i32_litN 1, i32_add]; congr 1
theorem fol_not (hp : p < to) (ht : to ≤ ns) (hn : ns ≤ 400) (e : aL p = i32 ((9216 : Nat) : Int)) {h : Nat} (hh : h < 51) {v : Int} (hv : sk h = i64 v) :
    fX0_follow_L_L8 Fu ns (f + 1) (i32 ((h + 1 : Nat) : Int)) wd sk aL (i32 (to : Int)) (i32 (p : Int)) = fX0_follow_L_L8 Fu ns f (i32 ((h + 1 : Nat) : Int)) wd (va_up sk h (i64 (1 - v))) aL (i32 (to : Int)) (i32 ((p + 1 : Nat) : Int)) := by
  rw [fol_step (k := 9) (a := 0) hp ht hn (by omega) (by omega) (by rw [e]), if_neg (by decide), if_neg (by decide), if_neg (i32_h1 (by omega)), if_pos (show i32 ((9 : Nat) : Int) = 9 from rfl), i32_s1, gd_ok (by omega) (by omega) (by omega), gd_ok (by omega) (by omega) (by omega), i32_nat (by omega) (by omega), Int.toNat_natCast, hv, i64_litN 1, i64_sub]
  rfl
theorem fol_op (hp : p < to) (ht : to ≤ ns) (hn : ns ≤ 400) (hk : 2 ≤ k) (hk2 : k ≤ 8) (e : aL p = i32 ((1024 * k : Nat) : Int)) {h : Nat} (hh : h + 2 ≤ 51) {x z : Int} (hx : sk h = i64 x) (hz : sk (h + 1) = i64 z) (a1 : -1000000000 ≤ x) (a2 : x ≤ 1000000000) (b1 : -1000000000 ≤ z) (b2 : z ≤ 1000000000) :
    (∀ v, opv k x z = some v → fX0_follow_L_L8 Fu ns (f + 1) (i32 ((h + 2 : Nat) : Int)) wd sk aL (i32 (to : Int)) (i32 (p : Int)) = fX0_follow_L_L8 Fu ns f (i32 ((h + 1 : Nat) : Int)) wd (va_up sk h (i64 v)) aL (i32 (to : Int)) (i32 ((p + 1 : Nat) : Int))) ∧ (opv k x z = none → ∃ h' sk', fX0_follow_L_L8 Fu ns (f + 1) (i32 ((h + 2 : Nat) : Int)) wd sk aL (i32 (to : Int)) (i32 (p : Int)) = some (0, h', sk')) := by
  rw [fol_step (k := k) (a := 0) hp ht hn (by omega) (by omega) (by rw [e]; rfl), if_neg (i32_kne (j := 0) (by omega) (by omega) (by omega)), if_neg (i32_kne (j := 1) (by omega) (by omega) (by omega)), if_neg (i32_h1 (h := h + 1) (by omega)), if_neg (i32_kne (j := 9) (by omega) (by omega) (by omega)), if_neg (i32_kne (j := 10) (by omega) (by omega) (by omega)), if_neg (i32_kne (j := 11) (by omega) (by omega) (by omega))]
  obtain ⟨c1, c2⟩ := x_combine hh hk hk2 hx hz a1 a2 b1 b2
  refine ⟨fun v hv => ?_, fun hv => ?_⟩
  · rw [c1 v hv]; rfl
  · obtain ⟨h', sk', c3⟩ := c2 hv
    rw [c3]; exact ⟨_, _, rfl⟩
theorem fol_jmp {q : Nat} (hp : p < to) (ht : to ≤ ns) (hn : ns ≤ 400) (hk : k = 10 ∨ k = 11) (hq : p < q) (hq2 : q ≤ 400) (e : aL p = i32 ((1024 * k + q : Nat) : Int)) {h : Nat} (hh : h < 51) {v : Int} (hv : sk h = i64 v) (v01 : v = 0 ∨ v = 1) :
    fX0_follow_L_L8 Fu ns (f + 1) (i32 ((h + 1 : Nat) : Int)) wd sk aL (i32 (to : Int)) (i32 (p : Int)) = if (v = 1) = (k = 10) then fX0_follow_L_L8 Fu ns f (i32 ((h + 1 : Nat) : Int)) wd sk aL (i32 (to : Int)) (i32 (q : Int)) else fX0_follow_L_L8 Fu ns f (i32 (h : Int)) wd sk aL (i32 (to : Int)) (i32 ((p + 1 : Nat) : Int)) := by
  have e3 : (if (i32 (p : Int)) < (i32 (q : Int) - 1) then (i32 (q : Int) - 1) else i32 (p : Int)) + 1 = i32 (q : Int) := by
    obtain ⟨r, rfl⟩ : ∃ r, q = r + 1 := ⟨q - 1, by omega⟩
    rw [i32_s1]
    simp (disch := omega) only [i32_lt]
    by_cases c : (p : Int) < (r : Int)
    · rw [if_pos c, i32_p1]
    · rw [if_neg c, i32_p1]; congr 1; omega
  have h152 : fX0_follow_L_L152 Fu ns (fX0_follow_L_L8 Fu ns f) (i32 ((h + 1 : Nat) : Int)) wd sk aL (i32 (to : Int)) (i32 (p : Int)) (i32 (k : Int)) (i32 (q : Int)) = if (v = 1) = (k = 10) then fX0_follow_L_L8 Fu ns f (i32 ((h + 1 : Nat) : Int)) wd sk aL (i32 (to : Int)) (i32 (q : Int)) else fX0_follow_L_L8 Fu ns f (i32 (h : Int)) wd sk aL (i32 (to : Int)) (i32 ((p + 1 : Nat) : Int)) := by
    unfold fX0_follow_L_L152 fX0_follow_L_L173 fX0_follow_L_L185 fX0_follow_L_L193
    rw [i32_s1, gd_ok (by omega) (by omega) (by omega), i32_nat (by omega) (by omega), Int.toNat_natCast, hv, e3, i32_p1]
    rcases v01 with rfl | rfl <;> rcases hk with rfl | rfl <;> rfl
  rcases hk with rfl | rfl
  · rw [fol_step (k := 10) (a := q) hp ht hn (by omega) (by omega) e, if_neg (by decide), if_neg (by decide), if_neg (i32_h1 (by omega)), if_neg (by decide), if_pos (show i32 ((10 : Nat) : Int) = 10 from rfl), h152]
  · rw [fol_step (k := 11) (a := q) hp ht hn (by omega) (by omega) e, if_neg (by decide), if_neg (by decide), if_neg (i32_h1 (by omega)), if_neg (by decide), if_neg (by decide), if_pos (show i32 ((11 : Nat) : Int) = 11 from rfl), h152]
end FOL
def XC (st : Nat → Int32) (p p' w : Nat) (m : Mn) : Prop :=
  p < p' ∧ bdM m ∧ 1 ≤ w ∧
  ∀ (Fu ns to : Nat) (e : Nat → Int) (wd : Nat → Int32) (sk : Nat → Int64) (aL : Nat → Int32) (h f : Nat), okE e → (∀ j, j < 10 → wd j = i32 (e j)) → (∀ j, p ≤ j → j < p' → aL j = st j) → p' ≤ to → to ≤ ns → ns ≤ 400 → h + w ≤ 51 → p' - p < f →
   (∀ v, m e = some v → ∃ sk' f', sk' h = i64 v ∧ (∀ j, j < h → sk' j = sk j) ∧ f ≤ f' + (p' - p) ∧ fX0_follow_L_L8 Fu ns f (i32 (h : Int)) wd sk aL (i32 (to : Int)) (i32 (p : Int)) = fX0_follow_L_L8 Fu ns f' (i32 ((h + 1 : Nat) : Int)) wd sk' aL (i32 (to : Int)) (i32 (p' : Int))) ∧
   (m e = none → ∃ h' sk', fX0_follow_L_L8 Fu ns f (i32 (h : Int)) wd sk aL (i32 (to : Int)) (i32 (p : Int)) = some (0, h', sk'))
theorem XC.same {st st' : Nat → Int32} {p p' w : Nat} {m : Mn} (h : XC st p p' w m) (hs : ∀ j, p ≤ j → j < p' → st' j = st j) : XC st' p p' w m := by
  obtain ⟨h1, h2, h3, h4⟩ := h
  refine ⟨h1, h2, h3, fun Fu ns to e wd sk aL h f g1 g2 g3 g4 g5 g6 g7 g8 => ?_⟩
  exact h4 Fu ns to e wd sk aL h f g1 g2 (fun j j1 j2 => (g3 j j1 j2).trans (hs j j1 j2)) g4 g5 g6 g7 g8
theorem XC.wider {st : Nat → Int32} {p p' w w' : Nat} {m : Mn} (h : XC st p p' w m) (hw : w ≤ w') : XC st p p' w' m := by
  obtain ⟨h1, h2, h3, h4⟩ := h
  refine ⟨h1, h2, by omega, fun Fu ns to e wd sk aL h f g1 g2 g3 g4 g5 g6 g7 g8 => ?_⟩
  exact h4 Fu ns to e wd sk aL h f g1 g2 g3 g4 g5 g6 (by omega) g8
theorem XC.num {st : Nat → Int32} {p a : Nat} (ha : a ≤ 1000) (hs : st p = i32 (a : Int)) : XC st p (p + 1) 1 (fun _ => some (a : Int)) := by
  refine ⟨by omega, fun e v _ h => by cases h; omega, by omega, fun Fu ns to e wd sk aL h f g1 g2 g3 g4 g5 g6 g7 g8 => ⟨fun v hv => ?_, fun hv => (by cases hv)⟩⟩
  cases hv
  obtain ⟨f, rfl⟩ : ∃ f', f = f' + 1 := ⟨f - 1, by omega⟩
  refine ⟨va_up sk h (i64 (a : Int)), f, va_up_at _ _ _, fun j hj => va_up_ne _ _ (by omega), by omega, ?_⟩
  exact fol_num (by omega) g5 g6 (by omega) ((g3 p (by omega) (by omega)).trans hs) (by omega)
theorem XC.word {st : Nat → Int32} {p a : Nat} (ha : a < 10) (hs : st p = i32 ((1024 + a : Nat) : Int)) : XC st p (p + 1) 1 (fun e => some (e a)) := by
  refine ⟨by omega, fun e v he h => (by cases h; exact he a ha), by omega, fun Fu ns to e wd sk aL h f g1 g2 g3 g4 g5 g6 g7 g8 => ⟨fun v hv => ?_, fun hv => (by cases hv)⟩⟩
  cases hv
  obtain ⟨f, rfl⟩ : ∃ f', f = f' + 1 := ⟨f - 1, by omega⟩
  refine ⟨va_up sk h (i64 (e a)), f, va_up_at _ _ _, fun j hj => va_up_ne _ _ (by omega), by omega, ?_⟩
  exact fol_word (by omega) g5 g6 ha ((g3 p (by omega) (by omega)).trans hs) (by omega) (g2 a ha) (g1 a ha).1 (g1 a ha).2
theorem XC.op {st : Nat → Int32} {p p1 p2 w1 w2 k : Nat} {m1 m2 : Mn} (h1 : XC st p p1 w1 m1) (h2 : XC st p1 p2 w2 m2) (hk : 2 ≤ k) (hk2 : k ≤ 8) (hs : st p2 = i32 ((1024 * k : Nat) : Int)) : XC st p (p2 + 1) (w1 + w2) (mop k m1 m2) := by
  obtain ⟨a1, a2, a3, a4⟩ := h1
  obtain ⟨b1, b2, b3, b4⟩ := h2
  refine ⟨by omega, mop_bd, by omega, fun Fu ns to e wd sk aL h f g1 g2 g3 g4 g5 g6 g7 g8 => ?_⟩
  obtain ⟨s1, n1⟩ := a4 Fu ns to e wd sk aL h f g1 g2 (fun j j1 j2 => g3 j j1 (by omega)) (by omega) g5 g6 (by omega) (by omega)
  unfold mop
  cases e1 : m1 e with
  | none =>
    refine ⟨fun v hv => (by cases hv), fun _ => n1 e1⟩
  | some x =>
    obtain ⟨sk1, f1, q1, q2, q3, q4⟩ := s1 x e1
    obtain ⟨s2, n2⟩ := b4 Fu ns to e wd sk1 aL (h + 1) f1 g1 g2 (fun j j1 j2 => g3 j (by omega) (by omega)) (by omega) g5 g6 (by omega) (by omega)
    rw [q4]
    cases e2 : m2 e with
    | none => exact ⟨fun v hv => (by cases hv), fun _ => n2 e2⟩
    | some z =>
      obtain ⟨sk2, f2, r1, r2, r3, r4⟩ := s2 z e2
      rw [r4]
      obtain ⟨f2, rfl⟩ : ∃ f', f2 = f' + 1 := ⟨f2 - 1, by omega⟩
      have bx := a2 e x g1 e1
      have bz := b2 e z g1 e2
      obtain ⟨o1, o2⟩ := fol_op (Fu := Fu) (ns := ns) (f := f2) (wd := wd) (aL := aL) (sk := sk2) (p := p2) (to := to) (k := k) (h := h) (by omega) g5 g6 hk hk2 ((g3 p2 (by omega) (by omega)).trans hs) (by omega) ((r2 h (by omega)).trans q1) r1 bx.1 bx.2 bz.1 bz.2
      refine ⟨fun v hv => ?_, fun hv => o2 hv⟩
      refine ⟨va_up sk2 h (i64 v), f2, va_up_at _ _ _, fun j hj => ?_, by omega, o1 v hv⟩
      rw [va_up_ne _ _ (by omega), r2 j (by omega), q2 j hj]
theorem XC.not {st : Nat → Int32} {p p1 w : Nat} {m : Mn} (h1 : XC st p p1 w m) (h01 : is01 m) (hs : st p1 = i32 ((9216 : Nat) : Int)) : XC st p (p1 + 1) w (mnot m) := by
  obtain ⟨a1, a2, a3, a4⟩ := h1
  refine ⟨by omega, h01.not.bd, a3, fun Fu ns to e wd sk aL h f g1 g2 g3 g4 g5 g6 g7 g8 => ?_⟩
  obtain ⟨s1, n1⟩ := a4 Fu ns to e wd sk aL h f g1 g2 (fun j j1 j2 => g3 j j1 (by omega)) (by omega) g5 g6 (by omega) (by omega)
  unfold mnot
  cases e1 : m e with
  | none => exact ⟨fun v hv => (by cases hv), fun _ => n1 e1⟩
  | some x =>
    obtain ⟨sk1, f1, q1, q2, q3, q4⟩ := s1 x e1
    rw [q4]
    obtain ⟨f1, rfl⟩ : ∃ f', f1 = f' + 1 := ⟨f1 - 1, by omega⟩
    refine ⟨fun v hv => ?_, fun hv => (by cases hv)⟩
    cases hv
    refine ⟨va_up sk1 h (i64 (1 - x)), f1, va_up_at _ _ _, fun j hj => ?_, by omega, ?_⟩
    · rw [va_up_ne _ _ (by omega), q2 j hj]
    · exact fol_not (by omega) g5 g6 ((g3 p1 (by omega) (by omega)).trans hs) (by omega) q1
theorem XC.jmp {st : Nat → Int32} {p p1 p2 w1 w2 k : Nat} {m1 m2 : Mn} (h1 : XC st p p1 w1 m1) (h01 : is01 m1) (h2 : XC st (p1 + 1) p2 w2 m2) (h02 : is01 m2) (hk : k = 10 ∨ k = 11) (hp : p2 ≤ 400) (hs : st p1 = i32 ((1024 * k + p2 : Nat) : Int)) : XC st p p2 (w1 + w2) (if k = 10 then mor m1 m2 else mand m1 m2) := by
  obtain ⟨a1, a2, a3, a4⟩ := h1
  obtain ⟨b1, b2, b3, b4⟩ := h2
  have h0 : is01 (if k = 10 then mor m1 m2 else mand m1 m2) := by
    by_cases c : k = 10
    · rw [if_pos c]; exact h02.or
    · rw [if_neg c]; exact h02.and
  refine ⟨by omega, h0.bd, by omega, fun Fu ns to e wd sk aL h f g1 g2 g3 g4 g5 g6 g7 g8 => ?_⟩
  obtain ⟨s1, n1⟩ := a4 Fu ns to e wd sk aL h f g1 g2 (fun j j1 j2 => g3 j j1 (by omega)) (by omega) g5 g6 (by omega) (by omega)
  have hm : (if k = 10 then mor m1 m2 else mand m1 m2) e = (m1 e).bind fun a => if (a = 1) = (k = 10) then some a else m2 e := by
    cases e1 : m1 e with
    | none => by_cases c : k = 10
              · rw [if_pos c]; unfold mor; rw [e1]; rfl
              · rw [if_neg c]; unfold mand; rw [e1]; rfl
    | some x =>
      have := h01 e x e1
      by_cases c : k = 10
      · rw [if_pos c]; unfold mor; rw [e1]
        rcases this with rfl | rfl <;> simp [c]
      · rw [if_neg c]; unfold mand; rw [e1]
        rcases this with rfl | rfl <;> simp [c]
  rw [hm]
  cases e1 : m1 e with
  | none => exact ⟨fun v hv => (by cases hv), fun _ => n1 e1⟩
  | some x =>
    obtain ⟨sk1, f1, q1, q2, q3, q4⟩ := s1 x e1
    rw [q4]
    obtain ⟨f1, rfl⟩ : ∃ f', f1 = f' + 1 := ⟨f1 - 1, by omega⟩
    rw [fol_jmp (k := k) (q := p2) (by omega) g5 g6 hk (by omega) hp ((g3 p1 (by omega) (by omega)).trans hs) (by omega) q1 (h01 e x e1)]
    show (∀ v, (if (x = 1) = (k = 10) then some x else m2 e) = some v → _) ∧ ((if (x = 1) = (k = 10) then some x else m2 e) = none → _)
    by_cases c : (x = 1) = (k = 10)
    · rw [if_pos c, if_pos c]
      refine ⟨fun v hv => ?_, fun hv => (by cases hv)⟩
      cases hv
      exact ⟨sk1, f1, q1, q2, by omega, rfl⟩
    · rw [if_neg c, if_neg c]
      obtain ⟨s2, n2⟩ := b4 Fu ns to e wd sk1 aL h f1 g1 g2 (fun j j1 j2 => g3 j (by omega) (by omega)) (by omega) g5 g6 (by omega) (by omega)
      refine ⟨fun v hv => ?_, fun hv => n2 hv⟩
      obtain ⟨sk2, f2, r1, r2, r3, r4⟩ := s2 v hv
      exact ⟨sk2, f2, r1, fun j hj => (r2 j hj).trans (q2 j hj), by omega, r4⟩
/-- a whole piece -/
theorem XC.run {st : Nat → Int32} {p p' w : Nat} {m : Mn} (h : XC st p p' w m) (hw : w ≤ 51) {Fu ns : Nat} (hFu : 6000 ≤ Fu) {e : Nat → Int} {wd aL : Nat → Int32} {sk : Nat → Int64} {H : Int32} (he : okE e) (hwd : ∀ j, j < 10 → wd j = i32 (e j)) (ha : ∀ j, p ≤ j → j < p' → aL j = st j) (hp : p' ≤ ns) (hn : ns ≤ 400) :
    Rt (fX0_follow_L Fu ns H wd sk aL (i32 (p : Int)) (i32 (p' : Int))) (fun r => (r.1 = 0 ∨ r.1 = 1) ∧ (∀ v, m e = some v → r.1 = 1 ∧ r.2.2 0 = i64 v) ∧ (m e = none → r.1 = 0)) := by
  obtain ⟨a1, a2, a3, a4⟩ := h
  obtain ⟨s1, n1⟩ := a4 Fu ns p' e wd sk aL 0 Fu he hwd ha (by omega) hp hn (by omega) (by omega)
  unfold fX0_follow_L
  cases e1 : m e with
  | none =>
    obtain ⟨h', sk', q⟩ := n1 e1
    exact ⟨_, q, Or.inl rfl, fun v hv => (by cases hv), fun _ => rfl⟩
  | some x =>
    obtain ⟨sk1, f1, q1, q2, q3, q4⟩ := s1 x e1
    obtain ⟨f1, rfl⟩ : ∃ f', f1 = f' + 1 := ⟨f1 - 1, by omega⟩
    refine ⟨(1, i32 1, sk1), ?_, Or.inr rfl, fun v hv => ?_, fun hv => (by cases hv)⟩
    · refine q4.trans ?_
      rw [fX0_follow_L_L8, if_pos (Int32.le_refl _)]
      rfl
    · cases hv; exact ⟨rfl, q1⟩
