/-! ===== steps of the reference: a piece and what it computes ===== -/
section REC
variable {Fu f to p lw h : Nat} {row : Nat → Int32} {set rs : Nat → Int64} {val : Int64} {o a : Int32}
theorem rk_dead {x2 x3 x4 : Int32} {h : Nat} (hh : x3 = i32 ((h + 1 : Nat) : Int)) (h9 : h < 400) : fX12_reckonAll_L10 Fu (f + 1) row (i32 (lw : Int)) set rs 1 val x2 x3 x4 = some (rs, 1, rs 0) := by
  have e : fX12_reckonAll_L245 Fu row (i32 (lw : Int)) set rs 1 val x3 = some (rs, 1, rs 0) := by
    unfold fX12_reckonAll_L245 fX12_reckonAll_L260
    rw [hh, if_neg (by rw [i32_litN 0, i32_le (by omega) (by omega) (by omega) (by omega)]; omega)]
    rw [show (0 : Int32) = i32 0 from rfl, gd_ok (by omega) (by omega) (by omega)]
    rfl
  rw [fX12_reckonAll_L10, e]
  by_cases c : x2 ≤ x4
  · rw [if_pos c]
  · rw [if_neg c, if_neg (by decide)]
theorem rk_num (hp : p < to) (ht : to ≤ 400) (hl : lw + 900 ≤ 5570) (hh : h < 400) (ho : row (lw + 98 + 2 * p) = i32 0) {n : Int} (ha : row (lw + 99 + 2 * p) = i32 n) (n1 : 0 ≤ n) (n2 : n ≤ 1000) :
    fX12_reckonAll_L10 Fu (f + 1) row (i32 (lw : Int)) set rs 0 val (i32 (to : Int)) (i32 (h : Int)) (i32 (p : Int)) = fX12_reckonAll_L10 Fu f row (i32 (lw : Int)) set (va_up rs h (i64 n)) 0 val (i32 (to : Int)) (i32 ((h + 1 : Nat) : Int)) (i32 ((p + 1 : Nat) : Int)) := by
  rw [fX12_reckonAll_L10]
  unfold fX12_reckonAll_L96
  simp (disch := omega) only [i32_lit, i32_add, i32_mul, i32_le, i32_nat, gd_ok, i32_eq]
  rw [show ((lw : Int) + 98 + 2 * (p : Int)).toNat = lw + 98 + 2 * p by omega, show ((lw : Int) + 98 + 2 * (p : Int) + 1).toNat = lw + 99 + 2 * p by omega, ho, ha]
  have t1 : ¬ ((to : Int) ≤ (p : Int)) := by omega
  simp (disch := omega) only [i32_le, i32_eq, i32_64, Int.toNat_natCast, t1, if_false]
  rfl
theorem rk_word (hp : p < to) (ht : to ≤ 400) (hl : lw + 900 ≤ 5570) (hh : h < 400) {k : Nat} (hk : 1 ≤ k) (hk2 : k ≤ 10) (ho : row (lw + 98 + 2 * p) = i32 (k : Int)) {v : Int} (hv : set k = i64 v) :
    fX12_reckonAll_L10 Fu (f + 1) row (i32 (lw : Int)) set rs 0 val (i32 (to : Int)) (i32 (h : Int)) (i32 (p : Int)) = fX12_reckonAll_L10 Fu f row (i32 (lw : Int)) set (va_up rs h (i64 v)) 0 val (i32 (to : Int)) (i32 ((h + 1 : Nat) : Int)) (i32 ((p + 1 : Nat) : Int)) := by
  rw [fX12_reckonAll_L10]
  unfold fX12_reckonAll_L96
  simp (disch := omega) only [i32_lit, i32_add, i32_mul, i32_le, i32_nat, gd_ok, i32_eq]
  rw [show ((lw : Int) + 98 + 2 * (p : Int)).toNat = lw + 98 + 2 * p by omega, ho]
  have t1 : ¬ ((to : Int) ≤ (p : Int)) := by omega
  have t2 : ¬ (20 : Int) ≤ (k : Int) := by omega
  have t3 : ¬ (k : Int) = 0 := by omega
  simp (disch := omega) only [i32_le, i32_eq, Int.toNat_natCast, i32_nat, gd_ok, hv, t1, t2, t3, if_false]
  rfl
theorem rk_not (hp : p < to) (ht : to ≤ 400) (hl : lw + 900 ≤ 5570) (hh : h < 400) (ho : row (lw + 98 + 2 * p) = i32 27) {v : Int} (hv : rs h = i64 v) :
    fX12_reckonAll_L10 Fu (f + 1) row (i32 (lw : Int)) set rs 0 val (i32 (to : Int)) (i32 ((h + 1 : Nat) : Int)) (i32 (p : Int)) = fX12_reckonAll_L10 Fu f row (i32 (lw : Int)) set (va_up rs h (i64 (1 - v))) 0 val (i32 (to : Int)) (i32 ((h + 1 : Nat) : Int)) (i32 ((p + 1 : Nat) : Int)) := by
  rw [fX12_reckonAll_L10, i32_s1]
  simp (disch := omega) only [i32_lit, i32_add, i32_mul, i32_le, i32_nat, gd_ok, i32_eq]
  rw [show ((lw : Int) + 98 + 2 * (p : Int)).toNat = lw + 98 + 2 * p by omega, ho]
  have t1 : ¬ ((to : Int) ≤ (p : Int)) := by omega
  simp (disch := omega) only [i32_le, i32_eq, Int.toNat_natCast, hv, i64_lit, i64_sub, t1, if_false]
  rfl
theorem rk_jmp {q k : Nat} (hp : p < to) (ht : to ≤ 400) (hl : lw + 900 ≤ 5570) (hh : h < 400) (hk : k = 28 ∨ k = 29) (ho : row (lw + 98 + 2 * p) = i32 (k : Int)) (ha : row (lw + 99 + 2 * p) = i32 (q : Int)) {v : Int} (hv : rs h = i64 v) (v01 : v = 0 ∨ v = 1) :
    fX12_reckonAll_L10 Fu (f + 1) row (i32 (lw : Int)) set rs 0 val (i32 (to : Int)) (i32 ((h + 1 : Nat) : Int)) (i32 (p : Int)) = if (v = 1) = (k = 29) then fX12_reckonAll_L10 Fu f row (i32 (lw : Int)) set rs 0 val (i32 (to : Int)) (i32 ((h + 1 : Nat) : Int)) (i32 (q : Int)) else fX12_reckonAll_L10 Fu f row (i32 (lw : Int)) set rs 0 val (i32 (to : Int)) (i32 (h : Int)) (i32 ((p + 1 : Nat) : Int)) := by
  rw [fX12_reckonAll_L10, i32_s1]
  unfold fX12_reckonAll_L228
  simp (disch := omega) only [i32_lit, i32_neg, i32_add, i32_mul, i32_le, i32_nat, gd_ok, i32_eq]
  rw [show ((lw : Int) + 98 + 2 * (p : Int)).toNat = lw + 98 + 2 * p by omega, show ((lw : Int) + 98 + 2 * (p : Int) + 1).toNat = lw + 99 + 2 * p by omega, ho, ha, show ((h + 1 : Nat) : Int) + -1 = (h : Int) by omega, show (p : Int) + 1 = ((p + 1 : Nat) : Int) by omega]
  have t1 : ¬ ((to : Int) ≤ (p : Int)) := by omega
  have t2 : (20 : Int) ≤ (k : Int) := by omega
  have t3 : (27 : Int) ≤ (k : Int) := by omega
  have t4 : ¬ (k : Int) = 27 := by omega
  simp (disch := omega) only [i32_le, i32_eq, Int.toNat_natCast, hv, i64_lit, t1, t2, t3, t4, if_false, if_true]
  rcases v01 with rfl | rfl <;> rcases hk with rfl | rfl <;> rfl
theorem v_reckon {k : Nat} {x z : Int} (hk : 2 ≤ k) (hk2 : k ≤ 8) (a1 : -1000000000 ≤ x) (a2 : x ≤ 1000000000) (b1 : -1000000000 ≤ z) (b2 : z ≤ 1000000000) :
    ∃ w br : Int, -2000000000000000000 ≤ w ∧ w ≤ 2000000000000000000 ∧ fX12_reckon 0 (i32 ((k + 18 : Nat) : Int)) (i64 x) (i64 z) = some (i64 w, i32 br) ∧ (br = 0 ∧ opv k x z = lim w ∨ br = 1 ∧ opv k x z = none) := by
  have hm := mulB a1 a2 b1 b2
  have ht := tdivB (b := z) a1 a2
  have hk' : k = 2 ∨ k = 3 ∨ k = 4 ∨ k = 5 ∨ k = 6 ∨ k = 7 ∨ k = 8 := by omega
  unfold fX12_reckon fX12_reckon_L68
  rcases hk' with rfl | rfl | rfl | rfl | rfl | rfl | rfl
  · exact ⟨x + z, 0, by omega, by omega, by rw [← i64_add]; rfl, Or.inl ⟨rfl, rfl⟩⟩
  · exact ⟨x - z, 0, by omega, by omega, by rw [← i64_sub]; rfl, Or.inl ⟨rfl, rfl⟩⟩
  · exact ⟨x * z, 0, by omega, by omega, by rw [← i64_mul]; rfl, Or.inl ⟨rfl, rfl⟩⟩
  · by_cases c : z = 0
    · subst c
      exact ⟨0, 1, by omega, by omega, rfl, Or.inr ⟨rfl, rfl⟩⟩
    · refine ⟨x.tdiv z, 0, by omega, by omega, ?_, Or.inl ⟨rfl, ?_⟩⟩
      · have e : ¬ i64 z = 0 := by rw [i64_litN 0, i64_eq (by omega) (by omega) (by omega) (by omega)]; exact c
        rw [if_neg (show ¬ i32 ((5 + 18 : Nat) : Int) = 20 by decide), if_neg (show ¬ i32 ((5 + 18 : Nat) : Int) = 21 by decide), if_neg (show ¬ i32 ((5 + 18 : Nat) : Int) = 22 by decide), if_pos (show i32 ((5 + 18 : Nat) : Int) = 23 from rfl), if_neg e, gb_0, if_pos rfl, gzl_in e, i64_tdiv a1 a2 b1 b2]
        rfl
      · show (if z = 0 then none else lim (x.tdiv z)) = _
        rw [if_neg c]
  · by_cases c : x < z
    · refine ⟨1, 0, by omega, by omega, ?_, Or.inl ⟨rfl, ?_⟩⟩
      · have e : ¬ i64 z ≤ i64 x := by rw [i64_le (by omega) (by omega) (by omega) (by omega)]; omega
        rw [if_neg (show ¬ i32 ((6 + 18 : Nat) : Int) = 20 by decide), if_neg (show ¬ i32 ((6 + 18 : Nat) : Int) = 21 by decide), if_neg (show ¬ i32 ((6 + 18 : Nat) : Int) = 22 by decide), if_neg (show ¬ i32 ((6 + 18 : Nat) : Int) = 23 by decide), if_pos (show i32 ((6 + 18 : Nat) : Int) = 24 from rfl), if_neg e]; rfl
      · show some (if x < z then 1 else 0) = _
        rw [if_pos c, lim_1]
    · refine ⟨0, 0, by omega, by omega, ?_, Or.inl ⟨rfl, ?_⟩⟩
      · have e : i64 z ≤ i64 x := by rw [i64_le (by omega) (by omega) (by omega) (by omega)]; omega
        rw [if_neg (show ¬ i32 ((6 + 18 : Nat) : Int) = 20 by decide), if_neg (show ¬ i32 ((6 + 18 : Nat) : Int) = 21 by decide), if_neg (show ¬ i32 ((6 + 18 : Nat) : Int) = 22 by decide), if_neg (show ¬ i32 ((6 + 18 : Nat) : Int) = 23 by decide), if_pos (show i32 ((6 + 18 : Nat) : Int) = 24 from rfl), if_pos e]; rfl
      · show some (if x < z then 1 else 0) = _
        rw [if_neg c, lim_0]
  · by_cases c : z < x
    · refine ⟨1, 0, by omega, by omega, ?_, Or.inl ⟨rfl, ?_⟩⟩
      · have e : ¬ i64 x ≤ i64 z := by rw [i64_le (by omega) (by omega) (by omega) (by omega)]; omega
        rw [if_neg (show ¬ i32 ((7 + 18 : Nat) : Int) = 20 by decide), if_neg (show ¬ i32 ((7 + 18 : Nat) : Int) = 21 by decide), if_neg (show ¬ i32 ((7 + 18 : Nat) : Int) = 22 by decide), if_neg (show ¬ i32 ((7 + 18 : Nat) : Int) = 23 by decide), if_neg (show ¬ i32 ((7 + 18 : Nat) : Int) = 24 by decide), if_pos (show i32 ((7 + 18 : Nat) : Int) = 25 from rfl), if_neg e]; rfl
      · show some (if z < x then 1 else 0) = _
        rw [if_pos c, lim_1]
    · refine ⟨0, 0, by omega, by omega, ?_, Or.inl ⟨rfl, ?_⟩⟩
      · have e : i64 x ≤ i64 z := by rw [i64_le (by omega) (by omega) (by omega) (by omega)]; omega
        rw [if_neg (show ¬ i32 ((7 + 18 : Nat) : Int) = 20 by decide), if_neg (show ¬ i32 ((7 + 18 : Nat) : Int) = 21 by decide), if_neg (show ¬ i32 ((7 + 18 : Nat) : Int) = 22 by decide), if_neg (show ¬ i32 ((7 + 18 : Nat) : Int) = 23 by decide), if_neg (show ¬ i32 ((7 + 18 : Nat) : Int) = 24 by decide), if_pos (show i32 ((7 + 18 : Nat) : Int) = 25 from rfl), if_pos e]; rfl
      · show some (if z < x then 1 else 0) = _
        rw [if_neg c, lim_0]
  · by_cases c : x = z
    · refine ⟨1, 0, by omega, by omega, ?_, Or.inl ⟨rfl, ?_⟩⟩
      · rw [if_neg (show ¬ i32 ((8 + 18 : Nat) : Int) = 20 by decide), if_neg (show ¬ i32 ((8 + 18 : Nat) : Int) = 21 by decide), if_neg (show ¬ i32 ((8 + 18 : Nat) : Int) = 22 by decide), if_neg (show ¬ i32 ((8 + 18 : Nat) : Int) = 23 by decide), if_neg (show ¬ i32 ((8 + 18 : Nat) : Int) = 24 by decide), if_neg (show ¬ i32 ((8 + 18 : Nat) : Int) = 25 by decide), c, if_pos rfl]; rfl
      · show some (if x = z then 1 else 0) = _
        rw [if_pos c, lim_1]
    · refine ⟨0, 0, by omega, by omega, ?_, Or.inl ⟨rfl, ?_⟩⟩
      · have e : ¬ i64 x = i64 z := by rw [i64_eq (by omega) (by omega) (by omega) (by omega)]; exact c
        rw [if_neg (show ¬ i32 ((8 + 18 : Nat) : Int) = 20 by decide), if_neg (show ¬ i32 ((8 + 18 : Nat) : Int) = 21 by decide), if_neg (show ¬ i32 ((8 + 18 : Nat) : Int) = 22 by decide), if_neg (show ¬ i32 ((8 + 18 : Nat) : Int) = 23 by decide), if_neg (show ¬ i32 ((8 + 18 : Nat) : Int) = 24 by decide), if_neg (show ¬ i32 ((8 + 18 : Nat) : Int) = 25 by decide), if_neg e]; rfl
      · show some (if x = z then 1 else 0) = _
        rw [if_neg c, lim_0]
theorem rk_op {k : Nat} (hp : p < to) (ht : to ≤ 400) (hl : lw + 900 ≤ 5570) (hh : h + 2 ≤ 400) (hk : 2 ≤ k) (hk2 : k ≤ 8) (ho : row (lw + 98 + 2 * p) = i32 ((k + 18 : Nat) : Int)) {x z : Int} (hx : rs h = i64 x) (hz : rs (h + 1) = i64 z) (a1 : -1000000000 ≤ x) (a2 : x ≤ 1000000000) (b1 : -1000000000 ≤ z) (b2 : z ≤ 1000000000) :
    (∀ v, opv k x z = some v → fX12_reckonAll_L10 Fu (f + 2) row (i32 (lw : Int)) set rs 0 val (i32 (to : Int)) (i32 ((h + 2 : Nat) : Int)) (i32 (p : Int)) = fX12_reckonAll_L10 Fu (f + 1) row (i32 (lw : Int)) set (va_up rs h (i64 v)) 0 val (i32 (to : Int)) (i32 ((h + 1 : Nat) : Int)) (i32 ((p + 1 : Nat) : Int))) ∧ (opv k x z = none → ∃ rs' v', fX12_reckonAll_L10 Fu (f + 2) row (i32 (lw : Int)) set rs 0 val (i32 (to : Int)) (i32 ((h + 2 : Nat) : Int)) (i32 (p : Int)) = some (rs', 1, v')) := by
  obtain ⟨w, br, w1, w2, e1, e2⟩ := v_reckon hk hk2 a1 a2 b1 b2
  have body : fX12_reckonAll_L10 Fu (f + 2) row (i32 (lw : Int)) set rs 0 val (i32 (to : Int)) (i32 ((h + 2 : Nat) : Int)) (i32 (p : Int)) = if br = 0 ∧ -1000000000 ≤ w ∧ w ≤ 1000000000 then fX12_reckonAll_L10 Fu (f + 1) row (i32 (lw : Int)) set (va_up rs h (i64 w)) 0 val (i32 (to : Int)) (i32 ((h + 1 : Nat) : Int)) (i32 ((p + 1 : Nat) : Int)) else fX12_reckonAll_L10 Fu (f + 1) row (i32 (lw : Int)) set (va_up rs h (i64 w)) 1 val (i32 (to : Int)) (i32 ((h + 1 : Nat) : Int)) (i32 ((p + 1 : Nat) : Int)) := by
    have g1 : i32 ((h + 2 : Nat) : Int) + (-1 : Int32) = i32 ((h + 1 : Nat) : Int) := by rw [show (-1 : Int32) = i32 (-1) from rfl, i32_add]; congr 1; omega
    have g2 : i32 ((h + 1 : Nat) : Int) - 1 = i32 (h : Int) := i32_s1
    have g3 : i32 ((h + 2 : Nat) : Int) - 1 = i32 ((h + 1 : Nat) : Int) := i32_s1
    rw [show f + 2 = (f + 1) + 1 from rfl, fX12_reckonAll_L10, g1, g2, g3]
    unfold fX12_reckonAll_L174
    simp (disch := omega) only [i32_lit, i32_add, i32_mul, i32_le, i32_nat, gd_ok, i32_eq]
    rw [show ((lw : Int) + 98 + 2 * (p : Int)).toNat = lw + 98 + 2 * p by omega, ho]
    simp only [Int.toNat_natCast, hx, hz]
    rw [show (i32 0 : Int32) = 0 from rfl, e1]
    have t1 : ¬ ((to : Int) ≤ (p : Int)) := by omega
    have t2 : (20 : Int) ≤ ((k + 18 : Nat) : Int) := by omega
    have t3 : ¬ (27 : Int) ≤ ((k + 18 : Nat) : Int) := by omega
    simp (disch := omega) only [i32_lit, i32_le, i32_eq, Option.bind_some, va_up_at, i64_lit, i64_neg, v_in, t1, t2, t3, if_false, if_true]
    rw [show (p : Int) + 1 = ((p + 1 : Nat) : Int) by omega]
    rcases e2 with ⟨rfl, -⟩ | ⟨rfl, -⟩
    · rw [if_pos rfl]
      by_cases c : -1000000000 ≤ w ∧ w ≤ 1000000000
      · have q : ¬ bI (-1000000000 ≤ w ∧ w ≤ 1000000000) = i32 0 := by rw [bI_0']; exact fun q => q c
        rw [if_neg q, if_pos ⟨rfl, c⟩]; exact gb_0
      · have q : bI (-1000000000 ≤ w ∧ w ≤ 1000000000) = i32 0 := by rw [bI_0']; exact c
        rw [if_pos q, if_neg (fun q => c q.2)]; exact gb_1
    · rw [if_neg (by decide), if_neg (fun q => by omega)]; exact gb_1
  rw [body]
  by_cases c : br = 0 ∧ -1000000000 ≤ w ∧ w ≤ 1000000000
  · rw [if_pos c]
    have e3 : opv k x z = some w := by
      rcases e2 with ⟨-, q⟩ | ⟨q, -⟩
      · rw [q]; unfold lim; rw [if_pos c.2]
      · omega
    rw [e3]
    exact ⟨fun v hv => (by cases hv; rfl), fun hv => (by cases hv)⟩
  · rw [if_neg c]
    have e3 : opv k x z = none := by
      rcases e2 with ⟨q0, q⟩ | ⟨-, q⟩
      · rw [q]; unfold lim; rw [if_neg (fun q2 => c ⟨q0, q2⟩)]
      · exact q
    rw [e3]
    exact ⟨fun v hv => (by cases hv), fun _ => ⟨_, _, rk_dead rfl (by omega)⟩⟩
end REC
def MC (op ar : Nat → Int32) (p p' w : Nat) (m : Mn) : Prop :=
  p < p' ∧ bdM m ∧ 1 ≤ w ∧
  ∀ (Fu lw to : Nat) (e : Nat → Int) (set rs : Nat → Int64) (row : Nat → Int32) (val : Int64) (h f : Nat), okE e → (∀ j, j < 10 → set (j + 1) = i64 (e j)) → (∀ j, p ≤ j → j < p' → row (lw + 98 + 2 * j) = op j ∧ row (lw + 99 + 2 * j) = ar j) → p' ≤ to → to ≤ 400 → lw + 900 ≤ 5570 → h + w ≤ 399 → p' - p < f →
   (∀ v, m e = some v → ∃ rs' f', rs' h = i64 v ∧ (∀ j, j < h → rs' j = rs j) ∧ f ≤ f' + (p' - p) ∧ fX12_reckonAll_L10 Fu f row (i32 (lw : Int)) set rs 0 val (i32 (to : Int)) (i32 (h : Int)) (i32 (p : Int)) = fX12_reckonAll_L10 Fu f' row (i32 (lw : Int)) set rs' 0 val (i32 (to : Int)) (i32 ((h + 1 : Nat) : Int)) (i32 (p' : Int))) ∧
   (m e = none → ∃ rs' v', fX12_reckonAll_L10 Fu f row (i32 (lw : Int)) set rs 0 val (i32 (to : Int)) (i32 (h : Int)) (i32 (p : Int)) = some (rs', 1, v'))
theorem MC.same {op ar op' ar' : Nat → Int32} {p p' w : Nat} {m : Mn} (h : MC op ar p p' w m) (hs : ∀ j, p ≤ j → j < p' → op' j = op j ∧ ar' j = ar j) : MC op' ar' p p' w m := by
  obtain ⟨h1, h2, h3, h4⟩ := h
  refine ⟨h1, h2, h3, fun Fu lw to e set rs row val h f g1 g2 g3 g4 g5 g6 g7 g8 => ?_⟩
  exact h4 Fu lw to e set rs row val h f g1 g2 (fun j j1 j2 => ⟨(g3 j j1 j2).1.trans (hs j j1 j2).1, (g3 j j1 j2).2.trans (hs j j1 j2).2⟩) g4 g5 g6 g7 g8
theorem MC.wider {op ar : Nat → Int32} {p p' w w' : Nat} {m : Mn} (h : MC op ar p p' w m) (hw : w ≤ w') : MC op ar p p' w' m := by
  obtain ⟨h1, h2, h3, h4⟩ := h
  refine ⟨h1, h2, by omega, fun Fu lw to e set rs row val h f g1 g2 g3 g4 g5 g6 g7 g8 => ?_⟩
  exact h4 Fu lw to e set rs row val h f g1 g2 g3 g4 g5 g6 (by omega) g8
theorem MC.num {op ar : Nat → Int32} {p a : Nat} (ha : a ≤ 1000) (ho : op p = i32 0) (hs : ar p = i32 (a : Int)) : MC op ar p (p + 1) 1 (fun _ => some (a : Int)) := by
  refine ⟨by omega, fun e v _ h => by cases h; omega, by omega, fun Fu lw to e set rs row val h f g1 g2 g3 g4 g5 g6 g7 g8 => ⟨fun v hv => ?_, fun hv => (by cases hv)⟩⟩
  cases hv
  obtain ⟨f, rfl⟩ : ∃ f', f = f' + 1 := ⟨f - 1, by omega⟩
  have q := g3 p (by omega) (by omega)
  refine ⟨va_up rs h (i64 (a : Int)), f, va_up_at _ _ _, fun j hj => va_up_ne _ _ (by omega), by omega, ?_⟩
  exact rk_num (by omega) g5 g6 (by omega) (q.1.trans ho) (q.2.trans hs) (by omega) (by omega)
theorem MC.word {op ar : Nat → Int32} {p a : Nat} (ha : a < 10) (ho : op p = i32 ((a + 1 : Nat) : Int)) : MC op ar p (p + 1) 1 (fun e => some (e a)) := by
  refine ⟨by omega, fun e v he h => (by cases h; exact he a ha), by omega, fun Fu lw to e set rs row val h f g1 g2 g3 g4 g5 g6 g7 g8 => ⟨fun v hv => ?_, fun hv => (by cases hv)⟩⟩
  cases hv
  obtain ⟨f, rfl⟩ : ∃ f', f = f' + 1 := ⟨f - 1, by omega⟩
  have q := g3 p (by omega) (by omega)
  refine ⟨va_up rs h (i64 (e a)), f, va_up_at _ _ _, fun j hj => va_up_ne _ _ (by omega), by omega, ?_⟩
  exact rk_word (k := a + 1) (by omega) g5 g6 (by omega) (by omega) (by omega) (q.1.trans ho) (g2 a ha)
theorem MC.op {op ar : Nat → Int32} {p p1 p2 w1 w2 k : Nat} {m1 m2 : Mn} (h1 : MC op ar p p1 w1 m1) (h2 : MC op ar p1 p2 w2 m2) (hk : 2 ≤ k) (hk2 : k ≤ 8) (hs : op p2 = i32 ((k + 18 : Nat) : Int)) : MC op ar p (p2 + 1) (w1 + w2) (mop k m1 m2) := by
  obtain ⟨a1, a2, a3, a4⟩ := h1
  obtain ⟨b1, b2, b3, b4⟩ := h2
  refine ⟨by omega, mop_bd, by omega, fun Fu lw to e set rs row val h f g1 g2 g3 g4 g5 g6 g7 g8 => ?_⟩
  obtain ⟨s1, n1⟩ := a4 Fu lw to e set rs row val h f g1 g2 (fun j j1 j2 => g3 j j1 (by omega)) (by omega) g5 g6 (by omega) (by omega)
  unfold mop
  cases e1 : m1 e with
  | none => exact ⟨fun v hv => (by cases hv), fun _ => n1 e1⟩
  | some x =>
    obtain ⟨rs1, f1, q1, q2, q3, q4⟩ := s1 x e1
    obtain ⟨s2, n2⟩ := b4 Fu lw to e set rs1 row val (h + 1) f1 g1 g2 (fun j j1 j2 => g3 j (by omega) (by omega)) (by omega) g5 g6 (by omega) (by omega)
    rw [q4]
    cases e2 : m2 e with
    | none => exact ⟨fun v hv => (by cases hv), fun _ => n2 e2⟩
    | some z =>
      obtain ⟨rs2, f2, r1, r2, r3, r4⟩ := s2 z e2
      rw [r4]
      obtain ⟨f2, rfl⟩ : ∃ f', f2 = f' + 2 := ⟨f2 - 2, by omega⟩
      have bx := a2 e x g1 e1
      have bz := b2 e z g1 e2
      obtain ⟨o1, o2⟩ := rk_op (Fu := Fu) (f := f2) (set := set) (val := val) (rs := rs2) (row := row) (lw := lw) (p := p2) (to := to) (k := k) (h := h) (by omega) g5 g6 (by omega) hk hk2 ((g3 p2 (by omega) (by omega)).1.trans hs) ((r2 h (by omega)).trans q1) r1 bx.1 bx.2 bz.1 bz.2
      refine ⟨fun v hv => ?_, fun hv => o2 hv⟩
      refine ⟨va_up rs2 h (i64 v), f2 + 1, va_up_at _ _ _, fun j hj => ?_, by omega, o1 v hv⟩
      rw [va_up_ne _ _ (by omega), r2 j (by omega), q2 j hj]
theorem MC.not {op ar : Nat → Int32} {p p1 w : Nat} {m : Mn} (h1 : MC op ar p p1 w m) (h01 : is01 m) (hs : op p1 = i32 27) : MC op ar p (p1 + 1) w (mnot m) := by
  obtain ⟨a1, a2, a3, a4⟩ := h1
  refine ⟨by omega, h01.not.bd, a3, fun Fu lw to e set rs row val h f g1 g2 g3 g4 g5 g6 g7 g8 => ?_⟩
  obtain ⟨s1, n1⟩ := a4 Fu lw to e set rs row val h f g1 g2 (fun j j1 j2 => g3 j j1 (by omega)) (by omega) g5 g6 (by omega) (by omega)
  unfold mnot
  cases e1 : m e with
  | none => exact ⟨fun v hv => (by cases hv), fun _ => n1 e1⟩
  | some x =>
    obtain ⟨rs1, f1, q1, q2, q3, q4⟩ := s1 x e1
    rw [q4]
    obtain ⟨f1, rfl⟩ : ∃ f', f1 = f' + 1 := ⟨f1 - 1, by omega⟩
    refine ⟨fun v hv => ?_, fun hv => (by cases hv)⟩
    cases hv
    refine ⟨va_up rs1 h (i64 (1 - x)), f1, va_up_at _ _ _, fun j hj => ?_, by omega, ?_⟩
    · rw [va_up_ne _ _ (by omega), q2 j hj]
    · exact rk_not (by omega) g5 g6 (by omega) ((g3 p1 (by omega) (by omega)).1.trans hs) q1
theorem MC.jmp {op ar : Nat → Int32} {p p1 p2 w1 w2 k : Nat} {m1 m2 : Mn} (h1 : MC op ar p p1 w1 m1) (h01 : is01 m1) (h2 : MC op ar (p1 + 1) p2 w2 m2) (h02 : is01 m2) (hk : k = 28 ∨ k = 29) (hs : op p1 = i32 (k : Int)) (hs2 : ar p1 = i32 (p2 : Int)) : MC op ar p p2 (w1 + w2) (if k = 29 then mor m1 m2 else mand m1 m2) := by
  obtain ⟨a1, a2, a3, a4⟩ := h1
  obtain ⟨b1, b2, b3, b4⟩ := h2
  have h0 : is01 (if k = 29 then mor m1 m2 else mand m1 m2) := by
    by_cases c : k = 29
    · rw [if_pos c]; exact h02.or
    · rw [if_neg c]; exact h02.and
  refine ⟨by omega, h0.bd, by omega, fun Fu lw to e set rs row val h f g1 g2 g3 g4 g5 g6 g7 g8 => ?_⟩
  obtain ⟨s1, n1⟩ := a4 Fu lw to e set rs row val h f g1 g2 (fun j j1 j2 => g3 j j1 (by omega)) (by omega) g5 g6 (by omega) (by omega)
  have hm : (if k = 29 then mor m1 m2 else mand m1 m2) e = (m1 e).bind fun a => if (a = 1) = (k = 29) then some a else m2 e := by
    cases e1 : m1 e with
    | none => by_cases c : k = 29
              · rw [if_pos c]; unfold mor; rw [e1]; rfl
              · rw [if_neg c]; unfold mand; rw [e1]; rfl
    | some x =>
      have := h01 e x e1
      by_cases c : k = 29
      · rw [if_pos c]; unfold mor; rw [e1]
        rcases this with rfl | rfl <;> simp [c]
      · rw [if_neg c]; unfold mand; rw [e1]
        rcases this with rfl | rfl <;> simp [c]
  rw [hm]
  cases e1 : m1 e with
  | none => exact ⟨fun v hv => (by cases hv), fun _ => n1 e1⟩
  | some x =>
    obtain ⟨rs1, f1, q1, q2, q3, q4⟩ := s1 x e1
    rw [q4]
    obtain ⟨f1, rfl⟩ : ∃ f', f1 = f' + 1 := ⟨f1 - 1, by omega⟩
    have q := g3 p1 (by omega) (by omega)
    rw [rk_jmp (k := k) (q := p2) (by omega) g5 g6 (by omega) hk (q.1.trans hs) (q.2.trans hs2) q1 (h01 e x e1)]
    show (∀ v, (if (x = 1) = (k = 29) then some x else m2 e) = some v → _) ∧ ((if (x = 1) = (k = 29) then some x else m2 e) = none → _)
    by_cases c : (x = 1) = (k = 29)
    · rw [if_pos c, if_pos c]
      refine ⟨fun v hv => ?_, fun hv => (by cases hv)⟩
      cases hv
      exact ⟨rs1, f1, q1, q2, by omega, rfl⟩
    · rw [if_neg c, if_neg c]
      obtain ⟨s2, n2⟩ := b4 Fu lw to e set rs1 row val h f1 g1 g2 (fun j j1 j2 => g3 j (by omega) (by omega)) (by omega) g5 g6 (by omega) (by omega)
      refine ⟨fun v hv => ?_, fun hv => n2 hv⟩
      obtain ⟨rs2, f2, r1, r2, r3, r4⟩ := s2 v hv
      exact ⟨rs2, f2, r1, fun j hj => (r2 j hj).trans (q2 j hj), by omega, r4⟩
/-- a whole piece -/
theorem MC.run {op ar : Nat → Int32} {p p' w : Nat} {m : Mn} (h : MC op ar p p' w m) (hw : w ≤ 399) {Fu lw : Nat} (hFu : 6000 ≤ Fu) {e : Nat → Int} {row : Nat → Int32} {set rs : Nat → Int64} {br : Int32} {val : Int64} (he : okE e) (hset : ∀ j, j < 10 → set (j + 1) = i64 (e j)) (ha : ∀ j, p ≤ j → j < p' → row (lw + 98 + 2 * j) = op j ∧ row (lw + 99 + 2 * j) = ar j) (hp : p' ≤ 400) (hl : lw + 900 ≤ 5570) :
    Rt (fX12_reckonAll Fu row (i32 (lw : Int)) set rs br val (i32 (p : Int)) (i32 (p' : Int))) (fun r => (∀ v, m e = some v → r.2.1 = 0 ∧ r.2.2 = i64 v) ∧ (m e = none → r.2.1 = 1)) := by
  obtain ⟨a1, a2, a3, a4⟩ := h
  obtain ⟨s1, n1⟩ := a4 Fu lw p' e set rs row val 0 Fu he hset ha (by omega) hp hl (by omega) (by omega)
  unfold fX12_reckonAll
  cases e1 : m e with
  | none =>
    obtain ⟨h', v', q⟩ := n1 e1
    exact ⟨_, q, fun v hv => (by cases hv), fun _ => rfl⟩
  | some x =>
    obtain ⟨rs1, f1, q1, q2, q3, q4⟩ := s1 x e1
    obtain ⟨f1, rfl⟩ : ∃ f', f1 = f' + 1 := ⟨f1 - 1, by omega⟩
    refine ⟨(rs1, 0, rs1 0), ?_, fun v hv => ?_, fun hv => (by cases hv)⟩
    · refine q4.trans ?_
      rw [fX12_reckonAll_L10, if_pos (Int32.le_refl _)]
      rfl
    · cases hv; exact ⟨rfl, q1⟩
