/-! ===== votes: in how many ways, of a hundred each, so many of a list vote for side 0 ===== -/
def vt : List Int → Nat → Int
  | [], k => if k = 0 then 1 else 0
  | p :: L, k => vt L k * (100 - p) + (if k = 0 then 0 else vt L (k - 1) * p)
def sm (f : Nat → Int) (a : Nat) : Nat → Int
  | 0 => 0
  | n + 1 => sm f a n + f (a + n)
def al (L : List Int) (q : Nat) : Int := sm (vt L) q (9 - q)
def cl (t : Nat → Bool) (p : Nat → Int) : Nat → List Int
  | 0 => []
  | n + 1 => if t n then p n :: cl t p n else cl t p n
def bcn (s : Nat) : Nat → Nat
  | 0 => 0
  | n + 1 => bcn s n + (if s.testBit n then 1 else 0)
def okL (L : List Int) : Prop := ∀ p ∈ L, 0 ≤ p ∧ p ≤ 100
theorem vt_big : ∀ (L : List Int) (k : Nat), L.length < k → vt L k = 0
  | [], k, h => by
    have h : 0 < k := h
    show (if k = 0 then (1 : Int) else 0) = 0
    rw [if_neg (by omega)]
  | p :: L, k, h => by
    have h : L.length + 1 < k := h
    show vt L k * (100 - p) + (if k = 0 then 0 else vt L (k - 1) * p) = 0
    rw [vt_big L k (by omega), if_neg (by omega), vt_big L (k - 1) (by omega)]
    omega
theorem vt_nn : ∀ (L : List Int) (k : Nat), okL L → 0 ≤ vt L k
  | [], k, _ => by
    show (0 : Int) ≤ (if k = 0 then (1 : Int) else 0)
    split <;> omega
  | p :: L, k, h => by
    have hp := h p (List.mem_cons_self ..)
    have hL : okL L := fun x hx => h x (List.mem_cons_of_mem _ hx)
    show 0 ≤ vt L k * (100 - p) + (if k = 0 then 0 else vt L (k - 1) * p)
    have a := Int.mul_nonneg (vt_nn L k hL) (show 0 ≤ 100 - p by omega)
    by_cases c : k = 0
    · rw [if_pos c]; omega
    · rw [if_neg c]
      have b := Int.mul_nonneg (vt_nn L (k - 1) hL) hp.1
      omega
theorem sm_nn {f : Nat → Int} {a n : Nat} (h : ∀ k, 0 ≤ f k) : 0 ≤ sm f a n := by
  induction n with
  | zero => exact Int.le_refl 0
  | succ n ih => have := h (a + n); show 0 ≤ sm f a n + f (a + n); omega
theorem sm_ext {f g : Nat → Int} {a n : Nat} (h : ∀ k, a ≤ k → k < a + n → f k = g k) : sm f a n = sm g a n := by
  induction n with
  | zero => rfl
  | succ n ih =>
    show sm f a n + f (a + n) = sm g a n + g (a + n)
    rw [ih (fun k k1 k2 => h k k1 (by omega)), h (a + n) (by omega) (by omega)]
theorem sm_add (f : Nat → Int) (a n m : Nat) : sm f a (n + m) = sm f a n + sm f (a + n) m := by
  induction m with
  | zero => show sm f a n = sm f a n + 0; omega
  | succ m ih =>
    show sm f a (n + m) + f (a + (n + m)) = sm f a n + (sm f (a + n) m + f (a + n + m))
    rw [ih, show a + (n + m) = a + n + m by omega]; omega
theorem sm_zero {f : Nat → Int} {a n : Nat} (h : ∀ k, a ≤ k → f k = 0) : sm f a n = 0 := by
  induction n with
  | zero => rfl
  | succ n ih => show sm f a n + f (a + n) = 0; rw [ih, h (a + n) (by omega)]; rfl
theorem sm_lin (f g : Nat → Int) (c d : Int) (a n : Nat) : sm (fun k => f k * c + g k * d) a n = sm f a n * c + sm g a n * d := by
  induction n with
  | zero => show (0 : Int) = 0 * c + 0 * d; omega
  | succ n ih =>
    show sm (fun k => f k * c + g k * d) a n + (f (a + n) * c + g (a + n) * d) = (sm f a n + f (a + n)) * c + (sm g a n + g (a + n)) * d
    rw [ih, Int.add_mul, Int.add_mul]; omega
theorem sm_shift (f : Nat → Int) (a n : Nat) : sm (fun k => f (k - 1)) (a + 1) n = sm f a n := by
  induction n with
  | zero => rfl
  | succ n ih =>
    show sm (fun k => f (k - 1)) (a + 1) n + f (a + 1 + n - 1) = sm f a n + f (a + n)
    rw [ih, show a + 1 + n - 1 = a + n by omega]
theorem al_cut {L : List Int} {q n : Nat} (hL : L.length ≤ 8) (hn : L.length < q + n) : sm (vt L) q n = al L q := by
  unfold al
  have z : ∀ a m, L.length < a → sm (vt L) a m = 0 := fun a m ha => sm_zero (fun k hk => vt_big L k (by omega))
  by_cases c : n ≤ 9 - q
  · obtain ⟨m, hm⟩ : ∃ m, 9 - q = n + m := ⟨9 - q - n, by omega⟩
    rw [hm, sm_add, z (q + n) m (by omega)]; omega
  · obtain ⟨m, hm⟩ : ∃ m, n = (9 - q) + m := ⟨n - (9 - q), by omega⟩
    rw [hm, sm_add, z (q + (9 - q)) m (by omega)]; omega
/-- one vote more -/
theorem al_cons {L : List Int} {p : Int} {q : Nat} (hL : L.length ≤ 7) : al (p :: L) (q + 1) = al L (q + 1) * 100 + vt L q * p := by
  have e1 : al (p :: L) (q + 1) = sm (vt (p :: L)) (q + 1) 9 := (al_cut (by show L.length + 1 ≤ 8; omega) (by show L.length + 1 < q + 1 + 9; omega)).symm
  have e2 : al L (q + 1) = sm (vt L) (q + 1) 9 := (al_cut (by omega) (by omega)).symm
  have e3 : sm (vt (p :: L)) (q + 1) 9 = sm (fun k => vt L k * (100 - p) + vt L (k - 1) * p) (q + 1) 9 := by
    apply sm_ext
    intro k k1 k2
    show vt L k * (100 - p) + (if k = 0 then 0 else vt L (k - 1) * p) = _
    rw [if_neg (by omega)]
  have e4 : sm (vt L) q 9 = vt L q + sm (vt L) (q + 1) 8 := by
    have := sm_add (vt L) q 1 8
    rw [show 1 + 8 = 9 from rfl] at this
    rw [this]; show (0 + vt L (q + 0)) + _ = _; rw [Nat.add_zero]; omega
  have e5 : sm (vt L) (q + 1) 9 = sm (vt L) (q + 1) 8 := by
    show sm (vt L) (q + 1) 8 + vt L (q + 1 + 8) = _
    rw [vt_big L (q + 1 + 8) (by omega)]; omega
  rw [e1, e3, sm_lin (vt L) (fun k => vt L (k - 1)), sm_shift (vt L) q 9, e2, e4, ← e5]
  rw [Int.mul_sub, Int.add_mul]; omega
theorem vt_all : ∀ (L : List Int) (n : Nat), L.length < n → sm (vt L) 0 n = 100 ^ L.length
  | [], n, h => by
    obtain ⟨n, rfl⟩ : ∃ m, n = 1 + m := ⟨n - 1, by have : 0 < n := h; omega⟩
    rw [sm_add, sm_zero (a := 0 + 1) (fun k hk => vt_big [] k (by show 0 < k; omega))]
    rfl
  | p :: L, n, h => by
    have h : L.length + 1 < n := h
    obtain ⟨n, rfl⟩ : ∃ m, n = 1 + m := ⟨n - 1, by omega⟩
    have ih := vt_all L n (by omega)
    have ih1 := vt_all L (1 + n) (by omega)
    rw [sm_add] at ih1 ⊢
    have a0 : sm (vt (p :: L)) 0 1 = vt L 0 * (100 - p) := by
      show 0 + (vt L 0 * (100 - p) + 0) = _; omega
    have b0 : sm (vt L) 0 1 = vt L 0 := by show 0 + vt L 0 = _; omega
    have a1 : sm (vt (p :: L)) (0 + 1) n = sm (fun k => vt L k * (100 - p) + vt L (k - 1) * p) (0 + 1) n := by
      apply sm_ext
      intro k k1 k2
      show vt L k * (100 - p) + (if k = 0 then 0 else vt L (k - 1) * p) = _
      rw [if_neg (by omega)]
    rw [a0, a1, sm_lin (vt L) (fun k => vt L (k - 1)), sm_shift (vt L) 0 n, ih]
    rw [b0] at ih1
    have e : (vt L 0 + sm (vt L) (0 + 1) n) * (100 - p) = 100 ^ L.length * (100 - p) := by rw [ih1]
    rw [Int.add_mul] at e
    show _ = 100 ^ (L.length + 1)
    rw [Int.pow_succ, ← Int.add_assoc, e, Int.mul_sub]
    omega
theorem al_le {L : List Int} {q : Nat} (hL : okL L) (h8 : L.length ≤ 8) : 0 ≤ al L q ∧ al L q ≤ 100 ^ L.length := by
  refine ⟨sm_nn (fun k => vt_nn L k hL), ?_⟩
  have e := vt_all L (q + 9) (by omega)
  rw [sm_add] at e
  have z : sm (vt L) (0 + q) 9 = al L q := by rw [Nat.zero_add]; exact al_cut h8 (by omega)
  rw [z] at e
  have : 0 ≤ sm (vt L) 0 q := sm_nn (fun k => vt_nn L k hL)
  omega
theorem cl_len (t : Nat → Bool) (p : Nat → Int) : ∀ n, (cl t p n).length ≤ n := by
  intro n
  induction n with
  | zero => exact Nat.le_refl 0
  | succ n ih =>
    unfold cl
    split
    · show _ + 1 ≤ n + 1; omega
    · omega
theorem cl_ok {t : Nat → Bool} {p : Nat → Int} (h : ∀ b, 0 ≤ p b ∧ p b ≤ 100) : ∀ n, okL (cl t p n) := by
  intro n
  induction n with
  | zero => intro x hx; cases hx
  | succ n ih =>
    intro x hx
    unfold cl at hx
    split at hx
    · rcases List.mem_cons.mp hx with rfl | hx
      · exact h n
      · exact ih x hx
    · exact ih x hx
theorem cl_ext {t t' : Nat → Bool} {p p' : Nat → Int} : ∀ n, (∀ b, b < n → t b = t' b) → (∀ b, b < n → t b = true → p b = p' b) → cl t p n = cl t' p' n := by
  intro n
  induction n with
  | zero => intro _ _; rfl
  | succ n ih =>
    intro h1 h2
    unfold cl
    rw [ih (fun b hb => h1 b (by omega)) (fun b hb => h2 b (by omega)), ← h1 n (by omega)]
    split
    · rename_i c; rw [h2 n (by omega) c]
    · rfl
theorem cl_up {t : Nat → Bool} {p : Nat → Int} {n : Nat} : ∀ m, (∀ b, n ≤ b → t b = false) → cl t p (n + m) = cl t p n := by
  intro m h
  induction m with
  | zero => rfl
  | succ m ih =>
    show (if t (n + m) then p (n + m) :: cl t p (n + m) else cl t p (n + m)) = _
    rw [h (n + m) (by omega), ih]; rfl
theorem cl_cnt (s : Nat) (p : Nat → Int) : ∀ n, (cl s.testBit p n).length = bcn s n := by
  intro n
  induction n with
  | zero => rfl
  | succ n ih =>
    unfold cl bcn
    split
    · show _ + 1 = _; omega
    · omega
/-! the class's tally -/
theorem x_fillL {Fu Ln : Nat} (hLn : Ln ≤ 5000) (v : Int64) : ∀ (d k j : Nat) (a : Nat → Int64), j + d = Ln → d < k → ∃ a', fJ7_fill_d0a16_L6 Fu Ln k a v (i32 (j : Int)) (i32 (Ln : Int)) = some a' ∧ (∀ i, j ≤ i → i < Ln → a' i = v) ∧ (∀ i, i < j ∨ Ln ≤ i → a' i = a i) := by
  intro d
  induction d with
  | zero =>
    intro k j a h1 h2
    obtain ⟨k, rfl⟩ : ∃ k', k = k' + 1 := ⟨k - 1, by omega⟩
    refine ⟨a, ?_, fun i _ _ => by omega, fun i _ => rfl⟩
    show (if i32 (Ln : Int) ≤ i32 (j : Int) then some a else _) = _
    rw [if_pos]
    rw [i32_le (by omega) (by omega) (by omega) (by omega)]; omega
  | succ d ih =>
    intro k j a h1 h2
    obtain ⟨k, rfl⟩ : ∃ k', k = k' + 1 := ⟨k - 1, by omega⟩
    obtain ⟨a', e1, e2, e3⟩ := ih k (j + 1) (va_up a j v) (by omega) (by omega)
    refine ⟨a', ?_, fun i g1 g2 => ?_, fun i g => ?_⟩
    · show (if i32 (Ln : Int) ≤ i32 (j : Int) then some a else gd (i32 (j : Int)) Ln (fJ7_fill_d0a16_L6 Fu Ln k (va_up a (i32 (j : Int)).toNatClampNeg v) v (i32 (j : Int) + 1) (i32 (Ln : Int)))) = _
      rw [if_neg (by rw [i32_le (by omega) (by omega) (by omega) (by omega)]; omega), gd_ok (by omega) (by omega) (by omega), i32_nat (by omega) (by omega), i32_litN 1, i32_add]
      exact e1
    · by_cases e : i = j
      · subst e; rw [e3 i (by omega), va_up_at]
      · exact e2 i (by omega) g2
    · rw [e3 i (by omega), va_up_ne _ _ (by omega)]
/-- a tally holds the votes of a list -/
def RT (L : List Int) (vot : Int32) (ways : Nat → Int64) : Prop := L.length ≤ 8 ∧ vot = i32 (L.length : Int) ∧ ∀ k, k < 9 → ways k = i64 (vt L k)
theorem x_clear {Fu : Nat} (hFu : 6000 ≤ Fu) {vot : Int32} {a : Nat → Int64} : Rt (fX8_clear Fu vot a) (fun r => RT [] r.1 r.2) := by
  obtain ⟨a', e1, e2, -⟩ := x_fillL (Fu := Fu) (Ln := 9) (by omega) 0 9 Fu 0 a (by omega) (by omega)
  have e3 : fJ7_fill_d0a16 Fu 9 a 0 = some a' := e1
  unfold fX8_clear
  rw [e3]
  refine Rt.ret ⟨by show 0 ≤ 8; omega, rfl, fun k hk => ?_⟩
  show va_up a' 0 1 k = i64 (if k = 0 then 1 else 0)
  by_cases c : k = 0
  · subst c; rfl
  · rw [va_up_ne _ _ c, if_neg c, e2 k (by omega) hk]; rfl
theorem x_voteL {Fu : Nat} {L : List Int} {p : Int} (p1 : 0 ≤ p) (p2 : p ≤ 100) {vot : Int32} : ∀ (j f : Nat) (a : Nat → Int64), j < 9 → j < f → (∀ k, k ≤ j → a k = i64 (vt L k)) → (∀ k, k < 9 → j < k → a k = i64 (vt (p :: L) k)) → Rt (fX8_vote_L25 Fu f vot a (i32 p) (i32 (j : Int))) (fun r => r.1 = vot ∧ ∀ k, k < 9 → r.2 k = i64 (vt (p :: L) k)) := by
  have e100 : ((100 : Int32) - i32 p).toInt64 = i64 (100 - p) := by
    rw [i32_litN 100, i32_sub, i32_64 (by omega) (by omega)]; rfl
  have ep : (i32 p).toInt64 = i64 p := i32_64 (by omega) (by omega)
  intro j
  induction j with
  | zero =>
    intro f a _ hf h1 h2
    obtain ⟨f, rfl⟩ : ∃ f', f = f' + 1 := ⟨f - 1, by omega⟩
    rw [fX8_vote_L25, if_pos (by decide), gd9 (by decide) (by decide), gd9 (by decide) (by decide), e100]
    refine Rt.ret ⟨rfl, fun k hk => ?_⟩
    show va_up a 0 (a 0 * i64 (100 - p)) k = _
    by_cases c : k = 0
    · subst c
      rw [va_up_at, h1 0 (by omega), i64_mul]
      show i64 (vt L 0 * (100 - p)) = i64 (vt L 0 * (100 - p) + 0)
      rw [Int.add_zero]
    · rw [va_up_ne _ _ c]; exact h2 k hk (by omega)
  | succ j ih =>
    intro f a hj hf h1 h2
    obtain ⟨f, rfl⟩ : ∃ f', f = f' + 1 := ⟨f - 1, by omega⟩
    rw [fX8_vote_L25, if_neg (by rw [i32_litN 0, i32_le (by omega) (by omega) (by omega) (by omega)]; omega), i32_s1]
    rw [gd_ok (by omega) (by omega) (by omega), gd_ok (by omega) (by omega) (by omega), gd_ok (by omega) (by omega) (by omega), i32_nat (by omega) (by omega), i32_nat (by omega) (by omega), Int.toNat_natCast, Int.toNat_natCast, e100, ep, h1 (j + 1) (by omega), h1 j (by omega), i64_mul, i64_mul, i64_add]
    rw [show i32 ((j + 1 : Nat) : Int) + (-1 : Int32) = i32 (j : Int) by rw [show (-1 : Int32) = i32 (-1) from rfl, i32_add]; congr 1; omega]
    refine ih f _ (by omega) (by omega) (fun k hk => ?_) (fun k hk hk2 => ?_)
    · rw [va_up_ne _ _ (by omega)]; exact h1 k (by omega)
    · by_cases c : k = j + 1
      · subst c
        rw [va_up_at]
        show _ = i64 (vt L (j + 1) * (100 - p) + (if j + 1 = 0 then 0 else vt L (j + 1 - 1) * p))
        rw [if_neg (by omega)]; rfl
      · rw [va_up_ne _ _ c]; exact h2 k hk (by omega)
theorem x_vote {Fu : Nat} (hFu : 6000 ≤ Fu) {L : List Int} {p : Int} (p1 : 0 ≤ p) (p2 : p ≤ 100) {vot : Int32} {a : Nat → Int64} (h : RT L vot a) (hL : L.length ≤ 7) : Rt (fX8_vote Fu vot a (i32 p)) (fun r => RT (p :: L) r.1 r.2) := by
  obtain ⟨-, h2, h3⟩ := h
  subst h2
  unfold fX8_vote
  rw [if_pos (by rw [i32_litN 8, i32_lt (by omega) (by omega) (by omega) (by omega)]; omega), i32_p1]
  refine (x_voteL p1 p2 (L.length + 1) Fu a (by omega) (by omega) (fun k hk => h3 k (by omega)) (fun k hk hk2 => ?_)).mono (fun r hr => ⟨by show L.length + 1 ≤ 8; omega, hr.1, hr.2⟩)
  rw [h3 k hk, vt_big L k (by omega), vt_big (p :: L) k (by show L.length + 1 < k; omega)]
theorem x_just {L : List Int} {vot : Int32} {a : Nat → Int64} (h : RT L vot a) {q : Int} (q1 : -1 ≤ q) (q2 : q ≤ 8) : fX8_just vot a (i32 q) = some (i64 (if q < 0 then 0 else vt L q.toNat)) := by
  obtain ⟨h1, h2, h3⟩ := h
  subst h2
  unfold fX8_just fX8_just_L21
  simp (disch := omega) only [i32_lit, i32_lt, i32_nat]
  by_cases c : q < 0
  · rw [if_pos c, if_pos c]; rfl
  · rw [if_neg c, if_neg c]
    by_cases c2 : (L.length : Int) < q
    · rw [if_pos c2, vt_big L q.toNat (by omega)]; rfl
    · rw [if_neg c2, gd_ok (by omega) (by omega) (by omega), h3 q.toNat (by omega)]
theorem x_atLeastL {Fu : Nat} {L : List Int} {vot : Int32} {a : Nat → Int64} (h : RT L vot a) {q : Nat} : ∀ (d f n : Nat), q + n + d = L.length + 1 → d < f → fX8_atLeast_L9 Fu f vot a (i64 (sm (vt L) q n)) (i32 ((q + n : Nat) : Int)) = some (i64 (sm (vt L) q (n + d))) := by
  obtain ⟨h1, h2, h3⟩ := h
  subst h2
  intro d
  induction d with
  | zero =>
    intro f n hn hf
    obtain ⟨f, rfl⟩ : ∃ f', f = f' + 1 := ⟨f - 1, by omega⟩
    rw [fX8_atLeast_L9, if_pos (by rw [i32_lt (by omega) (by omega) (by omega) (by omega)]; omega)]; rfl
  | succ d ih =>
    intro f n hn hf
    obtain ⟨f, rfl⟩ : ∃ f', f = f' + 1 := ⟨f - 1, by omega⟩
    rw [fX8_atLeast_L9, if_neg (by rw [i32_lt (by omega) (by omega) (by omega) (by omega)]; omega), gd_ok (by omega) (by omega) (by omega), i32_nat (by omega) (by omega), Int.toNat_natCast, h3 (q + n) (by omega), i64_add, i32_p1]
    have := ih f (n + 1) (by omega) (by omega)
    rw [show n + 1 + d = n + (d + 1) by omega] at this
    exact this
theorem x_atLeast {Fu : Nat} (hFu : 6000 ≤ Fu) {L : List Int} {vot : Int32} {a : Nat → Int64} (h : RT L vot a) {q : Nat} (hq : q ≤ 8) : fX8_atLeast Fu vot a (i32 (q : Int)) = some (i64 (al L q)) := by
  unfold fX8_atLeast
  have e : (if (0 : Int32) < i32 (q : Int) then i32 (q : Int) else 0) = i32 (q : Int) := by
    simp (disch := omega) only [i32_lit, i32_lt]
    by_cases c : (0 : Int) < (q : Int)
    · rw [if_pos c]
    · rw [if_neg c]; congr 1; omega
  rw [e]
  have h1 := h.1
  by_cases c : q ≤ L.length
  · have := x_atLeastL (Fu := Fu) h (q := q) (L.length + 1 - q) Fu 0 (by omega) (by omega)
    rw [show 0 + (L.length + 1 - q) = L.length + 1 - q by omega, al_cut (n := L.length + 1 - q) h1 (by omega)] at this
    exact this
  · obtain ⟨h1, h2, h3⟩ := h
    subst h2
    obtain ⟨f, rfl⟩ : ∃ f', Fu = f' + 1 := ⟨Fu - 1, by omega⟩
    rw [fX8_atLeast_L9, if_pos (by rw [i32_lt (by omega) (by omega) (by omega) (by omega)]; omega)]
    unfold al
    rw [sm_zero (fun k hk => vt_big L k (by omega))]; rfl
/-! the reference's votes -/
theorem v_votesL {Fu : Nat} {row ch : Nat → Int32} {x1 x2 x3 x4 : Int32} {k36 : (Nat → Int32) → (Nat → Int32) → (Nat → Int64) → Int32 → Int32 → Int32 → Int32 → Option ((Nat → Int64))} {L : List Int} {p : Int} (p1 : 0 ≤ p) (p2 : p ≤ 100) {P : (Nat → Int64) → Prop} (hk : ∀ a : Nat → Int64, (∀ k, k < 9 → a k = i64 (vt (p :: L) k)) → Rt (k36 row ch a x1 x2 x3 (x4 + 1)) P) :
    ∀ (j f : Nat) (a : Nat → Int64), j ≤ 9 → j < f → (∀ k, k < j → a k = i64 (vt L k)) → (∀ k, k < 9 → j ≤ k → a k = i64 (vt (p :: L) k)) → Rt (fX12_countVotes_L109 Fu k36 f row ch a x1 x2 x3 x4 (i32 p) (i32 ((j : Int) - 1))) P := by
  have e100 : ((100 : Int32) - i32 p).toInt64 = i64 (100 - p) := by
    rw [i32_litN 100, i32_sub, i32_64 (by omega) (by omega)]; rfl
  have ep : (i32 p).toInt64 = i64 p := i32_64 (by omega) (by omega)
  intro j
  induction j with
  | zero =>
    intro f a _ hf h1 h2
    obtain ⟨f, rfl⟩ : ∃ f', f = f' + 1 := ⟨f - 1, by omega⟩
    rw [fX12_countVotes_L109, if_pos (by decide)]
    exact hk a (fun k hk => h2 k hk (by omega))
  | succ j ih =>
    intro f a hj hf h1 h2
    obtain ⟨f, rfl⟩ : ∃ f', f = f' + 1 := ⟨f - 1, by omega⟩
    rw [fX12_countVotes_L109, show ((j + 1 : Nat) : Int) - 1 = (j : Int) by omega, if_neg (by rw [i32_litN 0, i32_lt (by omega) (by omega) (by omega) (by omega)]; omega), gd_ok (by omega) (by omega) (by omega), i32_nat (by omega) (by omega), Int.toNat_natCast, e100, ep, h1 j (by omega), i64_mul]
    unfold fX12_countVotes_L156
    rw [show i32 (j : Int) + (-1 : Int32) = i32 ((j : Int) - 1) by rw [show (-1 : Int32) = i32 (-1) from rfl, i32_add]; rfl]
    rw [gd_ok (by omega) (by omega) (by omega), i32_nat (by omega) (by omega), Int.toNat_natCast]
    have fin : ∀ v : Int, v = vt (p :: L) j → Rt (fX12_countVotes_L109 Fu k36 f row ch (va_up a j (i64 v)) x1 x2 x3 x4 (i32 p) (i32 ((j : Int) - 1))) P := by
      intro v hv
      refine ih f _ (by omega) (by omega) (fun k hk => ?_) (fun k hk hk2 => ?_)
      · rw [va_up_ne _ _ (by omega)]; exact h1 k (by omega)
      · by_cases c : k = j
        · subst c; rw [va_up_at, hv]
        · rw [va_up_ne _ _ c]; exact h2 k hk (by omega)
    by_cases c : j = 0
    · subst c
      rw [if_pos (by decide), i64_litN 0, i64_add]
      exact fin _ rfl
    · obtain ⟨i, rfl⟩ : ∃ i, j = i + 1 := ⟨j - 1, by omega⟩
      rw [if_neg (by rw [i32_litN 0, i32_le (by omega) (by omega) (by omega) (by omega)]; omega), i32_s1, gd_ok (by omega) (by omega) (by omega), i32_nat (by omega) (by omega), Int.toNat_natCast, h1 i (by omega), i64_mul, gd_ok (by omega) (by omega) (by omega), i64_add]
      refine fin _ ?_
      show _ = vt L (i + 1) * (100 - p) + (if i + 1 = 0 then 0 else vt L (i + 1 - 1) * p)
      rw [if_neg (by omega)]; rfl
/-- favours with bribes -/
def fv (y : Nat → Int) (z o b : Nat) : Nat := ((y (17 + 6 * b)).toNat ||| (if z.testBit b then 1 else 0)) ||| (if o.testBit b then 2 else 0)
theorem or_lt4 {a b : Nat} (ha : a < 4) (hb : b < 4) : a ||| b < 4 := Nat.or_lt_two_pow (n := 2) ha hb
theorem fv_lt {y : Nat → Int} (hW : WF y) {z o b : Nat} (hb : b < 8) : fv y z o b < 4 := by
  have hf := hW.fav hb
  unfold fv
  apply or_lt4
  · apply or_lt4
    · omega
    · split <;> omega
  · split <;> omega
theorem v_is {s k : Nat} (hs : s < 2147483648) (hk : k < 32) : fX12_is (i32 (s : Int)) (i32 (k : Int)) = some (bI (s.testBit k = true)) := by
  unfold fX12_is
  rw [i32_bit hs hk]
  unfold bI
  by_cases c : s.testBit k = true
  · simp [c]; rfl
  · simp [c]; decide
theorem v_countL {Fu : Nat} (hFu : 6000 ≤ Fu) {y : Nat → Int} {row ch : Nat → Int32} (hM : RM y row) (hW : WF y) {s z o : Nat} (hs : s < 256) (hz : z < 256) (ho : o < 256) {p : Nat → Nat → Int} (hp : ∀ b f, 0 ≤ p b f ∧ p b f ≤ 100) (hch : ∀ b f, b < 8 → s.testBit b = true → f < 4 → ch (4 * b + f) = i32 (p b f)) :
    ∀ (d f b : Nat) (a : Nat → Int64), b + d = 8 → d < f → (∀ k, k < 9 → a k = i64 (vt (cl s.testBit (fun j => p j (fv y z o j)) b) k)) → Rt (fX12_countVotes_L36 Fu f row ch a (i32 (s : Int)) (i32 (z : Int)) (i32 (o : Int)) (i32 (b : Int))) (fun r => ∀ k, k < 9 → r k = i64 (vt (cl s.testBit (fun j => p j (fv y z o j)) 8) k)) := by
  intro d
  induction d with
  | zero =>
    intro f b a hb hf h
    obtain ⟨f, rfl⟩ : ∃ f', f = f' + 1 := ⟨f - 1, by omega⟩
    obtain rfl : b = 8 := by omega
    rw [fX12_countVotes_L36, if_pos (by decide)]
    exact Rt.ret h
  | succ d ih =>
    intro f b a hb hf h
    obtain ⟨f, rfl⟩ : ∃ f', f = f' + 1 := ⟨f - 1, by omega⟩
    rw [fX12_countVotes_L36, if_neg (by rw [i32_litN 8, i32_le (by omega) (by omega) (by omega) (by omega)]; omega), v_is (by omega) (by omega)]
    refine Rt.eqb rfl ?_
    have ec : cl s.testBit (fun j => p j (fv y z o j)) (b + 1) = if s.testBit b then p b (fv y z o b) :: cl s.testBit (fun j => p j (fv y z o j)) b else cl s.testBit (fun j => p j (fv y z o j)) b := rfl
    by_cases c : s.testBit b = true
    · rw [if_pos c] at ec
      rw [if_neg (by rw [bI_0]; exact fun q => q c), v_fav hM (by omega)]
      refine Rt.eqb rfl ?_
      rw [v_is (by omega) (by omega)]
      refine Rt.eqb rfl ?_
      have hfv := hW.fav (b := b) (by omega)
      obtain ⟨fa, hfa⟩ := Int.eq_ofNat_of_zero_le hfv.1
      have fvl := fv_lt hW (z := z) (o := o) (b := b) (by omega)
      have h88 : ∀ g1 g2 : Nat, (fa ||| g1) ||| g2 = fv y z o b → Rt (fX12_countVotes_L88 Fu (fX12_countVotes_L36 Fu f) row ch a (i32 (s : Int)) (i32 (z : Int)) (i32 (o : Int)) (i32 (b : Int)) (i32 (g2 : Int)) (i32 ((fa ||| g1 : Nat) : Int))) (fun r => ∀ k, k < 9 → r k = i64 (vt (cl s.testBit (fun j => p j (fv y z o j)) 8) k)) := by
        intro g1 g2 hg
        unfold fX12_countVotes_L88
        rw [i32_or, hg, show (4 : Int32) * i32 (b : Int) + i32 ((fv y z o b : Nat) : Int) = i32 ((4 * b + fv y z o b : Nat) : Int) by rw [i32_litN 4, i32_mul, i32_add]; congr 1 <;> omega]
        rw [gd_ok (by omega) (by omega) (by omega), i32_nat (by omega) (by omega), Int.toNat_natCast, hch b _ (by omega) c fvl]
        have pr := hp b (fv y z o b)
        refine v_votesL (L := cl s.testBit (fun j => p j (fv y z o j)) b) pr.1 pr.2 (fun a' ha' => ?_) 9 Fu a (by omega) (by omega) (fun k hk => h k (by omega)) (fun k hk hk2 => by omega)
        rw [i32_p1]
        refine ih f (b + 1) a' (by omega) (by omega) (fun k hk => ?_)
        rw [ec]; exact ha' k hk
      have h73 : ∀ g1 : Nat, g1 = (if z.testBit b then 1 else 0) → Rt (fX12_countVotes_L73 Fu (fX12_countVotes_L36 Fu f) row ch a (i32 (s : Int)) (i32 (z : Int)) (i32 (o : Int)) (i32 (b : Int)) (i32 (g1 : Int)) (i32 (y (17 + 6 * b)))) (fun r => ∀ k, k < 9 → r k = i64 (vt (cl s.testBit (fun j => p j (fv y z o j)) 8) k)) := by
        intro g1 hg1
        unfold fX12_countVotes_L73
        rw [v_is (by omega) (by omega), hfa, i32_or]
        refine Rt.eqb rfl ?_
        have e : fv y z o b = (fa ||| g1) ||| (if o.testBit b then 2 else 0) := by
          unfold fv; rw [hfa, hg1, Int.toNat_natCast]
        by_cases co : o.testBit b = true
        · rw [if_neg (by rw [bI_0]; exact fun q => q co)]
          rw [if_pos co] at e
          exact h88 g1 2 e.symm
        · rw [if_pos (by rw [bI_0]; exact co)]
          rw [if_neg co] at e
          exact h88 g1 0 e.symm
      by_cases cz : z.testBit b = true
      · rw [if_neg (by rw [bI_0]; exact fun q => q cz)]
        exact h73 1 (by rw [if_pos cz])
      · rw [if_pos (by rw [bI_0]; exact cz)]
        exact h73 0 (by rw [if_neg cz])
    · rw [if_neg c] at ec
      rw [if_pos (by rw [bI_0]; exact c), i32_p1]
      refine ih f (b + 1) a (by omega) (by omega) (fun k hk => ?_)
      rw [ec]; exact h k hk
theorem v_count0 {Fu : Nat} {row ch : Nat → Int32} {x1 x2 x3 : Int32} {P : (Nat → Int64) → Prop} (hk : ∀ a : Nat → Int64, (∀ k, k < 10 → a k = i64 (vt [] k)) → Rt (fX12_countVotes_L36 Fu Fu row ch a x1 x2 x3 0) P) :
    ∀ (d f v : Nat) (a : Nat → Int64), v + d = 10 → d < f → (∀ k, k < v → a k = i64 (vt [] k)) → Rt (fX12_countVotes_L3 Fu f row ch a x1 x2 x3 (i32 (v : Int))) P := by
  intro d
  induction d with
  | zero =>
    intro f v a hv hf h
    obtain ⟨f, rfl⟩ : ∃ f', f = f' + 1 := ⟨f - 1, by omega⟩
    obtain rfl : v = 10 := by omega
    rw [fX12_countVotes_L3, if_pos (by decide)]
    exact hk a h
  | succ d ih =>
    intro f v a hv hf h
    obtain ⟨f, rfl⟩ : ∃ f', f = f' + 1 := ⟨f - 1, by omega⟩
    rw [fX12_countVotes_L3, if_neg (by rw [i32_litN 10, i32_le (by omega) (by omega) (by omega) (by omega)]; omega)]
    unfold fX12_countVotes_L26
    rw [gd_ok (by omega) (by omega) (by omega), gd_ok (by omega) (by omega) (by omega), i32_nat (by omega) (by omega), Int.toNat_natCast, i32_p1]
    have key : ∀ w : Int64, w = i64 (vt [] v) → Rt (fX12_countVotes_L3 Fu f row ch (va_up a v w) x1 x2 x3 (i32 ((v + 1 : Nat) : Int))) P := by
      intro w hw
      refine ih f (v + 1) _ (by omega) (by omega) (fun k hk => ?_)
      by_cases c : k = v
      · subst c; rw [va_up_at, hw]
      · rw [va_up_ne _ _ c]; exact h k (by omega)
    by_cases c : v = 0
    · subst c
      rw [if_pos (by decide)]
      exact key 1 rfl
    · rw [if_neg (by rw [i32_litN 0, i32_eq (by omega) (by omega) (by omega) (by omega)]; omega)]
      refine key 0 ?_
      show _ = i64 (if v = 0 then 1 else 0)
      rw [if_neg c]; rfl
theorem v_countVotes {Fu : Nat} (hFu : 6000 ≤ Fu) {y : Nat → Int} {row ch : Nat → Int32} {vs : Nat → Int64} (hM : RM y row) (hW : WF y) {s z o : Nat} (hs : s < 256) (hz : z < 256) (ho : o < 256) {p : Nat → Nat → Int} (hp : ∀ b f, 0 ≤ p b f ∧ p b f ≤ 100) (hch : ∀ b f, b < 8 → s.testBit b = true → f < 4 → ch (4 * b + f) = i32 (p b f)) :
    Rt (fX12_countVotes Fu row ch vs (i32 (s : Int)) (i32 (z : Int)) (i32 (o : Int))) (fun r => ∀ k, k < 9 → r k = i64 (vt (cl s.testBit (fun j => p j (fv y z o j)) 8) k)) := by
  unfold fX12_countVotes
  refine v_count0 (fun a ha => ?_) 10 Fu 0 vs (by omega) (by omega) (fun k hk => by omega)
  exact v_countL hFu hM hW hs hz ho hp hch 8 Fu 0 a (by omega) (by omega) (fun k hk => ha k (by omega))
theorem v_winsL {Fu : Nat} {row ch : Nat → Int32} {vs : Nat → Int64} {L : List Int} {q : Nat} (h : ∀ k, k < 9 → vs k = i64 (vt L k)) : ∀ (d f n : Nat), q + n + d = 9 → d < f → fX12_wins_L14 Fu f row ch vs (i64 (sm (vt L) q n)) (i32 ((q + n : Nat) : Int)) = some (i64 (sm (vt L) q (n + d)), vs) := by
  intro d
  induction d with
  | zero =>
    intro f n hn hf
    obtain ⟨f, rfl⟩ : ∃ f', f = f' + 1 := ⟨f - 1, by omega⟩
    rw [fX12_wins_L14, if_pos (by rw [i32_litN 9, i32_le (by omega) (by omega) (by omega) (by omega)]; omega)]; rfl
  | succ d ih =>
    intro f n hn hf
    obtain ⟨f, rfl⟩ : ∃ f', f = f' + 1 := ⟨f - 1, by omega⟩
    rw [fX12_wins_L14, if_neg (by rw [i32_litN 9, i32_le (by omega) (by omega) (by omega) (by omega)]; omega), gd_ok (by omega) (by omega) (by omega), i32_nat (by omega) (by omega), Int.toNat_natCast, h (q + n) (by omega), i64_add, i32_p1]
    have := ih f (n + 1) (by omega) (by omega)
    rw [show n + 1 + d = n + (d + 1) by omega] at this
    exact this
theorem v_wins {Fu : Nat} (hFu : 6000 ≤ Fu) {y : Nat → Int} {row ch : Nat → Int32} {vs : Nat → Int64} (hM : RM y row) (hW : WF y) {s z o : Nat} (hs : s < 256) (hz : z < 256) (ho : o < 256) {p : Nat → Nat → Int} (hp : ∀ b f, 0 ≤ p b f ∧ p b f ≤ 100) (hch : ∀ b f, b < 8 → s.testBit b = true → f < 4 → ch (4 * b + f) = i32 (p b f)) {q : Nat} (hq : q ≤ 8) :
    Rt (fX12_wins Fu row ch vs (i32 (s : Int)) (i32 (z : Int)) (i32 (o : Int)) (i32 (q : Int))) (fun r => r.1 = i64 (al (cl s.testBit (fun j => p j (fv y z o j)) 8) q) ∧ ∀ k, k < 9 → r.2 k = i64 (vt (cl s.testBit (fun j => p j (fv y z o j)) 8) k)) := by
  unfold fX12_wins
  refine Rt.bind (v_countVotes hFu hM hW hs hz ho hp hch) (fun r hr => ?_)
  have := v_winsL (Fu := Fu) (row := row) (ch := ch) (q := q) hr (9 - q) Fu 0 (by omega) (by omega)
  rw [show 0 + (9 - q) = 9 - q by omega] at this
  exact Rt.of this ⟨rfl, hr⟩
/-! counting bits -/
theorem x_bitCount : ∀ s : Fin 256, fJ6_bitCount_0f7a4 (i32 ((s.val : Nat) : Int)) = some (i32 ((bcn s.val 8 : Nat) : Int)) := by decide +kernel
theorem v_bitsL {Fu s : Nat} (hs : s < 256) : ∀ (d f k : Nat), k + d = 8 → d < f → fX12_bits_L4 Fu f (i32 (s : Int)) (i32 ((bcn s k : Nat) : Int)) (i32 (k : Int)) = some (i32 ((bcn s 8 : Nat) : Int)) := by
  intro d
  induction d with
  | zero =>
    intro f k hk hf
    obtain ⟨f, rfl⟩ : ∃ f', f = f' + 1 := ⟨f - 1, by omega⟩
    obtain rfl : k = 8 := by omega
    rw [fX12_bits_L4, if_pos (by decide)]
  | succ d ih =>
    intro f k hk hf
    obtain ⟨f, rfl⟩ : ∃ f', f = f' + 1 := ⟨f - 1, by omega⟩
    rw [fX12_bits_L4, if_neg (by rw [i32_litN 8, i32_le (by omega) (by omega) (by omega) (by omega)]; omega), i32_bit (by omega) (by omega), i32_add, i32_p1]
    have := ih f (k + 1) (by omega) (by omega)
    rw [show ((bcn s (k + 1) : Nat) : Int) = ((bcn s k : Nat) : Int) + (if s.testBit k then 1 else 0) by show ((bcn s k + (if s.testBit k then 1 else 0) : Nat) : Int) = _; split <;> rfl] at this
    exact this
theorem v_bits {Fu s : Nat} (hFu : 6000 ≤ Fu) (hs : s < 256) : fX12_bits Fu (i32 (s : Int)) = some (i32 ((bcn s 8 : Nat) : Int)) := v_bitsL hs 8 Fu 0 (by omega) (by omega)
theorem bcn_le (s : Nat) : ∀ n, bcn s n ≤ n := by
  intro n
  induction n with
  | zero => exact Nat.le_refl 0
  | succ n ih => show bcn s n + (if s.testBit n then 1 else 0) ≤ n + 1; split <;> omega
/-! a hundred by itself -/
theorem v_powerL {Fu : Nat} {n : Nat} (hn : n ≤ 50) : ∀ (d f k : Nat), k + d = n → d < f → fX12_power_L4 Fu f (i32 (n : Int)) (i64 (100 ^ k)) (i32 (k : Int)) = some (i64 (100 ^ n)) := by
  intro d
  induction d with
  | zero =>
    intro f k hk hf
    obtain ⟨f, rfl⟩ : ∃ f', f = f' + 1 := ⟨f - 1, by omega⟩
    obtain rfl : k = n := by omega
    rw [fX12_power_L4, if_pos (Int32.le_refl _)]
  | succ d ih =>
    intro f k hk hf
    obtain ⟨f, rfl⟩ : ∃ f', f = f' + 1 := ⟨f - 1, by omega⟩
    rw [fX12_power_L4, if_neg (by rw [i32_le (by omega) (by omega) (by omega) (by omega)]; omega), i64_litN 100, i64_mul, i32_p1]
    have := ih f (k + 1) (by omega) (by omega)
    rw [Int.pow_succ] at this
    exact this
theorem v_power {Fu n : Nat} (hFu : 6000 ≤ Fu) (hn : n ≤ 50) : fX12_power Fu (i32 (n : Int)) = some (i64 (100 ^ n)) := v_powerL hn n Fu 0 (by omega) (by omega)
theorem x_powerL {Fu : Nat} {n : Nat} (hn : n ≤ 8) : ∀ (d f k : Nat), k + d = n → d < f → fX11_power_L4 Fu f (i32 (n : Int)) (i64 (100 ^ k)) (i32 (k : Int)) = some (i64 (100 ^ n)) := by
  intro d
  induction d with
  | zero =>
    intro f k hk hf
    obtain ⟨f, rfl⟩ : ∃ f', f = f' + 1 := ⟨f - 1, by omega⟩
    obtain rfl : k = n := by omega
    rw [fX11_power_L4, if_pos (Int32.le_refl _)]
  | succ d ih =>
    intro f k hk hf
    obtain ⟨f, rfl⟩ : ∃ f', f = f' + 1 := ⟨f - 1, by omega⟩
    rw [fX11_power_L4, if_neg (by rw [i32_le (by omega) (by omega) (by omega) (by omega)]; omega), if_neg (by rw [i32_litN 8, i32_le (by omega) (by omega) (by omega) (by omega)]; omega), i64_litN 100, i64_mul, i32_p1]
    have := ih f (k + 1) (by omega) (by omega)
    rw [Int.pow_succ] at this
    exact this
theorem x_power {Fu n : Nat} (hFu : 6000 ≤ Fu) (hn : n ≤ 8) : fX11_power Fu (i32 (n : Int)) = some (i64 (100 ^ n)) := x_powerL hn n Fu 0 (by omega) (by omega)
theorem pow100 {n : Nat} (hn : n ≤ 8) : 1 ≤ (100 : Int) ^ n ∧ (100 : Int) ^ n ≤ 10000000000000000 := by
  have h : n = 0 ∨ n = 1 ∨ n = 2 ∨ n = 3 ∨ n = 4 ∨ n = 5 ∨ n = 6 ∨ n = 7 ∨ n = 8 := by omega
  rcases h with rfl | rfl | rfl | rfl | rfl | rfl | rfl | rfl | rfl <;> decide
