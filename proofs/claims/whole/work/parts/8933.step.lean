/-! ===== steps of both readers ===== -/
abbrev RE14 := Int32 × Int32 × Int32 × Int64 × Int32 × Int32 × Int32 × (Nat → Int32) × (Nat → Int32) × Int32 × (Nat → Int32) × (Nat → Int32) × Int32 × Int32
abbrev RC8 := Int32 × Int32 × Int32 × Int32 × Int32 × Int32 × Int32 × (Nat → Int32)
def LPm (Fu : Nat) (wds : Nat → Int64) (test : Int32) (t : Nat → Int32) (L s e k : Nat) (wo : Int64) (fl bd : Int32) (m : Nat) (op ar : Nat → Int32) (np : Nat) (pile at_ : Nat → Int32) (d dep : Nat) (turn : Int32) (f : Nat) : Option RE14 :=
  fX12_readExpression_L20 Fu f t (i32 (L : Int)) (i32 (s : Int)) (i32 (e : Int)) (i32 (k : Int)) wo fl bd (i32 (m : Int)) op ar (i32 (np : Int)) pile at_ (i32 (d : Int)) (i32 (dep : Int)) wds test turn
def WDS (wds : Nat → Int64) : Prop := ∀ k, k < 10 → wds k = i64 (hsh (3 + k))
def isW (tk : Nat × Nat) : Prop := tk.1 = 1 ∧ 3 ≤ tk.2 ∧ tk.2 < 13
section STEP
variable {Fu L s e : Nat} {a t : Nat → Int32} {tk : Nat × Nat} {nu fl test : Int32} {wo : Int64} {wds : Nat → Int64} {m np dep : Nat} {op ar pile at_ : Nat → Int32} {π : PLt}
theorem bad_end (hFu : 6000 ≤ Fu) (hk : OKP π) (hP : PLr pile at_ π) (hm : m + π.length ≤ 400) (s0 : Nat) (F T S : Int32) (W : Int64) (D NP turn : Int32) :
    ∃ R : RE14, (∀ f, fX12_readExpression_L20 Fu (f + 1) t (i32 (L : Int)) F T S W (i32 (s0 : Int)) 1 (i32 (m : Int)) op ar NP pile at_ (i32 ((π.length : Nat) : Int)) D wds test turn = some R) ∧ R.2.2.2.2.1 = i32 (s0 : Int) ∧ R.2.2.2.2.2.1 = 1 := by
  obtain ⟨r, hr⟩ := v_stlAny (op := op) (ar := ar) hFu (l := 1) (by omega) (LL := 1) rfl hk hP hm
  refine ⟨(F, T, S, W, i32 (s0 : Int), 1, r.1, r.2.1, r.2.2.1, NP, pile, at_, r.2.2.2, D), fun f => ?_, rfl, rfl⟩
  rw [fX12_readExpression_L20, if_neg (show ¬ (1 : Int32) = 0 by decide)]
  unfold fX12_readExpression_L76
  rw [hr]; rfl
theorem v_must1 {F T S : Int32} {W : Int64} {r : Int32 × Int32 × Int32 × Int64} (hN : fX12_next Fu t (i32 (L : Int)) F T S W = some r) {x : Int32} (hx : x ≠ 0) : fX12_must Fu t (i32 (L : Int)) F T S W fl 0 x = some (r.1, r.2.1, r.2.2.1, r.2.2.2, fl, 0) := by
  unfold fX12_must fX12_must_L24
  rw [if_pos rfl, if_neg hx, if_pos rfl, hN]; rfl
theorem v_must0 {F T S : Int32} {W : Int64} : fX12_must Fu t (i32 (L : Int)) F T S W fl 0 0 = some (F, T, S, W, F, 1) := by
  unfold fX12_must fX12_must_L24
  rw [if_pos rfl, if_pos rfl, if_neg (show ¬ (1 : Int32) = 0 by decide)]
theorem v_push {d : Nat} (hd : d < 400) {x y : Int32} : fX12_push pile at_ (i32 (d : Int)) x y = some (va_up pile d x, va_up at_ d y, i32 ((d + 1 : Nat) : Int)) := by
  unfold fX12_push
  rw [gd_ok (by omega) (by omega) (by omega), gd_ok (by omega) (by omega) (by omega), i32_t (by omega), i32_p1]
theorem v_emit (hm : m < 400) {x y : Int32} : fX12_emit (i32 (m : Int)) op ar x y = some (i32 ((m + 1 : Nat) : Int), va_up op m x, va_up ar m y) := by
  unfold fX12_emit
  rw [gd_ok (by omega) (by omega) (by omega), gd_ok (by omega) (by omega) (by omega), i32_t (by omega), i32_p1]
theorem x_emit {n : Nat} (hn : n < 400) {st : Nat → Int32} {x y : Int32} : fX6_emit (i32 (n : Int)) st x y = some (i32 ((n + 1 : Nat) : Int), va_up st n (x * 1024 + y)) := by
  unfold fX6_emit
  rw [if_neg (show ¬ (400 : Int32) ≤ i32 (n : Int) by rw [i32_litN 400, i32_leN (by omega) (by omega)]; omega), gd_ok (by omega) (by omega) (by omega), i32_t (by omega), i32_p1]
theorem x_emitA {n : Nat} (hn : n ≤ 400) {st : Nat → Int32} {x y : Int32} : ∃ (n' : Nat) (st' : Nat → Int32), fX6_emit (i32 (n : Int)) st x y = some (i32 (n' : Int), st') ∧ n' ≤ 400 := by
  by_cases h : n < 400
  · exact ⟨n + 1, _, x_emit h, by omega⟩
  · refine ⟨n, st, ?_, hn⟩
    unfold fX6_emit
    rw [if_pos (show (400 : Int32) ≤ i32 (n : Int) by rw [i32_litN 400, i32_leN (by omega) (by omega)]; omega)]
theorem x_aim {n j : Nat} (hj : j < 400) {st : Nat → Int32} {N : Int32} : fX6_aimHere N st (i32 (j : Int)) = some (va_up st j (st j + N)) := by
  unfold fX6_aimHere
  rw [if_neg (show ¬ i32 (j : Int) < 0 by rw [i32_litN 0, i32_ltN (by omega) (by omega)]; omega), if_neg (show ¬ (400 : Int32) ≤ i32 (j : Int) by rw [i32_litN 400, i32_leN (by omega) (by omega)]; omega), gd_ok (by omega) (by omega) (by omega), gd_ok (by omega) (by omega) (by omega), i32_t (by omega)]
theorem bI_z {p : Prop} [Decidable p] : (bI p = 0) = ¬ p := bI_0 p
theorem v_partAtL (hw : WDS wds) (hT : TKm tk wo) : ∀ (d f j : Nat), j + d = 10 → d < f → fX12_partAt_L4 Fu f (i32 (tk.1 : Int)) wo wds (i32 (if tk.1 = 1 ∧ 3 ≤ tk.2 ∧ tk.2 < 3 + j then (tk.2 : Int) - 2 else -1)) (i32 (j : Int)) = some (i32 (if tk.1 = 1 ∧ 3 ≤ tk.2 ∧ tk.2 < 13 then (tk.2 : Int) - 2 else -1)) := by
  intro d
  induction d with
  | zero =>
    intro f j hj hf
    obtain ⟨f, rfl⟩ : ∃ f', f = f' + 1 := ⟨f - 1, by omega⟩
    obtain rfl : j = 10 := by omega
    rw [fX12_partAt_L4, if_pos (by decide)]
  | succ d ih =>
    intro f j hj hf
    obtain ⟨f, rfl⟩ : ∃ f', f = f' + 1 := ⟨f - 1, by omega⟩
    rw [fX12_partAt_L4, if_neg (show ¬ (10 : Int32) ≤ i32 (j : Int) by rw [i32_litN 10, i32_leN (by omega) (by omega)]; omega), gd_ok (by omega) (by omega) (by omega), i32_t (by omega), hw j (by omega), hT.2.1 (3 + j) (by omega), Option.bind_some, i32_p1, ← ih f (j + 1) (by omega) (by omega)]
    by_cases c : tk = (1, 3 + j)
    · rw [bI_yes c, if_neg (show ¬ (1 : Int32) = 0 by decide)]
      have : (if tk.1 = 1 ∧ 3 ≤ tk.2 ∧ tk.2 < 3 + (j + 1) then (tk.2 : Int) - 2 else -1) = ((j + 1 : Nat) : Int) := by
        rw [c, if_pos ⟨rfl, by show 3 ≤ 3 + j; omega, by show 3 + j < 3 + (j + 1); omega⟩]
        show ((3 + j : Nat) : Int) - 2 = _
        omega
      rw [this]
    · rw [bI_no c, if_pos rfl]
      have : (tk.1 = 1 ∧ 3 ≤ tk.2 ∧ tk.2 < 3 + (j + 1)) = (tk.1 = 1 ∧ 3 ≤ tk.2 ∧ tk.2 < 3 + j) := by
        apply propext
        constructor
        · rintro ⟨q1, q2, q3⟩
          refine ⟨q1, q2, ?_⟩
          rcases Nat.lt_or_ge tk.2 (3 + j) with h | h
          · exact h
          · exact absurd (Prod.ext q1 (by show tk.2 = 3 + j; omega)) c
        · rintro ⟨q1, q2, q3⟩; exact ⟨q1, q2, by omega⟩
      simp only [this]
theorem v_partAt (hFu : 6000 ≤ Fu) (hw : WDS wds) (hT : TKm tk wo) : fX12_partAt Fu (i32 (tk.1 : Int)) wo wds = some (i32 (if tk.1 = 1 ∧ 3 ≤ tk.2 ∧ tk.2 < 13 then (tk.2 : Int) - 2 else -1)) := by
  unfold fX12_partAt
  have := v_partAtL (Fu := Fu) hw hT 10 Fu 0 (by omega) (by omega)
  rw [if_neg (by omega)] at this
  exact this
theorem x_wordRead (hT : TKc Fu L a s e tk nu) : fX6_wordRead Fu a (i32 (s : Int)) (i32 (e : Int)) (i32 (tk.1 : Int)) = some (i32 (if tk.1 = 1 ∧ 3 ≤ tk.2 ∧ tk.2 < 13 then (tk.2 : Int) - 3 else -1)) := by
  unfold fX6_wordRead
  rw [hT.2.1 3 (by omega), hT.2.1 4 (by omega), hT.2.1 5 (by omega), hT.2.1 6 (by omega), hT.2.1 7 (by omega), hT.2.1 8 (by omega), hT.2.1 9 (by omega), hT.2.1 10 (by omega), hT.2.1 11 (by omega), hT.2.1 12 (by omega)]
  simp only [Option.bind_some, bI_z]
  by_cases c : tk.1 = 1 ∧ 3 ≤ tk.2 ∧ tk.2 < 13
  · rw [if_pos c]
    obtain ⟨k, v⟩ := tk
    obtain ⟨c1, c2, c3⟩ := c
    have c1 : k = 1 := c1
    have c2 : 3 ≤ v := c2
    have c3 : v < 13 := c3
    subst c1
    have : v = 3 ∨ v = 4 ∨ v = 5 ∨ v = 6 ∨ v = 7 ∨ v = 8 ∨ v = 9 ∨ v = 10 ∨ v = 11 ∨ v = 12 := by omega
    rcases this with rfl | rfl | rfl | rfl | rfl | rfl | rfl | rfl | rfl | rfl <;> rfl
  · rw [if_neg c]
    have n : ∀ i, 3 ≤ i → i < 13 → ¬ tk = (1, i) := by
      intro i h1 h2 h
      exact c (by rw [h]; exact ⟨rfl, h1, h2⟩)
    rw [if_pos (n 3 (by omega) (by omega)), if_pos (n 4 (by omega) (by omega)), if_pos (n 5 (by omega) (by omega)), if_pos (n 6 (by omega) (by omega)), if_pos (n 7 (by omega) (by omega)), if_pos (n 8 (by omega) (by omega)), if_pos (n 9 (by omega) (by omega)), if_pos (n 10 (by omega) (by omega)), if_pos (n 11 (by omega) (by omega)), if_pos (n 12 (by omega) (by omega))]
    rfl
end STEP
