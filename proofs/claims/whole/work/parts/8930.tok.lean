/-! ===== tokens of a law's text ===== -/
def vl (f : Nat → Int) : Nat → Int
  | 0 => 0
  | n + 1 => 32 * vl f n + f n
def hsh (i : Nat) : Int := vl (fun j => (e_ch i (i32 (j : Int))).toInt - 96) (e_kL.getD i 0)
def isL (x : Int32) : Prop := ¬ x < 97 ∧ ¬ 122 < x
def isG (x : Int32) : Prop := ¬ x < 48 ∧ ¬ 57 < x
/-- the token at s, up to e: 0 the end; (1, i) the i-th word, (1, 99) another; (2, v) a number, 1001 where it is greater than 1000; (3, c) a sign -/
def TKc (Fu L : Nat) (a : Nat → Int32) (s e : Nat) (tk : Nat × Nat) (nu : Int32) : Prop :=
  (∀ c : Nat, c < 256 → fX6_isSign (i32 (L : Int)) a (i32 (s : Int)) (i32 (tk.1 : Int)) (i32 (c : Int)) = some (bI (tk = (3, c)))) ∧
  (∀ i, i < 17 → fX6_isWord Fu i a (i32 (s : Int)) (i32 (e : Int)) (i32 (tk.1 : Int)) = some (bI (tk = (1, i)))) ∧
  (tk.1 = 2 → nu = i32 (tk.2 : Int) ∧ tk.2 ≤ 1001)
def TKm (tk : Nat × Nat) (wo : Int64) : Prop :=
  (∀ c : Nat, c < 256 → fX12_isSign (i32 (tk.1 : Int)) wo (i32 (c : Int)) = some (bI (tk = (3, c)))) ∧
  (∀ i, i < 17 → fX12_isWord (i32 (tk.1 : Int)) wo (i64 (hsh i)) = some (bI (tk = (1, i)))) ∧
  (tk.1 = 2 → (tk.2 ≤ 1000 ∧ wo = i64 (tk.2 : Int)) ∨ (1000 < tk.2 ∧ 1000 < wo))
def TKR (Fu L : Nat) (a : Nat → Int32) (s e : Nat) (tk : Nat × Nat) (nu : Int32) (wo : Int64) : Prop :=
  (s ≤ e ∧ e ≤ L ∧ tk.1 ≤ 3 ∧ (tk.1 = 0 ∧ s = L ∨ tk.1 ≠ 0 ∧ s < e)) ∧ (tk = (1, 16) → s + 2 ≤ e) ∧ (tk = (1, 15) → s + 2 ≤ e) ∧ TKc Fu L a s e tk nu ∧ TKm tk wo
theorem vl_pos {f : Nat → Int} : ∀ n, (∀ j, j < n → 1 ≤ f j ∧ f j < 32) → 0 ≤ vl f n ∧ (0 < n → 0 < vl f n) := by
  intro n
  induction n with
  | zero => intro _; exact ⟨by unfold vl; omega, fun h => by omega⟩
  | succ n ih =>
    intro h
    have := ih (fun j hj => h j (by omega))
    have := h n (by omega)
    unfold vl
    exact ⟨by omega, fun _ => by omega⟩
theorem vl_inj {f g : Nat → Int} : ∀ n m, (∀ j, j < n → 1 ≤ f j ∧ f j < 32) → (∀ j, j < m → 1 ≤ g j ∧ g j < 32) → vl f n = vl g m → n = m ∧ ∀ j, j < n → f j = g j := by
  intro n
  induction n with
  | zero =>
    intro m hf hg h
    cases m with
    | zero => exact ⟨rfl, fun j hj => by omega⟩
    | succ m =>
      have := (vl_pos (m + 1) hg).2 (by omega)
      rw [← h] at this
      exact absurd this (by unfold vl; omega)
  | succ n ih =>
    intro m hf hg h
    cases m with
    | zero =>
      have := (vl_pos (n + 1) hf).2 (by omega)
      rw [h] at this
      exact absurd this (by unfold vl; omega)
    | succ m =>
      unfold vl at h
      have h1 := hf n (by omega)
      have h2 := hg m (by omega)
      have e1 : vl f n = vl g m := by omega
      have e2 : f n = g m := by omega
      obtain ⟨q1, q2⟩ := ih m (fun j hj => hf j (by omega)) (fun j hj => hg j (by omega)) e1
      subst q1
      refine ⟨rfl, fun j hj => ?_⟩
      by_cases c : j = n
      · subst c; exact e2
      · exact q2 j (by omega)
theorem vl_lt {f : Nat → Int} : ∀ n, (∀ j, j < n → 1 ≤ f j ∧ f j < 32) → vl f n < ((32 ^ n : Nat) : Int) := by
  intro n
  induction n with
  | zero => intro _; unfold vl; decide
  | succ n ih =>
    intro h
    have h1 := ih (fun j hj => h j (by omega))
    have h2 := h n (by omega)
    unfold vl
    rw [Nat.pow_succ]
    generalize (32 : Nat) ^ n = pw at h1 ⊢
    omega
theorem ch_ok : ∀ i : Fin 17, e_kL.getD i.val 0 ≤ 6 ∧ 2 ≤ e_kL.getD i.val 0 ∧ ∀ j : Fin 6, j.val < e_kL.getD i.val 0 → 97 ≤ (e_ch i.val (i32 ((j.val : Nat) : Int))).toInt ∧ (e_ch i.val (i32 ((j.val : Nat) : Int))).toInt ≤ 122 := by decide +kernel
theorem hsh_ne : ∀ i j : Fin 17, hsh i.val = hsh j.val → i = j := by decide +kernel
theorem hsh_rng : ∀ i : Fin 17, 0 < hsh i.val ∧ hsh i.val < 4503599627370496 := by decide +kernel
theorem x_let (x : Int32) [Decidable (isL x)] : fX6_isLetter x = some (bI (isL x)) ∧ fX12_isSmall x = some (bI (isL x)) := by
  unfold fX6_isLetter fX6_isLetter_L16 fX12_isSmall fX12_isSmall_L16 bI isL
  by_cases h1 : x < 97 <;> by_cases h2 : 122 < x <;> simp [h1, h2]
theorem x_dig (x : Int32) [Decidable (isG x)] : fX6_isDigit x = some (bI (isG x)) ∧ fX12_isDigit x = some (bI (isG x)) := by
  unfold fX6_isDigit fX6_isDigit_L16 fX12_isDigit fX12_isDigit_L16 bI isG
  by_cases h1 : x < 48 <;> by_cases h2 : 57 < x <;> simp [h1, h2]
theorem isL_rng {x : Int32} (h : isL x) : 97 ≤ x.toInt ∧ x.toInt ≤ 122 := by
  obtain ⟨z, z1, z2, rfl⟩ := i32_any x
  unfold isL at h
  rw [i32_litN 97, i32_litN 122, i32_lt z1 z2 (by omega) (by omega), i32_lt (by omega) (by omega) z1 z2] at h
  rw [i32_int z1 z2]; omega
theorem isG_rng {x : Int32} (h : isG x) : 48 ≤ x.toInt ∧ x.toInt ≤ 57 := by
  obtain ⟨z, z1, z2, rfl⟩ := i32_any x
  unfold isG at h
  rw [i32_litN 48, i32_litN 57, i32_lt z1 z2 (by omega) (by omega), i32_lt (by omega) (by omega) z1 z2] at h
  rw [i32_int z1 z2]; omega
section TOK
variable {Fu L : Nat} {a t : Nat → Int32}
theorem i32_t {j : Nat} (h : j ≤ 400) : (i32 (j : Int)).toNatClampNeg = j := by rw [i32_nat (by omega) (by omega), Int.toNat_natCast]
theorem i32_leN {a b : Nat} (h1 : a ≤ 5000) (h2 : b ≤ 5000) : (i32 (a : Int) ≤ i32 (b : Int)) = (a ≤ b) := by rw [i32_le (by omega) (by omega) (by omega) (by omega)]; exact propext ⟨fun h => by omega, fun h => by omega⟩
theorem i32_ltN {a b : Nat} (h1 : a ≤ 5000) (h2 : b ≤ 5000) : (i32 (a : Int) < i32 (b : Int)) = (a < b) := by rw [i32_lt (by omega) (by omega) (by omega) (by omega)]; exact propext ⟨fun h => by omega, fun h => by omega⟩
theorem i32_eqN {a b : Nat} (h1 : a ≤ 5000) (h2 : b ≤ 5000) : (i32 (a : Int) = i32 (b : Int)) = (a = b) := by rw [i32_eq (by omega) (by omega) (by omega) (by omega)]; exact propext ⟨fun h => by omega, fun h => by omega⟩
/-- the worth of n letters -/
def wrth (g : Nat → Int) (n : Nat) : Int64 := if n ≤ 10 then i64 (vl g n) else i64 (-1)
/-- letters: both stop at the same place -/
theorem tk_let (hL : L ≤ 400) (hat : ∀ k, k < 400 → a k = t k) {s : Nat} {bh : Int32} : ∀ (d f g j : Nat), j + d = L → s ≤ j → d < f → d < g → (∀ k, s ≤ k → k < j → isL (t k)) →
    ∃ e, j ≤ e ∧ e ≤ L ∧ (∀ k, s ≤ k → k < e → isL (t k)) ∧ (e < L → ¬ isL (t e)) ∧ fX6_advance_L85 Fu f (i32 (L : Int)) a (i32 (s : Int)) bh 1 0 (i32 (j : Int)) = some (i32 (s : Int), i32 (e : Int), 1, 0) ∧
    fX12_next_L149 Fu g t (i32 (L : Int)) (i32 (s : Int)) (i32 (j : Int)) 1 (wrth (fun k => (t (s + k)).toInt - 96) (j - s)) = fX12_next_L243 Fu Fu t (i32 (L : Int)) (i32 (s : Int)) (i32 (e : Int)) 1 (wrth (fun k => (t (s + k)).toInt - 96) (e - s)) := by
  intro d
  induction d with
  | zero =>
    intro f g j hj hs hf hg hk
    obtain ⟨f, rfl⟩ : ∃ f', f = f' + 1 := ⟨f - 1, by omega⟩
    obtain ⟨g, rfl⟩ : ∃ f', g = f' + 1 := ⟨g - 1, by omega⟩
    have le : i32 (L : Int) ≤ i32 (j : Int) := by rw [i32_leN (by omega) (by omega)]; omega
    refine ⟨j, by omega, by omega, hk, fun h => by omega, ?_, ?_⟩
    · rw [fX6_advance_L85, if_pos le]; rfl
    · rw [fX12_next_L149, if_pos rfl, if_pos le]
  | succ d ih =>
    intro f g j hj hs hf hg hk
    obtain ⟨f, rfl⟩ : ∃ f', f = f' + 1 := ⟨f - 1, by omega⟩
    obtain ⟨g, rfl⟩ : ∃ f', g = f' + 1 := ⟨g - 1, by omega⟩
    have le : ¬ i32 (L : Int) ≤ i32 (j : Int) := by rw [i32_leN (by omega) (by omega)]; omega
    have tj := i32_t (j := j) (by omega)
    have g0 : ∀ {α : Type} (k : Option α), gd (i32 (j : Int)) 400 k = k := fun k => gd_ok (by omega) (by omega) (by omega)
    have : Decidable (isL (t j)) := Classical.propDecidable _
    have xl := x_let (t j)
    by_cases c : isL (t j)
    · have cz : ¬ bI (isL (t j)) = 0 := by rw [bI_0]; exact fun q => q c
      obtain ⟨e, e1, e2, e3, e4, e5, e6⟩ := ih f g (j + 1) (by omega) (by omega) (by omega) (by omega) (fun k h1 h2 => by
        by_cases ck : k = j
        · subst ck; exact c
        · exact hk k h1 (by omega))
      refine ⟨e, by omega, e2, e3, e4, ?_, ?_⟩
      · rw [fX6_advance_L85, if_neg le, x_at hL (by omega), Option.bind_some, hat j (by omega), xl.1, Option.bind_some, if_neg cz, i32_p1]; exact e5
      · rw [fX12_next_L149, if_pos rfl, if_neg le, g0, tj, xl.2, Option.bind_some, if_neg cz, ← e6]
        unfold fX12_next_L227
        rw [i32_p1, show i32 (j : Int) - i32 (s : Int) = i32 ((j - s : Nat) : Int) by rw [i32_sub]; exact congrArg i32 (by omega)]
        by_cases c10 : 10 ≤ j - s
        · rw [if_pos (show (10 : Int32) ≤ i32 ((j - s : Nat) : Int) by rw [i32_litN 10, i32_leN (by omega) (by omega)]; exact c10)]
          rw [show wrth (fun k => (t (s + k)).toInt - 96) (j + 1 - s) = -1 by unfold wrth; rw [if_neg (by omega)]; rfl]
        · rw [if_neg (show ¬ (10 : Int32) ≤ i32 ((j - s : Nat) : Int) by rw [i32_litN 10, i32_leN (by omega) (by omega)]; exact c10), g0]
          have hw : wrth (fun k => (t (s + k)).toInt - 96) (j - s) * 32 + (t j).toInt64 - 96 = wrth (fun k => (t (s + k)).toInt - 96) (j + 1 - s) := by
            unfold wrth
            rw [if_pos (by omega), if_pos (by omega), show j + 1 - s = (j - s) + 1 by omega]
            show _ = i64 (32 * vl (fun k => (t (s + k)).toInt - 96) (j - s) + ((t (s + (j - s))).toInt - 96))
            rw [show s + (j - s) = j by omega]
            have ej : (t j).toInt64 = i64 (t j).toInt := by
              obtain ⟨z, z1, z2, ez⟩ := i32_any (t j)
              rw [ez, i32_64 z1 z2, i32_int z1 z2]
            rw [ej, i64_litN 32, i64_litN 96, i64_mul, i64_add, i64_sub]
            exact congrArg i64 (by omega)
          rw [hw]
    · have cz : bI (isL (t j)) = 0 := by rw [bI_0]; exact c
      refine ⟨j, by omega, by omega, hk, fun _ => c, ?_, ?_⟩
      · rw [fX6_advance_L85, if_neg le, x_at hL (by omega), Option.bind_some, hat j (by omega), xl.1, Option.bind_some, if_pos cz]; rfl
      · rw [fX12_next_L149, if_pos rfl, if_neg le, g0, tj, xl.2, Option.bind_some, if_pos cz]
/-- digits: both stop at the same place -/
theorem tk_dig (hL : L ≤ 400) (hat : ∀ k, k < 400 → a k = t k) {s : Nat} {bh : Int32} : ∀ (d f g j : Nat) (nu : Nat) (wo : Int), j + d = L → d < f → d < g → (nu ≤ 1000 ∧ wo = (nu : Int) ∨ nu = 1001 ∧ 1000 < wo ∧ wo ≤ 20000000) →
    ∃ (e nu' : Nat) (wo' : Int), j ≤ e ∧ e ≤ L ∧ (e < L → ¬ isG (t e)) ∧ (nu' ≤ 1000 ∧ wo' = (nu' : Int) ∨ nu' = 1001 ∧ 1000 < wo' ∧ wo' ≤ 20000000) ∧ fX6_advance_L128 Fu f (i32 (L : Int)) a (i32 (s : Int)) bh 2 (i32 (nu : Int)) (i32 (j : Int)) = some (i32 (s : Int), i32 (e : Int), 2, i32 (nu' : Int)) ∧
    fX12_next_L243 Fu g t (i32 (L : Int)) (i32 (s : Int)) (i32 (j : Int)) 2 (i64 wo) = some (i32 (s : Int), i32 (e : Int), 2, i64 wo') := by
  intro d
  induction d with
  | zero =>
    intro f g j nu wo hj hf hg hk
    obtain ⟨f, rfl⟩ : ∃ f', f = f' + 1 := ⟨f - 1, by omega⟩
    obtain ⟨g, rfl⟩ : ∃ f', g = f' + 1 := ⟨g - 1, by omega⟩
    have le : i32 (L : Int) ≤ i32 (j : Int) := by rw [i32_leN (by omega) (by omega)]; omega
    refine ⟨j, nu, wo, by omega, by omega, fun h => by omega, hk, ?_, ?_⟩
    · rw [fX6_advance_L128, if_pos le]; rfl
    · rw [fX12_next_L243, if_pos rfl, if_pos le]
  | succ d ih =>
    intro f g j nu wo hj hf hg hk
    obtain ⟨f, rfl⟩ : ∃ f', f = f' + 1 := ⟨f - 1, by omega⟩
    obtain ⟨g, rfl⟩ : ∃ f', g = f' + 1 := ⟨g - 1, by omega⟩
    have le : ¬ i32 (L : Int) ≤ i32 (j : Int) := by rw [i32_leN (by omega) (by omega)]; omega
    have tj := i32_t (j := j) (by omega)
    have g0 : ∀ {α : Type} (k : Option α), gd (i32 (j : Int)) 400 k = k := fun k => gd_ok (by omega) (by omega) (by omega)
    have : Decidable (isG (t j)) := Classical.propDecidable _
    have xl := x_dig (t j)
    by_cases c : isG (t j)
    · have cz : ¬ bI (isG (t j)) = 0 := by rw [bI_0]; exact fun q => q c
      have rg := isG_rng c
      obtain ⟨z, z1, z2, ez⟩ := i32_any (t j)
      rw [ez, i32_int z1 z2] at rg
      have hx : ∃ nu2 : Nat, (if i32 (nu : Int) * 10 + t j - 48 < 1001 then i32 (nu : Int) * 10 + t j - 48 else 1001) = i32 (nu2 : Int) ∧ nu2 = min 1001 (nu * 10 + (z - 48).toNat) := by
        refine ⟨min 1001 (nu * 10 + (z - 48).toNat), ?_, rfl⟩
        have e1 : i32 (nu : Int) * 10 + t j - 48 = i32 ((nu : Int) * 10 + z - 48) := by rw [ez, i32_litN 10, i32_litN 48, i32_mul, i32_add, i32_sub]; rfl
        rw [e1]
        by_cases cc : (nu : Int) * 10 + z - 48 < 1001
        · rw [if_pos (show i32 ((nu : Int) * 10 + z - 48) < 1001 by rw [i32_litN 1001, i32_lt (by omega) (by omega) (by omega) (by omega)]; exact cc)]
          exact congrArg i32 (by omega)
        · rw [if_neg (show ¬ i32 ((nu : Int) * 10 + z - 48) < 1001 by rw [i32_litN 1001, i32_lt (by omega) (by omega) (by omega) (by omega)]; exact cc), i32_litN 1001]
          exact congrArg i32 (by omega)
      obtain ⟨nu2, hn1, hn2⟩ := hx
      have go : ∀ wo2, (nu2 ≤ 1000 ∧ wo2 = (nu2 : Int) ∨ nu2 = 1001 ∧ 1000 < wo2 ∧ wo2 ≤ 20000000) → fX12_next_L243 Fu (g + 1) t (i32 (L : Int)) (i32 (s : Int)) (i32 (j : Int)) 2 (i64 wo) = fX12_next_L243 Fu g t (i32 (L : Int)) (i32 (s : Int)) (i32 ((j + 1 : Nat) : Int)) 2 (i64 wo2) → ∃ (e nu' : Nat) (wo' : Int), j ≤ e ∧ e ≤ L ∧ (e < L → ¬ isG (t e)) ∧ (nu' ≤ 1000 ∧ wo' = (nu' : Int) ∨ nu' = 1001 ∧ 1000 < wo' ∧ wo' ≤ 20000000) ∧ fX6_advance_L128 Fu (f + 1) (i32 (L : Int)) a (i32 (s : Int)) bh 2 (i32 (nu : Int)) (i32 (j : Int)) = some (i32 (s : Int), i32 (e : Int), 2, i32 (nu' : Int)) ∧ fX12_next_L243 Fu (g + 1) t (i32 (L : Int)) (i32 (s : Int)) (i32 (j : Int)) 2 (i64 wo) = some (i32 (s : Int), i32 (e : Int), 2, i64 wo') := by
        intro wo2 h1 h2
        obtain ⟨e, nu', wo', e1, e2, e3, e4, e5, e6⟩ := ih f g (j + 1) nu2 wo2 (by omega) (by omega) (by omega) h1
        refine ⟨e, nu', wo', by omega, e2, e3, e4, ?_, by rw [h2]; exact e6⟩
        rw [fX6_advance_L128, if_neg le, x_at hL (by omega), Option.bind_some, hat j (by omega), xl.1, Option.bind_some, if_neg cz, Option.bind_some, hn1, i32_p1]; exact e5
      have ej : (t j).toInt64 = i64 z := by rw [ez, i32_64 z1 z2]
      by_cases cm : wo ≤ 1000000
      · refine go (wo * 10 + z - 48) (by omega) ?_
        rw [fX12_next_L243, if_pos rfl, if_neg le, g0, tj, xl.2, Option.bind_some, if_neg cz, if_pos (show i64 wo ≤ 1000000 by rw [i64_litN 1000000, i64_le (by omega) (by omega) (by omega) (by omega)]; exact cm), g0]
        unfold fX12_next_L319
        rw [i32_p1, ej, i64_litN 10, i64_litN 48, i64_mul, i64_add, i64_sub]; rfl
      · refine go wo (by omega) ?_
        rw [fX12_next_L243, if_pos rfl, if_neg le, g0, tj, xl.2, Option.bind_some, if_neg cz, if_neg (show ¬ i64 wo ≤ 1000000 by rw [i64_litN 1000000, i64_le (by omega) (by omega) (by omega) (by omega)]; exact cm)]
        unfold fX12_next_L319
        rw [i32_p1]
    · have cz : bI (isG (t j)) = 0 := by rw [bI_0]; exact c
      refine ⟨j, nu, wo, by omega, by omega, fun _ => c, hk, ?_, ?_⟩
      · rw [fX6_advance_L128, if_neg le, x_at hL (by omega), Option.bind_some, hat j (by omega), xl.1, Option.bind_some, if_pos cz]; rfl
      · rw [fX12_next_L243, if_pos rfl, if_neg le, g0, tj, xl.2, Option.bind_some, if_pos cz]
/-- the class's comparison with a word -/
theorem x_isWordL {i : Nat} (hi : i < 17) {s e : Nat} (hs : s + e_kL.getD i 0 ≤ 400) {X Y : Int32} : ∀ (d f j : Nat), j + d = e_kL.getD i 0 → d < f → (∀ k, k < j → a (s + k) = e_ch i (i32 (k : Int))) → ∃ r : Int32, fX6_isWord_L28 Fu i f a (i32 (s : Int)) X Y (i32 (j : Int)) = some r ∧ (r = 0 ∨ r = 1) ∧ (r = 1 ↔ ∀ k, k < e_kL.getD i 0 → a (s + k) = e_ch i (i32 (k : Int))) := by
  have ok := ch_ok ⟨i, hi⟩
  have l6 : e_kL.getD i 0 ≤ 6 := ok.1
  intro d
  induction d with
  | zero =>
    intro f j hj hf hk
    obtain ⟨f, rfl⟩ : ∃ f', f = f' + 1 := ⟨f - 1, by omega⟩
    have eL : Int32.ofNat (e_kL.getD i 0) = i32 ((e_kL.getD i 0 : Nat) : Int) := Int32.ofInt_eq_ofNat.symm
    rw [fX6_isWord_L28, eL, if_pos (by rw [i32_leN (by omega) (by omega)]; omega)]
    exact ⟨1, rfl, Or.inr rfl, ⟨fun _ k hk' => hk k (by omega), fun _ => rfl⟩⟩
  | succ d ih =>
    intro f j hj hf hk
    obtain ⟨f, rfl⟩ : ∃ f', f = f' + 1 := ⟨f - 1, by omega⟩
    have eL : Int32.ofNat (e_kL.getD i 0) = i32 ((e_kL.getD i 0 : Nat) : Int) := Int32.ofInt_eq_ofNat.symm
    rw [fX6_isWord_L28, eL, if_neg (by rw [i32_leN (by omega) (by omega)]; omega), show i32 (s : Int) + i32 (j : Int) = i32 ((s + j : Nat) : Int) by rw [i32_add]; rfl, gd_ok (by omega) (by omega) (by omega), gd_ok (by omega) (by omega) (by omega), i32_t (by omega)]
    by_cases c : a (s + j) = e_ch i (i32 (j : Int))
    · rw [if_pos c, i32_p1]
      exact ih f (j + 1) (by omega) (by omega) (fun k hk' => by
        by_cases ck : k = j
        · subst ck; exact c
        · exact hk k (by omega))
    · rw [if_neg c]
      exact ⟨0, rfl, Or.inl rfl, ⟨fun h => absurd h (by decide), fun h => absurd (h j (by omega)) c⟩⟩
end TOK
