section TOK2
variable {Fu L : Nat} {a t : Nat → Int32}
theorem sg_c {s c : Nat} (hL : L ≤ 400) (hs : s < L) : fX6_isSign (i32 (L : Int)) a (i32 (s : Int)) 3 (i32 (c : Int)) = some (if a s = i32 (c : Int) then 1 else 0) := by
  unfold fX6_isSign fX6_isSign_L27
  rw [if_pos rfl, x_at hL hs, Option.bind_some]
  by_cases h : a s = i32 (c : Int)
  · rw [if_pos h, if_pos h]
  · rw [if_neg h, if_neg h]
theorem to64_inj {x y : Int32} (h : x.toInt64 = y.toInt64) : x = y := by
  obtain ⟨u, u1, u2, rfl⟩ := i32_any x
  obtain ⟨v, v1, v2, rfl⟩ := i32_any y
  rw [i32_64 u1 u2, i32_64 v1 v2, i64_eq (by omega) (by omega) (by omega) (by omega)] at h
  rw [h]
theorem sg_m {x : Int32} {c : Nat} : fX12_isSign 3 x.toInt64 (i32 (c : Int)) = some (if x = i32 (c : Int) then 1 else 0) := by
  unfold fX12_isSign fX12_isSign_L22
  rw [if_pos rfl]
  by_cases h : x = i32 (c : Int)
  · rw [if_pos h, if_pos (by rw [h])]
  · rw [if_neg h, if_neg (fun e => h (to64_inj e))]
theorem sgn_no {s k c : Nat} (hk : k ≤ 3) (h : k ≠ 3) {wo : Int64} : fX6_isSign (i32 (L : Int)) a (i32 (s : Int)) (i32 (k : Int)) (i32 (c : Int)) = some 0 ∧ fX12_isSign (i32 (k : Int)) wo (i32 (c : Int)) = some 0 := by
  have n : ¬ i32 (k : Int) = 3 := by rw [i32_litN 3, i32_eqN (by omega) (by omega)]; exact h
  unfold fX6_isSign fX6_isSign_L27 fX12_isSign fX12_isSign_L22
  rw [if_neg n, if_neg n]; exact ⟨rfl, rfl⟩
theorem wrd_no {i s e k : Nat} (hk : k ≤ 3) (h : k ≠ 1) {wo w : Int64} : fX6_isWord Fu i a (i32 (s : Int)) (i32 (e : Int)) (i32 (k : Int)) = some 0 ∧ fX12_isWord (i32 (k : Int)) wo w = some 0 := by
  have n : ¬ i32 (k : Int) = 1 := by rw [i32_litN 1, i32_eqN (by omega) (by omega)]; exact h
  unfold fX6_isWord fX12_isWord fX12_isWord_L21
  rw [if_neg n, if_neg n]; exact ⟨rfl, rfl⟩
theorem bI_no {p : Prop} [Decidable p] (h : ¬ p) : bI p = 0 := if_neg h
theorem bI_yes {p : Prop} [Decidable p] (h : p) : bI p = 1 := if_pos h
theorem ch_dig {i : Nat} (hi : i < 17) : ∀ j, j < e_kL.getD i 0 → 1 ≤ (e_ch i (i32 (j : Int))).toInt - 96 ∧ (e_ch i (i32 (j : Int))).toInt - 96 < 32 := by
  intro j hj
  have ok := ch_ok ⟨i, hi⟩
  have l6 : e_kL.getD i 0 ≤ 6 := ok.1
  have := ok.2.2 ⟨j, by omega⟩ hj
  have h1 : 97 ≤ (e_ch i (i32 (j : Int))).toInt := this.1
  have h2 : (e_ch i (i32 (j : Int))).toInt ≤ 122 := this.2
  omega
theorem vl_ext {f g : Nat → Int} : ∀ n, (∀ k, k < n → f k = g k) → vl f n = vl g n := by
  intro n
  induction n with
  | zero => intro _; rfl
  | succ n ih =>
    intro h
    unfold vl
    rw [ih (fun k hk => h k (by omega)), h n (by omega)]
theorem wrd_key {s e : Nat} (hk : ∀ k, s ≤ k → k < e → isL (t k)) {i : Nat} (hi : i < 17) : wrth (fun k => (t (s + k)).toInt - 96) (e - s) = i64 (hsh i) ↔ e - s = e_kL.getD i 0 ∧ ∀ k, k < e_kL.getD i 0 → t (s + k) = e_ch i (i32 (k : Int)) := by
  have fg : ∀ j, j < e - s → 1 ≤ (t (s + j)).toInt - 96 ∧ (t (s + j)).toInt - 96 < 32 := fun j hj => by
    have := isL_rng (hk (s + j) (by omega) (by omega)); omega
  have gg := ch_dig hi
  have l6 : e_kL.getD i 0 ≤ 6 := (ch_ok ⟨i, hi⟩).1
  have hr1 : 0 < hsh i := (hsh_rng ⟨i, hi⟩).1
  have hr2 : hsh i < 4503599627370496 := (hsh_rng ⟨i, hi⟩).2
  unfold wrth
  by_cases c : e - s ≤ 10
  · rw [if_pos c]
    have b0 := (vl_pos (f := fun k => (t (s + k)).toInt - 96) (e - s) fg).1
    have b1 := vl_lt (f := fun k => (t (s + k)).toInt - 96) (e - s) fg
    have b2 : (32 : Nat) ^ (e - s) ≤ 32 ^ 10 := Nat.pow_le_pow_right (by omega) c
    have b3 : (32 : Nat) ^ 10 = 1125899906842624 := by decide
    rw [b3] at b2
    generalize (32 : Nat) ^ (e - s) = pw at b1 b2
    rw [i64_eq (by omega) (by omega) (by omega) (by omega)]
    constructor
    · intro h
      obtain ⟨q1, q2⟩ := vl_inj (e - s) (e_kL.getD i 0) fg gg h
      refine ⟨q1, fun k hk' => ?_⟩
      have := q2 k (by omega)
      rw [← i32_self (t (s + k)), ← i32_self (e_ch i (i32 (k : Int)))]
      exact congrArg i32 (by omega)
    · rintro ⟨q1, q2⟩
      rw [q1]
      exact vl_ext _ (fun k hk' => by rw [q2 k hk'])
  · rw [if_neg c, i64_eq (by omega) (by omega) (by omega) (by omega)]
    constructor
    · intro h; omega
    · rintro ⟨q1, -⟩; omega
theorem wrd_cls (hFu : 6000 ≤ Fu) (hL : L ≤ 400) (hat : ∀ k, k < 400 → a k = t k) {s e : Nat} (hs : s < e) (he : e ≤ L) {i : Nat} (hi : i < 17) : ∃ r : Int32, (r = 0 ∨ r = 1) ∧ fX6_isWord Fu i a (i32 (s : Int)) (i32 (e : Int)) 1 = some r ∧ (r = 1 ↔ e - s = e_kL.getD i 0 ∧ ∀ k, k < e_kL.getD i 0 → t (s + k) = e_ch i (i32 (k : Int))) := by
  have l6 : e_kL.getD i 0 ≤ 6 := (ch_ok ⟨i, hi⟩).1
  unfold fX6_isWord
  have eL : Int32.ofNat (e_kL.getD i 0) = i32 ((e_kL.getD i 0 : Nat) : Int) := Int32.ofInt_eq_ofNat.symm
  rw [if_pos rfl, eL, show i32 (e : Int) - i32 (s : Int) = i32 ((e - s : Nat) : Int) by rw [i32_sub]; exact congrArg i32 (by omega)]
  by_cases c : e - s = e_kL.getD i 0
  · rw [if_pos (by rw [c])]
    obtain ⟨r, r1, r2, r3⟩ := x_isWordL (Fu := Fu) (a := a) hi (e := e) (s := s) (by omega) (X := i32 (e : Int)) (Y := 1) (e_kL.getD i 0) Fu 0 (by omega) (by omega) (fun k hk => by omega)
    refine ⟨r, r2, r1, r3.trans ⟨fun h => ⟨c, fun k hk' => ?_⟩, fun h k hk' => ?_⟩⟩
    · rw [← hat (s + k) (by omega)]; exact h k hk'
    · rw [hat (s + k) (by omega)]; exact h.2 k hk'
  · rw [if_neg (by rw [i32_eqN (by omega) (by omega)]; exact c)]
    exact ⟨0, Or.inl rfl, rfl, ⟨fun h => absurd h (by decide), fun h => absurd h.1 c⟩⟩
/-- a word: the class's comparison and the reference's number say the same -/
theorem wrd_eq (hFu : 6000 ≤ Fu) (hL : L ≤ 400) (hat : ∀ k, k < 400 → a k = t k) {s e : Nat} (hs : s < e) (he : e ≤ L) (hk : ∀ k, s ≤ k → k < e → isL (t k)) {i : Nat} (hi : i < 17) :
    ∃ r : Int32, (r = 0 ∨ r = 1) ∧ fX6_isWord Fu i a (i32 (s : Int)) (i32 (e : Int)) 1 = some r ∧ fX12_isWord 1 (wrth (fun k => (t (s + k)).toInt - 96) (e - s)) (i64 (hsh i)) = some r ∧ (r = 1 ↔ wrth (fun k => (t (s + k)).toInt - 96) (e - s) = i64 (hsh i)) ∧ (r = 1 → e - s = e_kL.getD i 0) := by
  have key := wrd_key hk hi
  obtain ⟨r, r1, r2, r3⟩ := wrd_cls hFu hL hat hs he hi
  refine ⟨r, r1, r2, ?_, r3.trans key.symm, fun h => (r3.mp h).1⟩
  unfold fX12_isWord fX12_isWord_L21
  rw [if_pos rfl]
  rcases r1 with rfl | rfl
  · rw [if_neg (fun h => absurd (r3.mpr (key.mp h)) (by decide))]
  · rw [if_pos (key.mpr (r3.mp rfl))]
/-- one token further: class and reference alike -/
theorem tok_at (hFu : 6000 ≤ Fu) (hL : L ≤ 400) (hat : ∀ k, k < 400 → a k = t k) {s : Nat} (hs : s ≤ L) {st bh tk0 nu0 to0 so0 : Int32} {wo0 : Int64} (hsp : s < L → t s ≠ 32) :
    ∃ e tk nu wo, TKR Fu L a s e tk nu wo ∧ fX6_advance_L35 Fu (i32 (L : Int)) a st bh tk0 nu0 (i32 (s : Int)) = some (i32 (s : Int), i32 (e : Int), i32 (tk.1 : Int), nu) ∧ fX12_next_L46 Fu t (i32 (L : Int)) (i32 (s : Int)) to0 so0 wo0 = some (i32 (s : Int), i32 (e : Int), i32 (tk.1 : Int), wo) := by
  have d149 : ∀ {so : Int32} {e : Nat} {w : Int64} {g : Nat}, so ≠ 1 → fX12_next_L149 Fu (g + 1) t (i32 (L : Int)) (i32 (s : Int)) (i32 (e : Int)) so w = fX12_next_L243 Fu Fu t (i32 (L : Int)) (i32 (s : Int)) (i32 (e : Int)) so w := by
    intro so e w g h
    rw [fX12_next_L149, if_neg h]
  have d243 : ∀ {so : Int32} {e : Nat} {w : Int64} {g : Nat}, so ≠ 2 → fX12_next_L243 Fu (g + 1) t (i32 (L : Int)) (i32 (s : Int)) (i32 (e : Int)) so w = some (i32 (s : Int), i32 (e : Int), so, w) := by
    intro so e w g h
    rw [fX12_next_L243, if_neg h]
  obtain ⟨G, eG⟩ : ∃ G, Fu = G + 1 := ⟨Fu - 1, by omega⟩
  by_cases c : s = L
  · subst c
    refine ⟨s, (0, 0), 0, 0, ⟨⟨by omega, by omega, by show 0 ≤ 3; omega, Or.inl ⟨rfl, rfl⟩⟩, (fun h => by cases h), (fun h => by cases h), ⟨fun c _ => ?_, fun i _ => ?_, (fun h => by cases h)⟩, ⟨fun c _ => ?_, fun i _ => ?_, (fun h => by cases h)⟩⟩, ?_, ?_⟩
    · rw [(sgn_no (k := 0) (wo := 0) (by omega) (by omega)).1, bI_no (by intro h; cases h)]
    · rw [(wrd_no (k := 0) (wo := 0) (w := 0) (by omega) (by omega)).1, bI_no (by intro h; cases h)]
    · rw [(sgn_no (L := 0) (a := a) (s := 0) (k := 0) (by omega) (by omega)).2, bI_no (by intro h; cases h)]
    · rw [(wrd_no (Fu := 0) (a := a) (i := 0) (s := 0) (e := 0) (k := 0) (by omega) (by omega)).2, bI_no (by intro h; cases h)]
    · unfold fX6_advance_L35 fX6_advance_L196
      have : fX9_at (i32 (s : Int)) a (i32 (s : Int)) = some (-1) := by
        unfold fX9_at fX9_at_L21
        rw [if_neg (show ¬ i32 (s : Int) < 0 by rw [i32_litN 0, i32_ltN (by omega) (by omega)]; omega), if_pos (show i32 (s : Int) ≤ i32 (s : Int) by rw [i32_leN (by omega) (by omega)]; omega)]
      rw [this, Option.bind_some, if_neg (show ¬ i32 (s : Int) < i32 (s : Int) by rw [i32_ltN (by omega) (by omega)]; omega)]; rfl
    · unfold fX12_next_L46 fX12_next_L114
      rw [if_pos rfl, if_neg (show ¬ (0 : Int32) = 3 by decide)]
      have h1 := d149 (so := 0) (e := s) (w := 0) (g := G) (by decide)
      have h2 := d243 (so := 0) (e := s) (w := 0) (g := G) (by decide)
      rw [← eG] at h1 h2
      rw [h1, h2]; rfl
  · have sL : s < L := by omega
    have ts := i32_t (j := s) (by omega)
    have g0 : ∀ {α : Type} (k : Option α), gd (i32 (s : Int)) 400 k = k := fun k => gd_ok (by omega) (by omega) (by omega)
    have ne : ¬ i32 (s : Int) = i32 (L : Int) := by rw [i32_eqN (by omega) (by omega)]; exact c
    have lt : i32 (s : Int) < i32 (L : Int) := by rw [i32_ltN (by omega) (by omega)]; exact sL
    have : Decidable (isL (t s)) := Classical.propDecidable _
    have : Decidable (isG (t s)) := Classical.propDecidable _
    have xl := x_let (t s)
    have xg := x_dig (t s)
    unfold fX6_advance_L35 fX12_next_L46
    rw [x_at hL sL, Option.bind_some, hat s (by omega), if_pos lt, if_neg ne, g0, ts, g0, xl.1, xl.2, xg.1, xg.2]
    simp only [Option.bind_some]
    by_cases cl : isL (t s)
    · have cz : ¬ bI (isL (t s)) = 0 := by rw [bI_0]; exact fun q => q cl
      obtain ⟨e, e1, e2, e3, e4, e5, e6⟩ := tk_let (Fu := Fu) (s := s) (bh := bh) hL hat (L - s) Fu Fu s (by omega) (by omega) (by omega) (by omega) (fun k h1 h2 => by omega)
      have se : s < e := by
        rcases Nat.lt_or_ge s e with h | h
        · exact h
        · have : e = s := by omega
          subst this; exact absurd cl (e4 sL)
      have wq := fun i (hi : i < 17) => wrd_eq hFu hL hat se e2 e3 hi
      obtain ⟨v, hv⟩ : ∃ v : Nat, ∀ i, i < 17 → (wrth (fun k => (t (s + k)).toInt - 96) (e - s) = i64 (hsh i) ↔ v = i) := by
        by_cases h : ∃ i, i < 17 ∧ wrth (fun k => (t (s + k)).toInt - 96) (e - s) = i64 (hsh i)
        · obtain ⟨i, hi, h⟩ := h
          refine ⟨i, fun j hj => ⟨fun h2 => ?_, fun h2 => by rw [← h2]; exact h⟩⟩
          rw [h] at h2
          have ri := hsh_rng ⟨i, hi⟩
          have rj := hsh_rng ⟨j, hj⟩
          have ri1 : 0 < hsh i := ri.1
          have ri2 : hsh i < 4503599627370496 := ri.2
          have rj1 : 0 < hsh j := rj.1
          have rj2 : hsh j < 4503599627370496 := rj.2
          rw [i64_eq (by omega) (by omega) (by omega) (by omega)] at h2
          have := hsh_ne ⟨i, hi⟩ ⟨j, hj⟩ h2
          exact congrArg Fin.val this
        · refine ⟨99, fun j hj => ⟨fun h2 => absurd ⟨j, hj, h2⟩ h, fun h2 => by omega⟩⟩
      refine ⟨e, (1, v), 0, wrth (fun k => (t (s + k)).toInt - 96) (e - s), ⟨⟨by omega, e2, by show 1 ≤ 3; omega, Or.inr ⟨by show 1 ≠ 0; omega, se⟩⟩, fun h => ?_, fun h => ?_, ⟨fun c _ => ?_, fun i hi => ?_, fun h => absurd (show (1 : Nat) = 2 from h) (by decide)⟩, ⟨fun c _ => ?_, fun i hi => ?_, fun h => absurd (show (1 : Nat) = 2 from h) (by decide)⟩⟩, ?_, ?_⟩
      · obtain ⟨r, r1, r2, r3, r4, r5⟩ := wq 16 (by omega)
        have := r5 (r4.mpr ((hv 16 (by omega)).mpr (congrArg Prod.snd h)))
        have k16 : e_kL.getD 16 0 = 2 := by decide
        omega
      · obtain ⟨r, r1, r2, r3, r4, r5⟩ := wq 15 (by omega)
        have := r5 (r4.mpr ((hv 15 (by omega)).mpr (congrArg Prod.snd h)))
        have k15 : e_kL.getD 15 0 = 3 := by decide
        omega
      · rw [(sgn_no (k := 1) (wo := 0) (by omega) (by omega)).1, bI_no (by intro h; cases h)]
      · obtain ⟨r, r1, r2, r3, r4, r5⟩ := wq i hi
        have r2' : fX6_isWord Fu i a (i32 (s : Int)) (i32 (e : Int)) (i32 (((1, v) : Nat × Nat).1 : Int)) = some r := r2
        rw [r2']
        by_cases q : v = i
        · rw [bI_yes (by rw [q]), r4.mpr ((hv i hi).mpr q)]
        · rw [bI_no (fun h => q (congrArg Prod.snd h))]
          rcases r1 with r1 | r1
          · rw [r1]
          · exact absurd ((hv i hi).mp (r4.mp r1)) q
      · rw [(sgn_no (L := 0) (a := a) (s := 0) (k := 1) (by omega) (by omega)).2, bI_no (by intro h; cases h)]
      · obtain ⟨r, r1, r2, r3, r4, r5⟩ := wq i hi
        have r3' : fX12_isWord (i32 (((1, v) : Nat × Nat).1 : Int)) (wrth (fun k => (t (s + k)).toInt - 96) (e - s)) (i64 (hsh i)) = some r := r3
        rw [r3']
        by_cases q : v = i
        · rw [bI_yes (by rw [q]), r4.mpr ((hv i hi).mpr q)]
        · rw [bI_no (fun h => q (congrArg Prod.snd h))]
          rcases r1 with r1 | r1
          · rw [r1]
          · exact absurd ((hv i hi).mp (r4.mp r1)) q
      · rw [if_neg cz]; exact e5
      · rw [if_neg cz]
        unfold fX12_next_L114
        rw [if_neg (show ¬ (1 : Int32) = 3 by decide)]
        have e6' : fX12_next_L149 Fu Fu t (i32 (L : Int)) (i32 (s : Int)) (i32 (s : Int)) 1 0 = fX12_next_L243 Fu Fu t (i32 (L : Int)) (i32 (s : Int)) (i32 (e : Int)) 1 (wrth (fun k => (t (s + k)).toInt - 96) (e - s)) := by
          rw [← e6, show s - s = 0 by omega]; rfl
        have h2 := d243 (so := 1) (e := e) (w := wrth (fun k => (t (s + k)).toInt - 96) (e - s)) (g := G) (by decide)
        rw [← eG] at h2
        rw [e6', h2]; rfl
    · have cz : bI (isL (t s)) = 0 := by rw [bI_0]; exact cl
      rw [if_pos cz, if_pos cz]
      by_cases cg : isG (t s)
      · have cy : ¬ bI (isG (t s)) = 0 := by rw [bI_0]; exact fun q => q cg
        rw [if_neg cy, if_neg cy]
        obtain ⟨e, nu, wo, e1, e2, e3, e4, e5, e6⟩ := tk_dig (Fu := Fu) (s := s) (bh := bh) hL hat (L - s) Fu Fu s 0 0 (by omega) (by omega) (by omega) (Or.inl ⟨by omega, rfl⟩)
        have se : s < e := by
          rcases Nat.lt_or_ge s e with h | h
          · exact h
          · have : e = s := by omega
            subst this; exact absurd cg (e3 sL)
        refine ⟨e, (2, nu), i32 (nu : Int), i64 wo, ⟨⟨by omega, e2, by show 2 ≤ 3; omega, Or.inr ⟨by show 2 ≠ 0; omega, se⟩⟩, (fun h => by cases h), (fun h => by cases h), ⟨fun c _ => ?_, fun i hi => ?_, fun _ => ⟨rfl, by show nu ≤ 1001; omega⟩⟩, ⟨fun c _ => ?_, fun i hi => ?_, fun _ => ?_⟩⟩, ?_, ?_⟩
        · rw [(sgn_no (k := 2) (wo := 0) (by omega) (by omega)).1, bI_no (by intro h; cases h)]
        · rw [(wrd_no (k := 2) (wo := 0) (w := 0) (by omega) (by omega)).1, bI_no (by intro h; cases h)]
        · rw [(sgn_no (L := 0) (a := a) (s := 0) (k := 2) (by omega) (by omega)).2, bI_no (by intro h; cases h)]
        · rw [(wrd_no (Fu := 0) (a := a) (i := 0) (s := 0) (e := 0) (k := 2) (by omega) (by omega)).2, bI_no (by intro h; cases h)]
        · show (nu ≤ 1000 ∧ i64 wo = i64 (nu : Int)) ∨ (1000 < nu ∧ (1000 : Int64) < i64 wo)
          rcases e4 with ⟨q1, q2⟩ | ⟨q1, q2, q3⟩
          · left; exact ⟨q1, by rw [q2]⟩
          · right; exact ⟨by omega, by rw [i64_litN 1000, i64_lt (by omega) (by omega) (by omega) (by omega)]; exact q2⟩
        · exact e5
        · unfold fX12_next_L114
          rw [if_neg (show ¬ (2 : Int32) = 3 by decide)]
          have h1 := d149 (so := 2) (e := s) (w := 0) (g := G) (by decide)
          rw [← eG] at h1
          rw [h1]; exact e6
      · have cy : bI (isG (t s)) = 0 := by rw [bI_0]; exact cg
        rw [if_pos cy, if_pos cy]
        obtain ⟨v, hv⟩ : ∃ v : Nat, ∀ c : Nat, c < 256 → (t s = i32 (c : Int) ↔ v = c) := by
          by_cases h : ∃ c : Nat, c < 256 ∧ t s = i32 (c : Int)
          · obtain ⟨c, hc, h⟩ := h
            refine ⟨c, fun d hd => ?_⟩
            rw [h, i32_eqN (by omega) (by omega)]
          · exact ⟨1000, fun d hd => ⟨fun h2 => absurd ⟨d, hd, h2⟩ h, fun h2 => by omega⟩⟩
        refine ⟨s + 1, (3, v), 0, (t s).toInt64, ⟨⟨by omega, by omega, by show 3 ≤ 3; omega, Or.inr ⟨by show 3 ≠ 0; omega, by omega⟩⟩, (fun h => by cases h), (fun h => by cases h), ⟨fun c hc => ?_, fun i hi => ?_, (fun h => by cases h)⟩, ⟨fun c hc => ?_, fun i hi => ?_, (fun h => by cases h)⟩⟩, ?_, ?_⟩
        · have := sg_c (a := a) (c := c) hL sL
          have h' : fX6_isSign (i32 (L : Int)) a (i32 (s : Int)) (i32 (((3, v) : Nat × Nat).1 : Int)) (i32 (c : Int)) = some (if a s = i32 (c : Int) then 1 else 0) := this
          rw [h', hat s (by omega)]
          by_cases q : v = c
          · rw [bI_yes (by rw [q]), if_pos ((hv c hc).mpr q)]
          · rw [bI_no (fun h => q (congrArg Prod.snd h)), if_neg (fun h => q ((hv c hc).mp h))]
        · rw [(wrd_no (k := 3) (wo := 0) (w := 0) (by omega) (by omega)).1, bI_no (by intro h; cases h)]
        · have h' : fX12_isSign (i32 (((3, v) : Nat × Nat).1 : Int)) (t s).toInt64 (i32 (c : Int)) = some (if t s = i32 (c : Int) then 1 else 0) := sg_m
          rw [h']
          by_cases q : v = c
          · rw [bI_yes (by rw [q]), if_pos ((hv c hc).mpr q)]
          · rw [bI_no (fun h => q (congrArg Prod.snd h)), if_neg (fun h => q ((hv c hc).mp h))]
        · rw [(wrd_no (Fu := 0) (a := a) (i := 0) (s := 0) (e := 0) (k := 3) (by omega) (by omega)).2, bI_no (by intro h; cases h)]
        · unfold fX6_advance_L196
          rw [i32_p1]; rfl
        · unfold fX12_next_L114
          rw [if_pos rfl, g0, ts, i32_p1]
          have h1 := d149 (so := 3) (e := s + 1) (w := (t s).toInt64) (g := G) (by decide)
          have h2 := d243 (so := 3) (e := s + 1) (w := (t s).toInt64) (g := G) (by decide)
          rw [← eG] at h1 h2
          rw [h1, h2]; rfl
theorem tok_sp (hFu : 6000 ≤ Fu) (hL : L ≤ 400) (hat : ∀ k, k < 400 → a k = t k) {st bh tk0 nu0 to0 so0 : Int32} {wo0 : Int64} : ∀ (d f g p : Nat), p + d = L → d < f → d < g →
    ∃ s e tk nu wo, p ≤ s ∧ TKR Fu L a s e tk nu wo ∧ fX6_advance_L5 Fu f (i32 (L : Int)) a st bh tk0 nu0 (i32 (p : Int)) = some (i32 (s : Int), i32 (e : Int), i32 (tk.1 : Int), nu) ∧ fX12_next_L8 Fu g t (i32 (L : Int)) (i32 (p : Int)) to0 so0 wo0 = some (i32 (s : Int), i32 (e : Int), i32 (tk.1 : Int), wo) := by
  intro d
  induction d with
  | zero =>
    intro f g p hp hf hg
    obtain ⟨f, rfl⟩ : ∃ f', f = f' + 1 := ⟨f - 1, by omega⟩
    obtain ⟨g, rfl⟩ : ∃ f', g = f' + 1 := ⟨g - 1, by omega⟩
    have le : i32 (L : Int) ≤ i32 (p : Int) := by rw [i32_leN (by omega) (by omega)]; omega
    obtain ⟨e, tk, nu, wo, h1, h2, h3⟩ := tok_at (st := st) (bh := bh) (tk0 := tk0) (nu0 := nu0) (to0 := to0) (so0 := so0) (wo0 := wo0) hFu hL hat (s := p) (by omega) (fun h => by omega)
    refine ⟨p, e, tk, nu, wo, by omega, h1, ?_, ?_⟩
    · rw [fX6_advance_L5, if_pos le]; exact h2
    · rw [fX12_next_L8, if_pos le]; exact h3
  | succ d ih =>
    intro f g p hp hf hg
    obtain ⟨f, rfl⟩ : ∃ f', f = f' + 1 := ⟨f - 1, by omega⟩
    obtain ⟨g, rfl⟩ : ∃ f', g = f' + 1 := ⟨g - 1, by omega⟩
    have le : ¬ i32 (L : Int) ≤ i32 (p : Int) := by rw [i32_leN (by omega) (by omega)]; omega
    rw [fX6_advance_L5, fX12_next_L8, if_neg le, if_neg le, x_at hL (by omega), Option.bind_some, hat p (by omega), gd_ok (by omega) (by omega) (by omega), i32_t (by omega)]
    by_cases c : t p = 32
    · rw [if_pos c, if_pos c, i32_p1]
      obtain ⟨s, e, tk, nu, wo, h0, h1, h2, h3⟩ := ih f g (p + 1) (by omega) (by omega) (by omega)
      exact ⟨s, e, tk, nu, wo, by omega, h1, h2, h3⟩
    · rw [if_neg c, if_neg c]
      obtain ⟨e, tk, nu, wo, h1, h2, h3⟩ := tok_at (st := st) (bh := bh) (tk0 := tk0) (nu0 := nu0) (to0 := to0) (so0 := so0) (wo0 := wo0) hFu hL hat (s := p) (by omega) (fun _ => c)
      exact ⟨p, e, tk, nu, wo, by omega, h1, h2, h3⟩
theorem tok_go (hFu : 6000 ≤ Fu) (hL : L ≤ 400) (hat : ∀ k, k < 400 → a k = t k) {p : Nat} (hp : p ≤ L) (st tk0 nu0 : Int32) (fr so0 : Int32) (wo0 : Int64) :
    ∃ s e tk nu wo, p ≤ s ∧ TKR Fu L a s e tk nu wo ∧ fX6_advance Fu (i32 (L : Int)) a st (i32 (p : Int)) tk0 nu0 = some (i32 (s : Int), i32 (e : Int), i32 (tk.1 : Int), nu) ∧ fX12_next Fu t (i32 (L : Int)) fr (i32 (p : Int)) so0 wo0 = some (i32 (s : Int), i32 (e : Int), i32 (tk.1 : Int), wo) := by
  unfold fX6_advance fX12_next
  exact tok_sp hFu hL hat (L - p) Fu Fu p (by omega) (by omega) (by omega)
end TOK2
