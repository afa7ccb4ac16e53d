/-! ===== the reference's pile ===== -/
abbrev PLt := List (Nat × Nat)
def PLr (pile at_ : Nat → Int32) : PLt → Prop
  | [] => True
  | x :: π => pile π.length = i32 (x.1 : Int) ∧ at_ π.length = i32 (x.2 : Int) ∧ PLr pile at_ π
def bnd (o : Nat) : Nat := if 30 ≤ o then 0 else if o = 29 then 1 else if o = 28 then 2 else if o = 27 then 3 else if o < 22 then 5 else if o < 24 then 6 else 4
def okO (x : Nat × Nat) : Prop := 20 ≤ x.1 ∧ x.1 < 32 ∧ x.2 < 400
def OKP (π : PLt) : Prop := ∀ x, x ∈ π → okO x
def hdB (π : PLt) (l : Nat) : Prop := match π with | [] => True | x :: _ => bnd x.1 < l
def inn : PLt → Int
  | [] => -1
  | x :: π => if 30 ≤ x.1 then (x.1 : Int) else inn π
def cmpd : PLt → Bool
  | [] => false
  | x :: π => if x.1 < 24 then cmpd π else if x.1 < 27 then true else false
abbrev CdS := Nat × (Nat → Int32) × (Nat → Int32)
def flu1 (x : Nat × Nat) (c : CdS) : CdS := if x.1 = 28 ∨ x.1 = 29 then (c.1, c.2.1, va_up c.2.2 x.2 (i32 (c.1 : Int))) else (c.1 + 1, va_up c.2.1 c.1 (i32 (x.1 : Int)), va_up c.2.2 c.1 0)
def flu : PLt → CdS → CdS
  | [], c => c
  | x :: ρ, c => flu ρ (flu1 x c)
theorem flu_app (ρ σ : PLt) (c : CdS) : flu (ρ ++ σ) c = flu σ (flu ρ c) := by
  induction ρ generalizing c with
  | nil => rfl
  | cons x ρ ih => exact ih (flu1 x c)
theorem flu_len (ρ : PLt) : ∀ c : CdS, c.1 ≤ (flu ρ c).1 ∧ (flu ρ c).1 ≤ c.1 + ρ.length := by
  induction ρ with
  | nil => intro c; exact ⟨Nat.le_refl _, Nat.le_refl _⟩
  | cons x ρ ih =>
    intro c
    have h := ih (flu1 x c)
    have g : c.1 ≤ (flu1 x c).1 ∧ (flu1 x c).1 ≤ c.1 + 1 := by
      unfold flu1
      by_cases d : x.1 = 28 ∨ x.1 = 29
      · rw [if_pos d]; exact ⟨Nat.le_refl _, Nat.le_succ _⟩
      · rw [if_neg d]; exact ⟨Nat.le_succ _, Nat.le_refl _⟩
    show c.1 ≤ (flu ρ (flu1 x c)).1 ∧ (flu ρ (flu1 x c)).1 ≤ c.1 + (ρ.length + 1)
    omega
theorem PLr.up {pile at_ : Nat → Int32} {u v : Int32} : ∀ {π : PLt} {k : Nat}, π.length ≤ k → PLr pile at_ π → PLr (va_up pile k u) (va_up at_ k v) π := by
  intro π
  induction π with
  | nil => intro k _ _; exact True.intro
  | cons x π ih =>
    intro k hk h
    have hk' : π.length + 1 ≤ k := hk
    refine ⟨?_, ?_, ih (by omega) h.2.2⟩
    · rw [va_up_ne _ _ (by omega)]; exact h.1
    · rw [va_up_ne _ _ (by omega)]; exact h.2.1
theorem PLr.push {pile at_ : Nat → Int32} {π : PLt} {o p : Nat} (h : PLr pile at_ π) : PLr (va_up pile π.length (i32 (o : Int))) (va_up at_ π.length (i32 (p : Int))) ((o, p) :: π) := ⟨va_up_at _ _ _, va_up_at _ _ _, h.up (Nat.le_refl _)⟩
theorem PLr.tail {pile at_ : Nat → Int32} : ∀ {ρ π : PLt}, PLr pile at_ (ρ ++ π) → PLr pile at_ π := by
  intro ρ
  induction ρ with
  | nil => intro π h; exact h
  | cons x ρ ih => intro π h; exact ih h.2.2
theorem OKP.tail {ρ π : PLt} (h : OKP (ρ ++ π)) : OKP π := fun x hx => h x (List.mem_append_right ρ hx)
theorem OKP.app {ρ π : PLt} (h1 : OKP ρ) (h2 : OKP π) : OKP (ρ ++ π) := fun x hx => (List.mem_append.mp hx).elim (h1 x) (h2 x)
theorem OKP.cons {x : Nat × Nat} {π : PLt} (h1 : okO x) (h2 : OKP π) : OKP (x :: π) := fun z hz => (List.mem_cons.mp hz).elim (fun e => by rw [e]; exact h1) (h2 z)
theorem v_binds : ∀ o : Fin 32, 20 ≤ o.val → fX12_binds (i32 ((o.val : Nat) : Int)) = some (i32 ((bnd o.val : Nat) : Int)) := by decide +kernel
theorem bnd_le : ∀ o, bnd o ≤ 6 := by
  intro o
  unfold bnd
  repeat' split
  all_goals omega
section PILE
variable {Fu : Nat} {pile at_ : Nat → Int32}
theorem v_settle (hFu : 6000 ≤ Fu) {l : Nat} (hl : l ≤ 6) {π : PLt} (hp : hdB π l) (h400 : π.length ≤ 400) : ∀ (ρ : PLt) (f : Nat) (c : CdS), ρ.length < f → OKP ρ → OKP π → PLr pile at_ (ρ ++ π) → (∀ x, x ∈ ρ → l ≤ bnd x.1) → c.1 + (ρ ++ π).length ≤ 400 →
    fX12_settle_L0 Fu f (i32 (c.1 : Int)) c.2.1 c.2.2 pile at_ (i32 (((ρ ++ π).length : Nat) : Int)) (i32 (l : Int)) = some (i32 ((flu ρ c).1 : Int), (flu ρ c).2.1, (flu ρ c).2.2, i32 ((π.length : Nat) : Int)) := by
  intro ρ
  induction ρ with
  | nil =>
    intro f c hf hk hpi hP hb hc
    obtain ⟨f, rfl⟩ : ∃ f', f = f' + 1 := ⟨f - 1, by omega⟩
    rw [fX12_settle_L0]
    cases π with
    | nil => rw [if_pos (by decide)]; rfl
    | cons x π =>
      have x32 := hpi x (List.mem_cons_self ..)
      have e : i32 (((([] : PLt) ++ x :: π).length : Nat) : Int) - 1 = i32 ((π.length : Nat) : Int) := by
        rw [i32_litN 1, i32_sub]; exact congrArg i32 (by show ((π.length + 1 : Nat) : Int) - 1 = _; omega)
      have h4 : π.length + 1 ≤ 400 := h400
      rw [e, if_neg (show ¬ i32 (((([] : PLt) ++ x :: π).length : Nat) : Int) ≤ 0 by
        show ¬ i32 ((π.length + 1 : Nat) : Int) ≤ 0
        rw [i32_litN 0, i32_leN (by omega) (by omega)]; omega), gd_ok (by omega) (by omega) (by omega), i32_t (by omega), hP.1, v_binds ⟨x.1, x32.2.1⟩ x32.1, Option.bind_some]
      have b6 := bnd_le x.1
      have hb' : bnd x.1 < l := hp
      rw [if_pos (show i32 ((bnd x.1 : Nat) : Int) < i32 (l : Int) by rw [i32_ltN (by omega) (by omega)]; exact hb')]
      rfl
  | cons x ρ ih =>
    intro f c hf hk hpi hP hb hc
    have hf' : ρ.length + 1 < f := hf
    obtain ⟨f, rfl⟩ : ∃ f', f = f' + 1 := ⟨f - 1, by omega⟩
    have hc' : c.1 + ((ρ ++ π).length + 1) ≤ 400 := hc
    have x32 := hk x (List.mem_cons_self ..)
    have bx := hb x (List.mem_cons_self ..)
    have b6 := bnd_le x.1
    have e : i32 (((x :: ρ ++ π).length : Nat) : Int) - 1 = i32 (((ρ ++ π).length : Nat) : Int) := by
      rw [i32_litN 1, i32_sub]; exact congrArg i32 (by show (((ρ ++ π).length + 1 : Nat) : Int) - 1 = _; omega)
    have g0 : ∀ {α : Type} (k : Option α), gd (i32 (((ρ ++ π).length : Nat) : Int)) 400 k = k := fun k => gd_ok (by omega) (by omega) (by omega)
    have tt := i32_t (j := (ρ ++ π).length) (by omega)
    have go := ih f (flu1 x c) (by omega) (fun z hz => hk z (List.mem_cons_of_mem _ hz)) hpi hP.2.2 (fun z hz => hb z (List.mem_cons_of_mem _ hz)) (by
      have := flu_len [x] c
      have h1 : (flu1 x c).1 ≤ c.1 + 1 := this.2
      omega)
    rw [fX12_settle_L0, e, if_neg (show ¬ i32 (((x :: ρ ++ π).length : Nat) : Int) ≤ 0 by
      show ¬ i32 (((ρ ++ π).length + 1 : Nat) : Int) ≤ 0
      rw [i32_litN 0, i32_leN (by omega) (by omega)]; omega)]
    have hp1 : pile (ρ ++ π).length = i32 (x.1 : Int) := hP.1
    have hp2 : at_ (ρ ++ π).length = i32 (x.2 : Int) := hP.2.1
    simp only [g0, tt, hp1]
    rw [v_binds ⟨x.1, x32.2.1⟩ x32.1, Option.bind_some, if_neg (show ¬ i32 ((bnd x.1 : Nat) : Int) < i32 (l : Int) by rw [i32_ltN (by omega) (by omega)]; omega)]
    show _ = some (i32 ((flu ρ (flu1 x c)).1 : Int), (flu ρ (flu1 x c)).2.1, (flu ρ (flu1 x c)).2.2, i32 ((π.length : Nat) : Int))
    rw [← go]
    unfold fX12_settle_L63
    have t2 := i32_t (j := x.2) (by have := x32.2.2; omega)
    have g2 : ∀ {α : Type} (k : Option α), gd (i32 (x.2 : Int)) 400 k = k := fun k => gd_ok (by omega) (by have := x32.2.2; omega) (by have := x32.2.2; omega)
    simp only [g0, tt, hp2, t2, g2]
    by_cases c28 : x.1 = 28
    · rw [if_pos (show i32 (x.1 : Int) = 28 by rw [c28]; rfl)]
      unfold flu1
      rw [if_pos (Or.inl c28)]
    · rw [if_neg (show ¬ i32 (x.1 : Int) = 28 by rw [i32_litN 28, i32_eqN (by have := x32.2.1; omega) (by omega)]; exact c28)]
      by_cases c29 : x.1 = 29
      · rw [if_pos (show i32 (x.1 : Int) = 29 by rw [c29]; rfl)]
        unfold flu1
        rw [if_pos (Or.inr c29)]
      · rw [if_neg (show ¬ i32 (x.1 : Int) = 29 by rw [i32_litN 29, i32_eqN (by have := x32.2.1; omega) (by omega)]; exact c29)]
        unfold fX12_emit flu1
        rw [if_neg (fun h => h.elim c28 c29), gd_ok (by omega) (by omega) (by omega), gd_ok (by omega) (by omega) (by omega), i32_t (by omega), Option.bind_some, i32_p1]
theorem v_stl (hFu : 6000 ≤ Fu) {l : Nat} (hl : l ≤ 6) {π ρ : PLt} (hp : hdB π l) {m : Nat} {op ar : Nat → Int32} {LL : Int32} (hLL : LL = i32 (l : Int)) (h1 : OKP ρ) (h2 : OKP π) (h3 : PLr pile at_ (ρ ++ π)) (h4 : ∀ x, x ∈ ρ → l ≤ bnd x.1) (h5 : m + (ρ ++ π).length ≤ 400) :
    fX12_settle Fu (i32 (m : Int)) op ar pile at_ (i32 (((ρ ++ π).length : Nat) : Int)) LL = some (i32 ((flu ρ (m, op, ar)).1 : Int), (flu ρ (m, op, ar)).2.1, (flu ρ (m, op, ar)).2.2, i32 ((π.length : Nat) : Int)) := by
  subst hLL
  have hlen : (ρ ++ π).length = ρ.length + π.length := List.length_append
  exact v_settle hFu hl hp (by omega) ρ Fu (m, op, ar) (by omega) h1 h2 h3 h4 h5
/-- whatever lies on the pile, it can be settled -/
theorem v_stlAny (hFu : 6000 ≤ Fu) {l : Nat} (hl : l ≤ 6) {m : Nat} {op ar : Nat → Int32} {LL : Int32} (hLL : LL = i32 (l : Int)) {π : PLt} (h2 : OKP π) (h3 : PLr pile at_ π) (h5 : m + π.length ≤ 400) : ∃ r, fX12_settle Fu (i32 (m : Int)) op ar pile at_ (i32 ((π.length : Nat) : Int)) LL = some r := by
  have split : ∀ π : PLt, ∃ ρ σ : PLt, π = ρ ++ σ ∧ hdB σ l ∧ ∀ x, x ∈ ρ → l ≤ bnd x.1 := by
    intro π
    induction π with
    | nil => exact ⟨[], [], rfl, True.intro, fun x hx => by cases hx⟩
    | cons x π ih =>
      by_cases c : bnd x.1 < l
      · exact ⟨[], x :: π, rfl, c, fun x hx => by cases hx⟩
      · obtain ⟨ρ, σ, e, h1, h2⟩ := ih
        refine ⟨x :: ρ, σ, by rw [e]; rfl, h1, fun z hz => ?_⟩
        rcases List.mem_cons.mp hz with hz | hz
        · rw [hz]; omega
        · exact h2 z hz
  obtain ⟨ρ, σ, e, g1, g2⟩ := split π
  subst e
  exact ⟨_, v_stl hFu hl g1 hLL (fun x hx => h2 x (List.mem_append_left σ hx)) h2.tail h3 g2 h5⟩
theorem v_innL {π : PLt} (h4 : π.length ≤ 400) : ∀ (n f : Nat) (τ σ : PLt), τ.length = n → π = τ ++ σ → n < f → OKP π → PLr pile at_ π → fX12_inner_L4 Fu f pile (i32 ((π.length : Nat) : Int)) (i32 (inn σ)) (i32 ((σ.length : Nat) : Int)) = some (i32 (inn π)) := by
  intro n
  induction n with
  | zero =>
    intro f τ σ ht e hf hk hP
    obtain ⟨f, rfl⟩ : ∃ f', f = f' + 1 := ⟨f - 1, by omega⟩
    have : τ = [] := List.length_eq_zero_iff.mp ht
    subst this
    have e' : π = σ := e
    subst e'
    rw [fX12_inner_L4, if_pos (by rw [i32_leN (by omega) (by omega)]; omega)]
  | succ n ih =>
    intro f τ σ ht e hf hk hP
    obtain ⟨f, rfl⟩ : ∃ f', f = f' + 1 := ⟨f - 1, by omega⟩
    obtain ⟨τ', x, e2⟩ : ∃ τ' x, τ = τ' ++ [x] := by
      rcases List.eq_nil_or_concat τ with h | ⟨τ', x, h⟩
      · rw [h] at ht; cases ht
      · exact ⟨τ', x, by rw [h]; exact List.concat_eq_append ..⟩
    have e3 : π = τ' ++ (x :: σ) := by rw [e, e2, List.append_assoc]; rfl
    have ht' : τ'.length = n := by rw [e2, List.length_append] at ht; simpa using ht
    have hl : π.length = τ'.length + (σ.length + 1) := by rw [e3, List.length_append]; rfl
    have hP' : PLr pile at_ (x :: σ) := by rw [e3] at hP; exact hP.tail
    have x32 := hk x (by rw [e3]; exact List.mem_append_right _ (List.mem_cons_self ..))
    rw [fX12_inner_L4, if_neg (by rw [i32_leN (by omega) (by omega)]; omega), gd_ok (by omega) (by omega) (by omega), gd_ok (by omega) (by omega) (by omega), i32_t (by omega), hP'.1, i32_p1]
    have go := ih f τ' (x :: σ) ht' e3 (by omega) hk hP
    have go' : fX12_inner_L4 Fu f pile (i32 ((π.length : Nat) : Int)) (i32 (if 30 ≤ x.1 then (x.1 : Int) else inn σ)) (i32 ((σ.length + 1 : Nat) : Int)) = some (i32 (inn π)) := go
    by_cases c : 30 ≤ x.1
    · rw [if_pos c] at go'
      rw [if_neg (show ¬ i32 (x.1 : Int) < 30 by rw [i32_litN 30, i32_ltN (by have := x32.2.1; omega) (by omega)]; omega)]
      exact go'
    · rw [if_neg c] at go'
      rw [if_pos (show i32 (x.1 : Int) < 30 by rw [i32_litN 30, i32_ltN (by have := x32.2.1; omega) (by omega)]; omega)]
      exact go'
theorem v_inner (hFu : 6000 ≤ Fu) {π : PLt} (h4 : π.length ≤ 400) (hk : OKP π) (hP : PLr pile at_ π) : fX12_inner Fu pile (i32 ((π.length : Nat) : Int)) = some (i32 (inn π)) := by
  unfold fX12_inner
  exact v_innL h4 π.length Fu π [] rfl (List.append_nil π).symm (by omega) hk hP
theorem v_cmpL : ∀ (π : PLt) (f : Nat), π.length ≤ 400 → π.length < f → OKP π → PLr pile at_ π → ∀ N : Int32, fX12_isCompared_L7 Fu f pile N (i32 ((π.length : Nat) : Int) - 1) = some (if cmpd π = true then 1 else 0) := by
  intro π
  induction π with
  | nil =>
    intro f _ hf _ _ N
    obtain ⟨f, rfl⟩ : ∃ f', f = f' + 1 := ⟨f - 1, by have : 0 < f := hf; omega⟩
    rw [fX12_isCompared_L7, if_pos (by decide)]
    unfold fX12_isCompared_L36
    rw [if_pos (by decide)]; rfl
  | cons x π ih =>
    intro f h4 hf hk hP N
    have h4' : π.length + 1 ≤ 400 := h4
    have hf' : π.length + 1 < f := hf
    obtain ⟨f, rfl⟩ : ∃ f', f = f' + 1 := ⟨f - 1, by omega⟩
    have x32 := hk x (List.mem_cons_self ..)
    have e : i32 (((x :: π).length : Nat) : Int) - 1 = i32 ((π.length : Nat) : Int) := by
      rw [i32_litN 1, i32_sub]; exact congrArg i32 (by show ((π.length + 1 : Nat) : Int) - 1 = _; omega)
    have n0 : ¬ i32 ((π.length : Nat) : Int) < 0 := by rw [i32_litN 0, i32_ltN (by omega) (by omega)]; omega
    have e64 : (i32 (x.1 : Int)).toInt64 = i64 (x.1 : Int) := i32_64 (by omega) (by have := x32.2.1; omega)
    rw [e, fX12_isCompared_L7, if_neg n0, gd_ok (by omega) (by omega) (by omega), i32_t (by omega), hP.1, e64, show (20 : Int64) = i64 20 from rfl, show (23 : Int64) = i64 23 from rfl, v_in (by have := x32.2.1; omega) (by have := x32.2.1; omega) (by omega) (by omega) (by omega) (by omega), Option.bind_some]
    unfold cmpd
    by_cases c : x.1 < 24
    · rw [if_neg (show ¬ bI ((20 : Int) ≤ (x.1 : Int) ∧ (x.1 : Int) ≤ 23) = 0 by rw [bI_0]; exact fun q => q ⟨by have := x32.1; omega, by omega⟩), if_pos c]
      have := ih f (by omega) (by omega) (fun z hz => hk z (List.mem_cons_of_mem _ hz)) hP.2.2 N
      rw [show i32 ((π.length : Nat) : Int) + (-1 : Int32) = i32 ((π.length : Nat) : Int) - 1 by rw [show (-1 : Int32) = i32 (-1) from rfl, i32_add, i32_litN 1, i32_sub]; rfl]
      exact this
    · rw [if_pos (show bI ((20 : Int) ≤ (x.1 : Int) ∧ (x.1 : Int) ≤ 23) = 0 by rw [bI_0]; intro q; omega), if_neg c]
      unfold fX12_isCompared_L36 fX12_isCompared_L63
      rw [if_neg n0, gd_ok (by omega) (by omega) (by omega), i32_t (by omega), hP.1, e64, show (24 : Int64) = i64 24 from rfl, show (26 : Int64) = i64 26 from rfl, v_in (by have := x32.2.1; omega) (by have := x32.2.1; omega) (by omega) (by omega) (by omega) (by omega), Option.bind_some]
      by_cases c2 : x.1 < 27
      · rw [if_neg (show ¬ bI ((24 : Int) ≤ (x.1 : Int) ∧ (x.1 : Int) ≤ 26) = 0 by rw [bI_0]; exact fun q => q ⟨by omega, by omega⟩), if_pos c2]; rfl
      · rw [if_pos (show bI ((24 : Int) ≤ (x.1 : Int) ∧ (x.1 : Int) ≤ 26) = 0 by rw [bI_0]; intro q; omega), if_neg c2]; rfl
theorem v_cmp (hFu : 6000 ≤ Fu) {π : PLt} (h4 : π.length ≤ 400) (hk : OKP π) (hP : PLr pile at_ π) : fX12_isCompared Fu pile (i32 ((π.length : Nat) : Int)) = some (if cmpd π = true then 1 else 0) := by
  unfold fX12_isCompared
  exact v_cmpL π Fu h4 (by omega) hk hP _
theorem inn_app {ρ π : PLt} (h : ∀ x, x ∈ ρ → 1 ≤ bnd x.1) : inn (ρ ++ π) = inn π := by
  induction ρ with
  | nil => rfl
  | cons x ρ ih =>
    have b := h x (List.mem_cons_self ..)
    show (if 30 ≤ x.1 then (x.1 : Int) else inn (ρ ++ π)) = inn π
    rw [if_neg (fun q => by unfold bnd at b; rw [if_pos q] at b; omega)]
    exact ih (fun z hz => h z (List.mem_cons_of_mem _ hz))
theorem cmp_app {ρ π : PLt} (h : ∀ x, x ∈ ρ → 5 ≤ bnd x.1) : cmpd (ρ ++ π) = cmpd π := by
  induction ρ with
  | nil => rfl
  | cons x ρ ih =>
    have b := h x (List.mem_cons_self ..)
    have c : x.1 < 24 := by
      unfold bnd at b
      repeat' split at b
      all_goals omega
    show (if x.1 < 24 then cmpd (ρ ++ π) else _) = cmpd π
    rw [if_pos c]
    exact ih (fun z hz => h z (List.mem_cons_of_mem _ hz))
theorem cmp_no {π : PLt} (h : hdB π 4) (hk : OKP π) : cmpd π = false := by
  cases π with
  | nil => rfl
  | cons x π =>
    have b : bnd x.1 < 4 := h
    have k := hk x (List.mem_cons_self ..)
    have c1 : ¬ x.1 < 24 := by
      intro q
      unfold bnd at b
      repeat' split at b
      all_goals omega
    have c2 : ¬ x.1 < 27 := by
      intro q
      unfold bnd at b
      repeat' split at b
      all_goals omega
    unfold cmpd
    rw [if_neg c1, if_neg c2]
end PILE
