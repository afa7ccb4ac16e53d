section EXPR
variable {Fu L s e : Nat} {a t : Nat → Int32} {tk : Nat × Nat} {nu fl : Int32} {wo : Int64} {wds : Nat → Int64} {m np n : Nat} {st op ar pile at_ : Nat → Int32} {PI OPN : Int32}
/-- what reading an expression gives: class's r, reference's x -/
def EXPO (Fu L : Nat) (a : Nat → Int32) (fl : Int32) (n np s m : Nat) (st op ar : Nat → Int32) (r : RC8) (x : Option RE14) (is : Prop) : Prop :=
  (∃ (n' s' : Nat) (R : RE14), r.1 = 0 ∧ r.2.1 = i32 (n' : Int) ∧ n' ≤ 400 ∧ r.2.2.2.1 = i32 (s' : Int) ∧ s' ≤ L ∧ x = some R ∧ R.2.2.2.2.1 = i32 (s' : Int) ∧ R.2.2.2.2.2.1 = 1) ∨
  (∃ (n' w s' e' : Nat) (tk' : Nat × Nat) (nu' : Int32) (wo' : Int64) (st' : Nat → Int32) (m' : Nat) (op' ar' pile' at' : Nat → Int32) (μ : Mn), r = (1, i32 (n' : Int), i32 ((np + w : Nat) : Int), i32 (s' : Int), i32 (e' : Int), i32 (tk'.1 : Int), nu', st') ∧ TKR Fu L a s' e' tk' nu' wo' ∧ (s < s' ∧ np + w ≤ 50 ∧ n' ≤ n + (s' - s) ∧ m' ≤ m + (s' - s)) ∧ XC st' n n' w μ ∧ (∀ j, j < n → st' j = st j) ∧ MC op' ar' m m' w μ ∧ (∀ j, j < m → op' j = op j ∧ ar' j = ar j) ∧ (is → is01 μ) ∧
    x = some (i32 (s' : Int), i32 (e' : Int), i32 (tk'.1 : Int), wo', fl, 0, i32 (m' : Int), op', ar', i32 ((np + w : Nat) : Int), pile', at', 0, 0))
theorem LP_end (hFu : 6000 ≤ Fu) {test : Int32} {ρ : PLt} (h1 : OKP ρ) (h3 : PLr pile at_ (ρ ++ [])) (h4 : ∀ x, x ∈ ρ → 1 ≤ bnd x.1) (h5 : m + (ρ ++ []).length ≤ 400) (f : Nat) :
    fX12_readExpression_L20 Fu (f + 1) t (i32 (L : Int)) (i32 (s : Int)) (i32 (e : Int)) (i32 (tk.1 : Int)) wo fl 0 (i32 (m : Int)) op ar (i32 (np : Int)) pile at_ (i32 (((ρ ++ []).length : Nat) : Int)) 0 wds test 4 = some (i32 (s : Int), i32 (e : Int), i32 (tk.1 : Int), wo, fl, 0, i32 ((flu ρ (m, op, ar)).1 : Int), (flu ρ (m, op, ar)).2.1, (flu ρ (m, op, ar)).2.2, i32 (np : Int), pile, at_, 0, 0) := by
  rw [fX12_readExpression_L20, if_pos rfl, if_pos rfl]
  unfold fX12_readExpression_L76
  rw [v_stl (LL := 1) hFu (l := 1) (by omega) (π := []) True.intro rfl h1 (fun x hx => by cases hx) h3 h4 h5]
  rfl
theorem ex_sum (hFu : 6000 ≤ Fu) (hL : L ≤ 400) (hat : ∀ k, k < 400 → a k = t k) (hw : WDS wds) (hT : TKR Fu L a s e tk nu wo) (b1 : n ≤ s) (b2 : np ≤ 50) (b3 : m ≤ s) :
    ∃ r, fX6_readSumK Fu (i32 (L : Int)) a (i32 (n : Int)) (i32 (np : Int)) (i32 (s : Int)) (i32 (e : Int)) (i32 (tk.1 : Int)) nu st 0 = some r ∧ EXPO Fu L a fl n np s m st op ar r (fX12_readExpression Fu t (i32 (L : Int)) (i32 (s : Int)) (i32 (e : Int)) (i32 (tk.1 : Int)) wo fl 0 (i32 (m : Int)) op ar (i32 (np : Int)) pile at_ PI OPN wds 0) False := by
  have lt := hT.lt
  obtain ⟨r, hr, ho⟩ := c_sumK (test := 0) (fl := fl) (dep := 0) hFu hL hat hw (by omega) n np s e m tk nu wo st op ar pile at_ [] ⟨hT, ⟨b1, b2, by show m + 0 ≤ s; omega, by omega⟩, (fun x hx => by cases hx), True.intro, True.intro, fun h => by omega⟩
  refine ⟨r, hr, ?_⟩
  have ex : fX12_readExpression Fu t (i32 (L : Int)) (i32 (s : Int)) (i32 (e : Int)) (i32 (tk.1 : Int)) wo fl 0 (i32 (m : Int)) op ar (i32 (np : Int)) pile at_ PI OPN wds 0 = LPm Fu wds 0 t L s e tk.1 wo fl 0 m op ar np pile at_ ([] : PLt).length 0 1 Fu := by
    unfold fX12_readExpression fX12_readExpression_L19
    rw [if_pos rfl]; rfl
  rw [ex]
  rcases ho with ⟨n', s', k, R, q1, q2, q3, q4, q5, q6, q7, q8, q9, q10⟩ | ⟨s1, n1, w1, e1, tk1, nu1, wo1, st1, m1, op1, ar1, pile1, at1, ρ1, μ1, k1, er, hT1, nl1, ⟨z1, z2, z3, z4, z5⟩, hC1, hP1, hA1⟩
  · left
    refine ⟨n', s', R, q1, q2, q3, q4, q6, ?_, q9, q10⟩
    rw [show Fu = (Fu - k) + k by omega]
    have := q8 (Fu - k)
    rw [show Fu - k + k = Fu by omega] at this ⊢
    exact this
  · right
    have lt1 := hT1.lt
    have hlen1 : (ρ1 ++ ([] : PLt)).length = ρ1.length := by rw [List.append_nil]
    obtain ⟨hX1, hX2, hX3, hX4, hX5, hX6, hX7⟩ := hC1
    have flL2 : (flu ρ1 (m1, op1, ar1)).1 ≤ m1 + ρ1.length := (flu_len ρ1 (m1, op1, ar1)).2
    have hinn : fX12_inner Fu pile1 (i32 (((ρ1 ++ ([] : PLt)).length : Nat) : Int)) = some (-1) := by
      rw [v_inner hFu (by omega) (hX3.app (fun x hx => by cases hx)) hP1, inn_app (fun x hx => by have := hX4 x hx; omega)]; rfl
    have hbs : fX12_behindSum Fu t (i32 (L : Int)) (i32 (s1 : Int)) (i32 (e1 : Int)) (i32 (tk1.1 : Int)) wo1 fl 0 (i32 (m1 : Int)) op1 ar1 pile1 at1 (i32 (((ρ1 ++ ([] : PLt)).length : Nat) : Int)) (i32 ((0 : Nat) : Int)) 0 = some (4, i32 (s1 : Int), i32 (e1 : Int), i32 (tk1.1 : Int), wo1, fl, 0, i32 (m1 : Int), op1, ar1, pile1, at1, i32 (((ρ1 ++ ([] : PLt)).length : Nat) : Int), 0) := by
      rw [v_bs hT1.2.2.2.2 (nl1.2.1 rfl).1 (nl1.2.1 rfl).2 (nl1.1 (Or.inr rfl)).1 (nl1.1 (Or.inr rfl)).2]
      unfold fX12_behindSum_L57
      rw [if_pos rfl, hinn, Option.bind_some, if_neg (show ¬ (-1 : Int32) = 31 by decide), if_pos rfl, if_pos rfl]; rfl
    refine ⟨n1, w1, s1, e1, tk1, nu1, wo1, st1, (flu ρ1 (m1, op1, ar1)).1, (flu ρ1 (m1, op1, ar1)).2.1, (flu ρ1 (m1, op1, ar1)).2.2, pile1, at1, μ1, er, hT1, ⟨z1, z2, z3, by omega⟩, hX1, hX2, hX5, hX6, fun h => h.elim, ?_⟩
    have := hA1 (Fu - k1)
    rw [show Fu - k1 + k1 = Fu by omega] at this
    rw [this, show Fu - k1 = (Fu - k1 - 2) + 1 + 1 by omega]
    exact (LP_3 hbs _).trans (LP_end (np := np + w1) hFu hX3 hP1 (fun x hx => by have := hX4 x hx; omega) (by omega) _)
theorem ex_test (hFu : 6000 ≤ Fu) (hL : L ≤ 400) (hat : ∀ k, k < 400 → a k = t k) (hw : WDS wds) (hT : TKR Fu L a s e tk nu wo) (b1 : n ≤ s) (b2 : np ≤ 50) (b3 : m ≤ s) :
    ∃ r, fX6_readTestK Fu (i32 (L : Int)) a (i32 (n : Int)) (i32 (np : Int)) (i32 (s : Int)) (i32 (e : Int)) (i32 (tk.1 : Int)) nu st 0 = some r ∧ EXPO Fu L a fl n np s m st op ar r (fX12_readExpression Fu t (i32 (L : Int)) (i32 (s : Int)) (i32 (e : Int)) (i32 (tk.1 : Int)) wo fl 0 (i32 (m : Int)) op ar (i32 (np : Int)) pile at_ PI OPN wds 1) True := by
  have lt := hT.lt
  obtain ⟨r, hr, ho⟩ := c_testK (test := 1) (fl := fl) (dep := 0) hFu hL hat hw (by omega) n np s e m tk nu wo st op ar pile at_ [] ⟨hT, ⟨b1, b2, by show m + 0 ≤ s; omega, by omega⟩, (fun x hx => by cases hx), True.intro, True.intro, fun _ => ⟨rfl, by show (-1 : Int) ≠ 31; omega⟩⟩
  refine ⟨r, hr, ?_⟩
  have ex : fX12_readExpression Fu t (i32 (L : Int)) (i32 (s : Int)) (i32 (e : Int)) (i32 (tk.1 : Int)) wo fl 0 (i32 (m : Int)) op ar (i32 (np : Int)) pile at_ PI OPN wds 1 = LPm Fu wds 1 t L s e tk.1 wo fl 0 m op ar np pile at_ ([] : PLt).length 0 0 Fu := by
    unfold fX12_readExpression fX12_readExpression_L19
    rw [if_neg (show ¬ (1 : Int32) = 0 by decide)]; rfl
  rw [ex]
  rcases ho with ⟨n', s', k, R, q1, q2, q3, q4, q5, q6, q7, q8, q9, q10⟩ | ⟨s1, n1, w1, e1, tk1, nu1, wo1, st1, m1, op1, ar1, pile1, at1, ρ1, μ1, k1, er, hT1, nl1, ⟨z1, z2, z3, z4, z5⟩, hC1, hP1, hA1⟩
  · left
    refine ⟨n', s', R, q1, q2, q3, q4, q6, ?_, q9, q10⟩
    have := q8 (Fu - k)
    rw [show Fu - k + k = Fu by omega] at this
    exact this
  · right
    have lt1 := hT1.lt
    have hlen1 : (ρ1 ++ ([] : PLt)).length = ρ1.length := by rw [List.append_nil]
    obtain ⟨hX1, hX2, hX3, hX4, hX5, hX6, hX7⟩ := hC1
    have flL2 : (flu ρ1 (m1, op1, ar1)).1 ≤ m1 + ρ1.length := (flu_len ρ1 (m1, op1, ar1)).2
    have hinn : fX12_inner Fu pile1 (i32 (((ρ1 ++ ([] : PLt)).length : Nat) : Int)) = some (-1) := by
      rw [v_inner hFu (by omega) (hX3.app (fun x hx => by cases hx)) hP1, inn_app hX4]; rfl
    have hbs : fX12_behindTest Fu t (i32 (L : Int)) (i32 (s1 : Int)) (i32 (e1 : Int)) (i32 (tk1.1 : Int)) wo1 fl 0 (i32 (m1 : Int)) op1 ar1 pile1 at1 (i32 (((ρ1 ++ ([] : PLt)).length : Nat) : Int)) (i32 ((0 : Nat) : Int)) = some (4, i32 (s1 : Int), i32 (e1 : Int), i32 (tk1.1 : Int), wo1, fl, 0, i32 (m1 : Int), op1, ar1, pile1, at1, i32 (((ρ1 ++ ([] : PLt)).length : Nat) : Int), 0) := by
      rw [v_bt hT1.2.2.2.2 (nl1.2.2.1 (Or.inr rfl)) (nl1.2.2.2 rfl) hinn, if_pos rfl]; rfl
    refine ⟨n1, w1, s1, e1, tk1, nu1, wo1, st1, (flu ρ1 (m1, op1, ar1)).1, (flu ρ1 (m1, op1, ar1)).2.1, (flu ρ1 (m1, op1, ar1)).2.2, pile1, at1, μ1, er, hT1, ⟨z1, z2, z3, by omega⟩, hX1, hX2, hX5, hX6, fun _ => hX7 (by omega), ?_⟩
    have := hA1 (Fu - k1)
    rw [show Fu - k1 + k1 = Fu by omega] at this
    rw [this, show Fu - k1 = (Fu - k1 - 2) + 1 + 1 by omega]
    exact (LP_2 hbs _).trans (LP_end (np := np + w1) hFu hX3 hP1 hX4 (by omega) _)
end EXPR
