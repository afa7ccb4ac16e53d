/-! ===== what a piece of the text must give: the class's recursion against the reference's pile ===== -/
def BADO (L s : Nat) (A : Nat → Option RE14) (r : RC8) : Prop := ∃ (n' s' k : Nat) (R : RE14), r.1 = 0 ∧ r.2.1 = i32 (n' : Int) ∧ n' ≤ 400 ∧ r.2.2.2.1 = i32 (s' : Int) ∧ s ≤ s' ∧ s' ≤ L ∧ k ≤ 3 * (s' - s) + 3 ∧ (∀ f, A (f + k) = some R) ∧ R.2.2.2.2.1 = i32 (s' : Int) ∧ R.2.2.2.2.2.1 = 1
def nlk (l : Nat) (tk : Nat × Nat) : Prop := (l = 6 ∨ l = 5 → tk ≠ (3, 42) ∧ tk ≠ (3, 47)) ∧ (l = 5 → tk ≠ (3, 43) ∧ tk ≠ (3, 45)) ∧ (l = 2 ∨ l = 1 → tk ≠ (1, 15)) ∧ (l = 1 → tk ≠ (1, 16))
/-- what has been read: code on both sides that means the same, with what still lies on the pile -/
def CODE (l n n' w m m' : Nat) (st st' op ar op' ar' : Nat → Int32) (ρ : PLt) (μ : Mn) : Prop :=
  XC st' n n' w μ ∧ (∀ j, j < n → st' j = st j) ∧ OKP ρ ∧ (∀ x, x ∈ ρ → l ≤ bnd x.1) ∧ MC (flu ρ (m', op', ar')).2.1 (flu ρ (m', op', ar')).2.2 m (flu ρ (m', op', ar')).1 w μ ∧ (∀ j, j < m → (flu ρ (m', op', ar')).2.1 j = op j ∧ (flu ρ (m', op', ar')).2.2 j = ar j) ∧ (l ≤ 4 → is01 μ)
def SUCS (l lk Fu : Nat) (wds : Nat → Int64) (test : Int32) (t a : Nat → Int32) (L : Nat) (fl : Int32) (dep : Nat) (π : PLt) (n np s m : Nat) (st op ar : Nat → Int32) (tout : Int32) (A : Nat → Option RE14) (s' : Nat) (r : RC8) : Prop :=
  ∃ (n' w e' : Nat) (tk' : Nat × Nat) (nu' : Int32) (wo' : Int64) (st' : Nat → Int32) (m' : Nat) (op' ar' pile' at' : Nat → Int32) (ρ : PLt) (μ : Mn) (k : Nat),
    r = (1, i32 (n' : Int), i32 ((np + w : Nat) : Int), i32 (s' : Int), i32 (e' : Int), i32 (tk'.1 : Int), nu', st') ∧ TKR Fu L a s' e' tk' nu' wo' ∧ nlk lk tk' ∧
    (s < s' ∧ np + w ≤ 50 ∧ n' ≤ n + (s' - s) ∧ m' + ρ.length ≤ m + (s' - s) ∧ k ≤ 3 * (s' - s)) ∧ CODE l n n' w m m' st st' op ar op' ar' ρ μ ∧ PLr pile' at' (ρ ++ π) ∧
    ∀ f, A (f + k) = LPm Fu wds test t L s' e' tk'.1 wo' fl 0 m' op' ar' (np + w) pile' at' (ρ ++ π).length dep tout f
def SUCO (l lk Fu : Nat) (wds : Nat → Int64) (test : Int32) (t a : Nat → Int32) (L : Nat) (fl : Int32) (dep : Nat) (π : PLt) (n np s m : Nat) (st op ar : Nat → Int32) (tout : Int32) (A : Nat → Option RE14) (r : RC8) : Prop := ∃ s', SUCS l lk Fu wds test t a L fl dep π n np s m st op ar tout A s' r
abbrev KFn := Int32 → (Nat → Int32) → Int32 → Int32 → Int32 → Int32 → Int32 → Int32 → (Nat → Int32) → Int32 → Option RC8
def PRE (l Fu L : Nat) (a : Nat → Int32) (test : Int32) (dep n np s e m : Nat) (tk : Nat × Nat) (nu : Int32) (wo : Int64) (pile at_ : Nat → Int32) (π : PLt) : Prop :=
  TKR Fu L a s e tk nu wo ∧ (n ≤ s ∧ np ≤ 50 ∧ m + π.length ≤ s ∧ dep ≤ 8) ∧ OKP π ∧ hdB π l ∧ PLr pile at_ π ∧ (l ≤ 4 → test = 1 ∧ inn π ≠ 31)
def CTR (l : Nat) (tin tout : Int32) (Fu : Nat) (wds : Nat → Int64) (test : Int32) (a t : Nat → Int32) (L : Nat) (fl : Int32) (dep : Nat) (F : KFn) : Prop :=
  ∀ (n np s e m : Nat) (tk : Nat × Nat) (nu : Int32) (wo : Int64) (st op ar pile at_ : Nat → Int32) (π : PLt), PRE l Fu L a test dep n np s e m tk nu wo pile at_ π →
    ∃ r, F (i32 (L : Int)) a (i32 (n : Int)) (i32 (np : Int)) (i32 (s : Int)) (i32 (e : Int)) (i32 (tk.1 : Int)) nu st (i32 (dep : Int)) = some r ∧
      (BADO L s (LPm Fu wds test t L s e tk.1 wo fl 0 m op ar np pile at_ π.length dep tin) r ∨ SUCO l l Fu wds test t a L fl dep π n np s m st op ar tout (LPm Fu wds test t L s e tk.1 wo fl 0 m op ar np pile at_ π.length dep tin) r)
theorem BADO.pre {L s s1 k1 : Nat} {A B : Nat → Option RE14} {r : RC8} (h : BADO L s1 B r) (hs : s ≤ s1) (hk : k1 ≤ 3 * (s1 - s)) (hA : ∀ f, A (f + k1) = B f) : BADO L s A r := by
  obtain ⟨n', s', k, R, q1, q2, q3, q4, q5, q6, q7, q8, q9, q10⟩ := h
  refine ⟨n', s', k + k1, R, q1, q2, q3, q4, by omega, q6, by omega, fun f => ?_, q9, q10⟩
  rw [show f + (k + k1) = f + k + k1 by omega, hA, q8]
/-- what comes after in the class changes neither the refusal nor its place -/
theorem BADO.post {L s : Nat} {A : Nat → Option RE14} {r r' : RC8} (h : BADO L s A r) (h1 : r'.1 = 0) (h2 : ∃ n' : Nat, r'.2.1 = i32 (n' : Int) ∧ n' ≤ 400) (h3 : r'.2.2.2.1 = r.2.2.2.1) : BADO L s A r' := by
  obtain ⟨n', s', k, R, q1, q2, q3, q4, q5, q6, q7, q8, q9, q10⟩ := h
  obtain ⟨n2, g1, g2⟩ := h2
  exact ⟨n2, s', k, R, h1, g1, g2, h3.trans q4, q5, q6, q7, q8, q9, q10⟩
section CTR
variable {Fu L s e : Nat} {a t : Nat → Int32} {tk : Nat × Nat} {nu fl test : Int32} {wo : Int64} {wds : Nat → Int64} {m np dep n : Nat} {st op ar pile at_ : Nat → Int32} {π : PLt}
theorem TKR.lt (h : TKR Fu L a s e tk nu wo) : s ≤ e ∧ e ≤ L ∧ tk.1 ≤ 3 := ⟨h.1.1, h.1.2.1, h.1.2.2.1⟩
theorem TKR.no (h : TKR Fu L a s e tk nu wo) (h0 : tk.1 ≠ 0) : s < e := by
  rcases h.1.2.2.2 with h | h
  · exact absurd h.1 h0
  · exact h.2
/-- a bracket opened -/
theorem v_open (hFu : 6000 ≤ Fu) (hP : PLr pile at_ π) (hl : π.length < 400) {B : Nat} {s2 e2 k2 : Nat} {wo2 : Int64} {F T S : Int32} {W : Int64} (hN : fX12_next Fu t (i32 (L : Int)) F T S W = some (i32 (s2 : Int), i32 (e2 : Int), i32 (k2 : Int), wo2)) (hd : dep < 8) :
    fX12_openBracket Fu t (i32 (L : Int)) F T S W fl 0 pile at_ (i32 ((π.length : Nat) : Int)) (i32 (dep : Int)) (i32 (B : Int)) = some (i32 (s2 : Int), i32 (e2 : Int), i32 (k2 : Int), wo2, fl, 0, va_up pile π.length (i32 (B : Int)), va_up at_ π.length (i32 ((0 : Nat) : Int)), i32 ((π.length + 1 : Nat) : Int), i32 ((dep + 1 : Nat) : Int)) := by
  unfold fX12_openBracket fX12_openBracket_L15
  rw [if_neg (show ¬ (8 : Int32) ≤ i32 (dep : Int) by rw [i32_litN 8, i32_leN (by omega) (by omega)]; omega), v_must1 hN (show (1 : Int32) ≠ 0 by decide), Option.bind_some]
  show (if (0 : Int32) = 0 then _ else _) = _
  rw [if_pos rfl, v_push hl, Option.bind_some, i32_p1]; rfl
theorem v_open0 {B D : Int32} {F T S : Int32} {W : Int64} (hd : ¬ dep < 8) (hd2 : dep ≤ 5000) :
    fX12_openBracket Fu t (i32 (L : Int)) F T S W fl 0 pile at_ D (i32 (dep : Int)) B = some (F, T, S, W, F, 1, pile, at_, D, i32 (dep : Int)) := by
  unfold fX12_openBracket fX12_openBracket_L15
  rw [if_pos (show (8 : Int32) ≤ i32 (dep : Int) by rw [i32_litN 8, i32_leN (by omega) (by omega)]; omega), v_must0, Option.bind_some]
  show (if (1 : Int32) = 0 then _ else _) = _
  rw [if_neg (show ¬ (1 : Int32) = 0 by decide)]
/-- a part that is no bracket, in the reference: taken -/
theorem v_part1 (hFu : 6000 ≤ Fu) (hw : WDS wds) (hT : TKR Fu L a s e tk nu wo) (hnp : np < 50) (hm : m < 400) (hg : isW tk ∨ tk.1 = 2 ∧ tk.2 ≤ 1000) {s2 e2 k2 : Nat} {wo2 : Int64} (hN : fX12_next Fu t (i32 (L : Int)) (i32 (s : Int)) (i32 (e : Int)) (i32 (tk.1 : Int)) wo = some (i32 (s2 : Int), i32 (e2 : Int), i32 (k2 : Int), wo2)) {D Q : Int32} :
    fX12_readPart Fu t (i32 (L : Int)) (i32 (s : Int)) (i32 (e : Int)) (i32 (tk.1 : Int)) wo fl 0 (i32 (m : Int)) op ar (i32 (np : Int)) pile at_ D Q wds = some (3, i32 (s2 : Int), i32 (e2 : Int), i32 (k2 : Int), wo2, fl, 0, i32 ((m + 1 : Nat) : Int), va_up op m (i32 (if tk.1 = 1 then (tk.2 : Int) - 2 else 0)), va_up ar m (i32 (if tk.1 = 1 then 0 else (tk.2 : Int))), i32 ((np + 1 : Nat) : Int), pile, at_, D, Q) := by
  have hm' := hT.2.2.2.2
  have n91 : ¬ tk = (3, 91) := by
    intro h; rw [h] at hg
    rcases hg with hg | hg
    · exact absurd hg.1 (by decide)
    · exact absurd hg.1 (by decide)
  have lf : ∀ (x2 x3 : Int32), fX12_leaf Fu t (i32 (L : Int)) (i32 (s : Int)) (i32 (e : Int)) (i32 (tk.1 : Int)) wo fl 0 (i32 (m : Int)) op ar (i32 (np : Int)) 1 x2 x3 = some (i32 (s2 : Int), i32 (e2 : Int), i32 (k2 : Int), wo2, fl, 0, i32 ((m + 1 : Nat) : Int), va_up op m x2, va_up ar m x3, i32 ((np + 1 : Nat) : Int)) := by
    intro x2 x3
    unfold fX12_leaf fX12_leaf_L19
    rw [if_neg (show ¬ (1 : Int32) = 0 by decide), if_neg (show ¬ (50 : Int32) ≤ i32 (np : Int) by rw [i32_litN 50, i32_leN (by omega) (by omega)]; omega), v_must1 hN (show (1 : Int32) ≠ 0 by decide), Option.bind_some]
    show (if (0 : Int32) = 0 then _ else _) = _
    rw [if_pos rfl, v_emit hm, Option.bind_some, i32_p1]
  have s91 := hm'.1 91 (by omega)
  unfold fX12_readPart
  have s91' : fX12_isSign (i32 (tk.1 : Int)) wo 91 = some (bI (tk = (3, 91))) := s91
  rw [s91', bI_no n91, Option.bind_some, if_pos rfl, v_partAt hFu hw hm', Option.bind_some]
  rcases hg with hg | ⟨hg1, hg2⟩
  · rw [if_pos (show tk.1 = 1 ∧ 3 ≤ tk.2 ∧ tk.2 < 13 from hg), if_pos (show tk.1 = 1 from hg.1), if_pos (show tk.1 = 1 from hg.1)]
    have n2 : ¬ i32 (tk.1 : Int) = 2 := by rw [i32_litN 2, i32_eqN (by have := hT.lt; omega) (by omega)]; have := hg.1; omega
    have nn : ¬ i32 ((tk.2 : Int) - 2) = -1 := by
      have h1 := hg.2.1
      have h2 := hg.2.2
      rw [show (-1 : Int32) = i32 (-1) from rfl, i32_eq (by omega) (by omega) (by omega) (by omega)]; omega
    rw [if_neg n2]
    unfold fX12_readPart_L45 fX12_readPart_L46 fX12_readPart_L62 fX12_readPart_L72 fX12_readPart_L85
    rw [if_neg nn, if_neg nn, if_pos rfl, lf, Option.bind_some]; rfl
  · have nW : ¬ (tk.1 = 1 ∧ 3 ≤ tk.2 ∧ tk.2 < 13) := fun q => by omega
    have y2 : i32 (tk.1 : Int) = 2 := by rw [hg1]; rfl
    rw [if_neg nW, if_neg (show ¬ tk.1 = 1 by omega), if_neg (show ¬ tk.1 = 1 by omega), if_pos y2]
    rcases hm'.2.2 hg1 with ⟨q1, q2⟩ | ⟨q1, q2⟩
    · rw [if_neg (show ¬ (1000 : Int64) < wo by rw [q2, i64_litN 1000, i64_lt (by omega) (by omega) (by omega) (by omega)]; omega)]
      unfold fX12_readPart_L46 fX12_readPart_L62 fX12_readPart_L72 fX12_readPart_L85
      rw [if_pos (show i32 (-1) = -1 from rfl), if_neg (show ¬ (1 : Int32) = 0 by decide), if_pos (show i32 (-1) = -1 from rfl), if_neg (show ¬ (1 : Int32) = 0 by decide), lf, Option.bind_some]
      rw [show wo.toInt32 = i32 (tk.2 : Int) by rw [q2, i64_32]]; rfl
    · omega
/-- a part that is no bracket, in the reference: refused -/
theorem v_part0 (hFu : 6000 ≤ Fu) (hw : WDS wds) (hT : TKR Fu L a s e tk nu wo) (hg : ¬ (isW tk ∨ tk.1 = 2 ∧ tk.2 ≤ 1000) ∨ ¬ np < 50) (hnp : np ≤ 50) (n91 : ¬ tk = (3, 91)) {D Q : Int32} :
    fX12_readPart Fu t (i32 (L : Int)) (i32 (s : Int)) (i32 (e : Int)) (i32 (tk.1 : Int)) wo fl 0 (i32 (m : Int)) op ar (i32 (np : Int)) pile at_ D Q wds = some (3, i32 (s : Int), i32 (e : Int), i32 (tk.1 : Int), wo, i32 (s : Int), 1, i32 (m : Int), op, ar, i32 (np : Int), pile, at_, D, Q) := by
  have hm' := hT.2.2.2.2
  have lf19 : ∀ (x2 x3 : Int32), fX12_leaf_L19 Fu t (i32 (L : Int)) (i32 (s : Int)) (i32 (e : Int)) (i32 (tk.1 : Int)) wo fl 0 (i32 (m : Int)) op ar (i32 (np : Int)) x2 x3 0 = some (i32 (s : Int), i32 (e : Int), i32 (tk.1 : Int), wo, i32 (s : Int), 1, i32 (m : Int), op, ar, i32 (np : Int)) := by
    intro x2 x3
    unfold fX12_leaf_L19
    rw [v_must0, Option.bind_some]
    show (if (1 : Int32) = 0 then _ else _) = _
    rw [if_neg (show ¬ (1 : Int32) = 0 by decide)]
  have lf0 : ∀ (x2 x3 : Int32), fX12_leaf Fu t (i32 (L : Int)) (i32 (s : Int)) (i32 (e : Int)) (i32 (tk.1 : Int)) wo fl 0 (i32 (m : Int)) op ar (i32 (np : Int)) 0 x2 x3 = some (i32 (s : Int), i32 (e : Int), i32 (tk.1 : Int), wo, i32 (s : Int), 1, i32 (m : Int), op, ar, i32 (np : Int)) := by
    intro x2 x3
    unfold fX12_leaf fX12_leaf_L18
    rw [if_pos rfl, lf19]
  have lf1 : ¬ np < 50 → ∀ (x2 x3 : Int32), fX12_leaf Fu t (i32 (L : Int)) (i32 (s : Int)) (i32 (e : Int)) (i32 (tk.1 : Int)) wo fl 0 (i32 (m : Int)) op ar (i32 (np : Int)) 1 x2 x3 = some (i32 (s : Int), i32 (e : Int), i32 (tk.1 : Int), wo, i32 (s : Int), 1, i32 (m : Int), op, ar, i32 (np : Int)) := by
    intro h x2 x3
    unfold fX12_leaf fX12_leaf_L18
    rw [if_neg (show ¬ (1 : Int32) = 0 by decide), if_pos (show (50 : Int32) ≤ i32 (np : Int) by rw [i32_litN 50, i32_leN (by omega) (by omega)]; omega), lf19]
  have s91 : fX12_isSign (i32 (tk.1 : Int)) wo 91 = some (bI (tk = (3, 91))) := hm'.1 91 (by omega)
  unfold fX12_readPart
  rw [s91, bI_no n91, Option.bind_some, if_pos rfl, v_partAt hFu hw hm', Option.bind_some]
  unfold fX12_readPart_L45 fX12_readPart_L46 fX12_readPart_L62 fX12_readPart_L72 fX12_readPart_L85
  by_cases c1 : tk.1 = 1 ∧ 3 ≤ tk.2 ∧ tk.2 < 13
  · have hn : ¬ np < 50 := hg.elim (fun h => absurd (Or.inl c1) h) id
    have n2 : ¬ i32 (tk.1 : Int) = 2 := by rw [i32_litN 2, i32_eqN (by have := hT.lt; omega) (by omega)]; omega
    have nn : ¬ i32 ((tk.2 : Int) - 2) = -1 := by rw [show (-1 : Int32) = i32 (-1) from rfl, i32_eq (by omega) (by omega) (by omega) (by omega)]; omega
    rw [if_pos c1, if_neg n2, if_neg nn, if_neg nn, if_pos rfl, lf1 hn, Option.bind_some]
  · rw [if_neg c1, if_pos (show i32 (-1) = -1 from rfl), if_pos (show i32 (-1) = -1 from rfl)]
    have z00 : ¬ (1 : Int32) = 0 := by decide
    by_cases c2 : tk.1 = 2
    · rw [if_pos (show i32 (tk.1 : Int) = 2 by rw [c2]; rfl)]
      rcases hm'.2.2 c2 with ⟨q1, q2⟩ | ⟨q1, q2⟩
      · have hn : ¬ np < 50 := hg.elim (fun h => absurd (Or.inr ⟨c2, q1⟩) h) id
        rw [if_neg (show ¬ (1000 : Int64) < wo by rw [q2, i64_litN 1000, i64_lt (by omega) (by omega) (by omega) (by omega)]; omega)]
        simp only [if_neg z00, if_pos (show i32 (-1) = -1 from rfl)]
        rw [lf1 hn, Option.bind_some]
      · rw [if_pos q2]
        simp only [↓reduceIte, if_pos (show i32 (-1) = -1 from rfl)]
        rw [lf0, Option.bind_some]
    · rw [if_neg (show ¬ i32 (tk.1 : Int) = 2 by rw [i32_litN 2, i32_eqN (by have := hT.lt; omega) (by omega)]; exact c2)]
      simp only [↓reduceIte, if_pos (show i32 (-1) = -1 from rfl)]
      rw [lf0, Option.bind_some]
end CTR
