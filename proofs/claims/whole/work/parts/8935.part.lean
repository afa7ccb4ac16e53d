section PART
variable {Fu L s e : Nat} {a t : Nat → Int32} {tk : Nat × Nat} {nu fl test : Int32} {wo : Int64} {wds : Nat → Int64} {m np dep n : Nat} {st op ar pile at_ : Nat → Int32} {π : PLt} {kS : KFn}
theorem LP_1 {d : Nat} {r} (h : fX12_readPart Fu t (i32 (L : Int)) (i32 (s : Int)) (i32 (e : Int)) (i32 (tk.1 : Int)) wo fl 0 (i32 (m : Int)) op ar (i32 (np : Int)) pile at_ (i32 (d : Int)) (i32 (dep : Int)) wds = some r) (f : Nat) :
    LPm Fu wds test t L s e tk.1 wo fl 0 m op ar np pile at_ d dep 1 (f + 1) = fX12_readExpression_L20 Fu f t (i32 (L : Int)) r.2.1 r.2.2.1 r.2.2.2.1 r.2.2.2.2.1 r.2.2.2.2.2.1 r.2.2.2.2.2.2.1 r.2.2.2.2.2.2.2.1 r.2.2.2.2.2.2.2.2.1 r.2.2.2.2.2.2.2.2.2.1 r.2.2.2.2.2.2.2.2.2.2.1 r.2.2.2.2.2.2.2.2.2.2.2.1 r.2.2.2.2.2.2.2.2.2.2.2.2.1 r.2.2.2.2.2.2.2.2.2.2.2.2.2.1 r.2.2.2.2.2.2.2.2.2.2.2.2.2.2 wds test r.1 := by
  unfold LPm
  rw [fX12_readExpression_L20, if_pos rfl, if_neg (show ¬ (1 : Int32) = 4 by decide), if_neg (show ¬ (1 : Int32) = 0 by decide), if_pos rfl, h]
  rfl
theorem LP_3 {d : Nat} {r} (h : fX12_behindSum Fu t (i32 (L : Int)) (i32 (s : Int)) (i32 (e : Int)) (i32 (tk.1 : Int)) wo fl 0 (i32 (m : Int)) op ar pile at_ (i32 (d : Int)) (i32 (dep : Int)) test = some r) (f : Nat) :
    LPm Fu wds test t L s e tk.1 wo fl 0 m op ar np pile at_ d dep 3 (f + 1) = fX12_readExpression_L20 Fu f t (i32 (L : Int)) r.2.1 r.2.2.1 r.2.2.2.1 r.2.2.2.2.1 r.2.2.2.2.2.1 r.2.2.2.2.2.2.1 r.2.2.2.2.2.2.2.1 r.2.2.2.2.2.2.2.2.1 r.2.2.2.2.2.2.2.2.2.1 (i32 (np : Int)) r.2.2.2.2.2.2.2.2.2.2.1 r.2.2.2.2.2.2.2.2.2.2.2.1 r.2.2.2.2.2.2.2.2.2.2.2.2.1 r.2.2.2.2.2.2.2.2.2.2.2.2.2 wds test r.1 := by
  unfold LPm
  rw [fX12_readExpression_L20, if_pos rfl, if_neg (show ¬ (3 : Int32) = 4 by decide), if_neg (show ¬ (3 : Int32) = 0 by decide), if_neg (show ¬ (3 : Int32) = 1 by decide), if_pos rfl, h]
  rfl
theorem LP_2 {d : Nat} {r} (h : fX12_behindTest Fu t (i32 (L : Int)) (i32 (s : Int)) (i32 (e : Int)) (i32 (tk.1 : Int)) wo fl 0 (i32 (m : Int)) op ar pile at_ (i32 (d : Int)) (i32 (dep : Int)) = some r) (f : Nat) :
    LPm Fu wds test t L s e tk.1 wo fl 0 m op ar np pile at_ d dep 2 (f + 1) = fX12_readExpression_L20 Fu f t (i32 (L : Int)) r.2.1 r.2.2.1 r.2.2.2.1 r.2.2.2.2.1 r.2.2.2.2.2.1 r.2.2.2.2.2.2.1 r.2.2.2.2.2.2.2.1 r.2.2.2.2.2.2.2.2.1 r.2.2.2.2.2.2.2.2.2.1 (i32 (np : Int)) r.2.2.2.2.2.2.2.2.2.2.1 r.2.2.2.2.2.2.2.2.2.2.2.1 r.2.2.2.2.2.2.2.2.2.2.2.2.1 r.2.2.2.2.2.2.2.2.2.2.2.2.2 wds test r.1 := by
  unfold LPm
  rw [fX12_readExpression_L20, if_pos rfl, if_neg (show ¬ (2 : Int32) = 4 by decide), if_neg (show ¬ (2 : Int32) = 0 by decide), if_neg (show ¬ (2 : Int32) = 1 by decide), if_neg (show ¬ (2 : Int32) = 3 by decide), h]
  rfl
theorem LP_0 {d : Nat} {r} (h : fX12_readPlain Fu t (i32 (L : Int)) (i32 (s : Int)) (i32 (e : Int)) (i32 (tk.1 : Int)) wo fl 0 (i32 (m : Int)) op ar (i32 (np : Int)) pile at_ (i32 (d : Int)) (i32 (dep : Int)) wds = some r) (f : Nat) :
    LPm Fu wds test t L s e tk.1 wo fl 0 m op ar np pile at_ d dep 0 (f + 1) = fX12_readExpression_L20 Fu f t (i32 (L : Int)) r.2.1 r.2.2.1 r.2.2.2.1 r.2.2.2.2.1 r.2.2.2.2.2.1 r.2.2.2.2.2.2.1 r.2.2.2.2.2.2.2.1 r.2.2.2.2.2.2.2.2.1 r.2.2.2.2.2.2.2.2.2.1 r.2.2.2.2.2.2.2.2.2.2.1 r.2.2.2.2.2.2.2.2.2.2.2.1 r.2.2.2.2.2.2.2.2.2.2.2.2.1 r.2.2.2.2.2.2.2.2.2.2.2.2.2.1 r.2.2.2.2.2.2.2.2.2.2.2.2.2.2 wds test r.1 := by
  unfold LPm
  rw [fX12_readExpression_L20, if_pos rfl, if_neg (show ¬ (0 : Int32) = 4 by decide), if_pos rfl, h]
  rfl
theorem x_part1 (hT : TKR Fu L a s e tk nu wo) (hnp : np < 50) (hn : n < 400) (hg : isW tk ∨ tk.1 = 2 ∧ tk.2 ≤ 1000) {s2 e2 k2 : Nat} {nu2 : Int32} (hN : fX6_advance Fu (i32 (L : Int)) a (i32 (s : Int)) (i32 (e : Int)) (i32 (tk.1 : Int)) nu = some (i32 (s2 : Int), i32 (e2 : Int), i32 (k2 : Int), nu2)) {D : Int32} :
    fX6_readPart Fu kS (i32 (L : Int)) a (i32 (n : Int)) (i32 (np : Int)) (i32 (s : Int)) (i32 (e : Int)) (i32 (tk.1 : Int)) nu st D = some (1, i32 ((n + 1 : Nat) : Int), i32 ((np + 1 : Nat) : Int), i32 (s2 : Int), i32 (e2 : Int), i32 (k2 : Int), nu2, va_up st n (i32 (((if tk.1 = 1 then 1024 + (tk.2 - 3) else tk.2) : Nat) : Int))) := by
  have hc := hT.2.2.2.1
  have n91 : ¬ tk = (3, 91) := by
    intro h; rw [h] at hg
    rcases hg with hg | hg
    · exact absurd hg.1 (by decide)
    · exact absurd hg.1 (by decide)
  have s91 : fX6_isSign (i32 (L : Int)) a (i32 (s : Int)) (i32 (tk.1 : Int)) 91 = some (bI (tk = (3, 91))) := hc.1 91 (by omega)
  have l50 : i32 (np : Int) < 50 := by rw [i32_litN 50, i32_ltN (by omega) (by omega)]; exact hnp
  unfold fX6_readPart
  rw [s91, bI_no n91, Option.bind_some, if_pos rfl, x_wordRead hc, Option.bind_some]
  unfold fX6_readPart_L42 fX6_readPart_L43 fX6_readPart_L53 fX6_readPart_L84 fX6_readPart_L96
  rcases hg with hg | ⟨hg1, hg2⟩
  · have h1 : tk.1 = 1 := hg.1
    have h2 : 3 ≤ tk.2 := hg.2.1
    have h3 : tk.2 < 13 := hg.2.2
    have n2 : ¬ i32 (tk.1 : Int) = 2 := by rw [i32_litN 2, i32_eqN (by omega) (by omega)]; omega
    have nn : ¬ i32 ((tk.2 : Int) - 3) = -1 := by rw [show (-1 : Int32) = i32 (-1) from rfl, i32_eq (by omega) (by omega) (by omega) (by omega)]; omega
    rw [if_pos (show tk.1 = 1 ∧ 3 ≤ tk.2 ∧ tk.2 < 13 from hg), if_neg n2, if_neg nn, if_pos l50, if_pos rfl, if_pos rfl, x_emit hn, Option.bind_some, hN, Option.bind_some, if_pos h1, i32_p1]
    rw [show (1 : Int32) * 1024 + i32 ((tk.2 : Int) - 3) = i32 ((1024 + (tk.2 - 3) : Nat) : Int) by rw [i32_litN 1, i32_litN 1024, i32_mul, i32_add]; exact congrArg i32 (by omega)]
  · have y2 : i32 (tk.1 : Int) = 2 := by rw [hg1]; rfl
    have enu := (hc.2.2 hg1).1
    have z1 : ¬ (1 : Int32) = 0 := by decide
    rw [if_neg (show ¬ (tk.1 = 1 ∧ 3 ≤ tk.2 ∧ tk.2 < 13) by omega), if_pos y2, if_neg (show ¬ (1000 : Int32) < nu by rw [enu, i32_litN 1000, i32_ltN (by omega) (by omega)]; omega), if_pos (show i32 (-1) = -1 from rfl), if_neg z1, if_pos l50, if_neg z1, if_neg z1, x_emit hn, Option.bind_some, hN, Option.bind_some, if_neg (show ¬ tk.1 = 1 by omega), i32_p1]
    rw [show (0 : Int32) * 1024 + nu = i32 (tk.2 : Int) by rw [enu, i32_litN 0, i32_litN 1024, i32_mul, i32_add]; exact congrArg i32 (by omega)]
theorem x_part0 (hT : TKR Fu L a s e tk nu wo) (hg : ¬ (isW tk ∨ tk.1 = 2 ∧ tk.2 ≤ 1000) ∨ ¬ np < 50) (hnp : np ≤ 50) (n91 : ¬ tk = (3, 91)) {N D : Int32} :
    fX6_readPart Fu kS (i32 (L : Int)) a N (i32 (np : Int)) (i32 (s : Int)) (i32 (e : Int)) (i32 (tk.1 : Int)) nu st D = some (0, N, i32 (np : Int), i32 (s : Int), i32 (e : Int), i32 (tk.1 : Int), nu, st) := by
  have hc := hT.2.2.2.1
  have s91 : fX6_isSign (i32 (L : Int)) a (i32 (s : Int)) (i32 (tk.1 : Int)) 91 = some (bI (tk = (3, 91))) := hc.1 91 (by omega)
  have l50 : ¬ np < 50 → ¬ i32 (np : Int) < 50 := by intro h; rw [i32_litN 50, i32_ltN (by omega) (by omega)]; exact h
  have z1 : ¬ (1 : Int32) = 0 := by decide
  unfold fX6_readPart
  rw [s91, bI_no n91, Option.bind_some, if_pos rfl, x_wordRead hc, Option.bind_some]
  unfold fX6_readPart_L42 fX6_readPart_L43 fX6_readPart_L53
  by_cases c1 : tk.1 = 1 ∧ 3 ≤ tk.2 ∧ tk.2 < 13
  · have hn : ¬ np < 50 := hg.elim (fun h => absurd (Or.inl c1) h) id
    have n2 : ¬ i32 (tk.1 : Int) = 2 := by rw [i32_litN 2, i32_eqN (by omega) (by omega)]; omega
    have nn : ¬ i32 ((tk.2 : Int) - 3) = -1 := by rw [show (-1 : Int32) = i32 (-1) from rfl, i32_eq (by omega) (by omega) (by omega) (by omega)]; omega
    rw [if_pos c1, if_neg n2, if_neg nn, if_neg (l50 hn)]
  · rw [if_neg c1, if_pos (show i32 (-1) = -1 from rfl), if_pos (show i32 (-1) = -1 from rfl)]
    by_cases c2 : tk.1 = 2
    · rw [if_pos (show i32 (tk.1 : Int) = 2 by rw [c2]; rfl)]
      obtain ⟨enu, e1⟩ := hc.2.2 c2
      by_cases c3 : tk.2 ≤ 1000
      · have hn : ¬ np < 50 := hg.elim (fun h => absurd (Or.inr ⟨c2, c3⟩) h) id
        rw [if_neg (show ¬ (1000 : Int32) < nu by rw [enu, i32_litN 1000, i32_ltN (by omega) (by omega)]; omega), if_neg z1, if_neg (l50 hn)]
      · rw [if_pos (show (1000 : Int32) < nu by rw [enu, i32_litN 1000, i32_ltN (by omega) (by omega)]; omega), if_pos rfl]
    · rw [if_neg (show ¬ i32 (tk.1 : Int) = 2 by rw [i32_litN 2, i32_eqN (by have := hT.lt; omega) (by omega)]; exact c2), if_pos rfl]
/-- behind a sum, no sign of reckoning: the reference looks at its brackets -/
theorem v_bs (hm : TKm tk wo) (h1 : tk ≠ (3, 43)) (h2 : tk ≠ (3, 45)) (h3 : tk ≠ (3, 42)) (h4 : tk ≠ (3, 47)) {F T M D Q : Int32} : fX12_behindSum Fu t (i32 (L : Int)) F T (i32 (tk.1 : Int)) wo fl 0 M op ar pile at_ D Q test = fX12_behindSum_L57 Fu t (i32 (L : Int)) F T (i32 (tk.1 : Int)) wo fl 0 M op ar pile at_ D Q test (-1) := by
  have g1 : fX12_isSign (i32 (tk.1 : Int)) wo 43 = some (bI (tk = (3, 43))) := hm.1 43 (by omega)
  have g2 : fX12_isSign (i32 (tk.1 : Int)) wo 45 = some (bI (tk = (3, 45))) := hm.1 45 (by omega)
  have g3 : fX12_isSign (i32 (tk.1 : Int)) wo 42 = some (bI (tk = (3, 42))) := hm.1 42 (by omega)
  have g4 : fX12_isSign (i32 (tk.1 : Int)) wo 47 = some (bI (tk = (3, 47))) := hm.1 47 (by omega)
  unfold fX12_behindSum
  rw [g1, g2, g3, g4, bI_no h1, bI_no h2, bI_no h3, bI_no h4, Option.bind_some, if_pos rfl, Option.bind_some, if_pos rfl, Option.bind_some, if_pos rfl, Option.bind_some, if_pos rfl]
theorem lsub {d : Nat} : i32 ((d + 1 : Nat) : Int) - 1 = i32 (d : Int) := i32_s1
theorem c_part (hFu : 6000 ≤ Fu) (hL : L ≤ 400) (hat : ∀ k, k < 400 → a k = t k) (hw : WDS wds) (hS : dep < 8 → CTR 5 1 3 Fu wds test a t L fl (dep + 1) kS) : CTR 7 1 3 Fu wds test a t L fl dep (fX6_readPart Fu kS) := by
  intro n np s e m tk nu wo st op ar pile at_ π hp
  obtain ⟨hT, ⟨b1, b2, b3, b4⟩, hk, hd, hP, -⟩ := hp
  have lt := hT.lt
  have hc := hT.2.2.2.1
  have hm := hT.2.2.2.2
  by_cases c : tk = (3, 91)
  · have s91 : fX6_isSign (i32 (L : Int)) a (i32 (s : Int)) (i32 (tk.1 : Int)) 91 = some (bI (tk = (3, 91))) := hc.1 91 (by omega)
    have m91 : fX12_isSign (i32 (tk.1 : Int)) wo 91 = some (bI (tk = (3, 91))) := hm.1 91 (by omega)
    have z1 : ¬ (1 : Int32) = 0 := by decide
    have se : s < e := hT.no (by rw [c]; decide)
    unfold fX6_readPart
    rw [s91, bI_yes c, Option.bind_some, if_neg z1]
    unfold fX6_readBracketedSum
    by_cases cd : dep < 8
    · obtain ⟨s2, e2, tk2, nu2, wo2, q0, hT2, q1, q2⟩ := tok_go hFu hL hat (p := e) (by omega) (i32 (s : Int)) (i32 (tk.1 : Int)) nu (i32 (s : Int)) (i32 (tk.1 : Int)) wo
      have lt2 := hT2.lt
      rw [if_pos (show i32 (dep : Int) < 8 by rw [i32_litN 8, i32_ltN (by omega) (by omega)]; exact cd), q1, Option.bind_some, i32_p1]
      have hpart : fX12_readPart Fu t (i32 (L : Int)) (i32 (s : Int)) (i32 (e : Int)) (i32 (tk.1 : Int)) wo fl 0 (i32 (m : Int)) op ar (i32 (np : Int)) pile at_ (i32 ((π.length : Nat) : Int)) (i32 (dep : Int)) wds = some (1, i32 (s2 : Int), i32 (e2 : Int), i32 (tk2.1 : Int), wo2, fl, 0, i32 (m : Int), op, ar, i32 (np : Int), va_up pile π.length (i32 ((31 : Nat) : Int)), va_up at_ π.length (i32 ((0 : Nat) : Int)), i32 ((π.length + 1 : Nat) : Int), i32 ((dep + 1 : Nat) : Int)) := by
        have ho := v_open (fl := fl) (B := 31) hFu hP (by omega) q2 cd
        have ho' : fX12_openBracket Fu t (i32 (L : Int)) (i32 (s : Int)) (i32 (e : Int)) (i32 (tk.1 : Int)) wo fl 0 pile at_ (i32 ((π.length : Nat) : Int)) (i32 (dep : Int)) 31 = _ := ho
        unfold fX12_readPart
        rw [m91, bI_yes c, Option.bind_some, if_neg z1, ho', Option.bind_some]
      have hstep : ∀ f, LPm Fu wds test t L s e tk.1 wo fl 0 m op ar np pile at_ π.length dep 1 (f + 1) = LPm Fu wds test t L s2 e2 tk2.1 wo2 fl 0 m op ar np (va_up pile π.length (i32 ((31 : Nat) : Int))) (va_up at_ π.length (i32 ((0 : Nat) : Int))) ((31, 0) :: π : PLt).length (dep + 1) 1 f := fun f => LP_1 hpart f
      have hk2 : OKP ((31, 0) :: π) := OKP.cons ⟨by decide, by decide, by decide⟩ hk
      obtain ⟨r, hr, ho⟩ := hS cd n np s2 e2 m tk2 nu2 wo2 st op ar _ _ ((31, 0) :: π) ⟨hT2, ⟨by omega, b2, by show m + (π.length + 1) ≤ s2; omega, by omega⟩, hk2, (show bnd 31 < 5 by decide), hP.push, fun h => by omega⟩
      rw [hr, Option.bind_some]
      rcases ho with ho | ⟨s3, n', w, e3, tk3, nu3, wo3, st3, m3, op3, ar3, pile3, at3, ρ, μ, k, er, hT3, nl, ⟨z2, z3, z4, z5, z6⟩, hC, hP3, hA⟩
      · have h0 : r.1 = 0 := by obtain ⟨_, _, _, _, q, _⟩ := ho; exact q
        rw [if_pos h0, Option.bind_some, gb_0]
        refine ⟨_, rfl, Or.inl ?_⟩
        have := ho.pre (s := s) (k1 := 1) (by omega) (by omega) hstep
        refine this.post rfl ?_ rfl
        obtain ⟨n', _, _, _, _, q2, q3, _⟩ := ho
        exact ⟨n', q2, q3⟩
      · subst er
        rw [if_neg z1]
        have lt3 := hT3.lt
        obtain ⟨hX1, hX2, hX3, hX4, hX5, hX6, hX7⟩ := hC
        have s93 : fX6_isSign (i32 (L : Int)) a (i32 (s3 : Int)) (i32 (tk3.1 : Int)) 93 = some (bI (tk3 = (3, 93))) := hT3.2.2.2.1.1 93 (by omega)
        have m93 : fX12_isSign (i32 (tk3.1 : Int)) wo3 93 = some (bI (tk3 = (3, 93))) := hT3.2.2.2.2.1 93 (by omega)
        have fl5 := flu_len ρ (m3, op3, ar3)
        have hlen : (ρ ++ (31, 0) :: π).length = ρ.length + (π.length + 1) := List.length_append
        have hinn : fX12_inner Fu pile3 (i32 (((ρ ++ (31, 0) :: π).length : Nat) : Int)) = some 31 := by
          rw [v_inner hFu (by omega) (hX3.app hk2) hP3, inn_app (fun x hx => by have := hX4 x hx; omega)]; rfl
        have hbs := v_bs (Fu := Fu) (t := t) (L := L) (fl := fl) (test := test) (op := op3) (ar := ar3) (pile := pile3) (at_ := at3) hT3.2.2.2.2 (nl.2.1 rfl).1 (nl.2.1 rfl).2 (nl.1 (Or.inr rfl)).1 (nl.1 (Or.inr rfl)).2 (F := i32 (s3 : Int)) (T := i32 (e3 : Int)) (M := i32 (m3 : Int)) (D := i32 (((ρ ++ (31, 0) :: π).length : Nat) : Int)) (Q := i32 ((dep + 1 : Nat) : Int))
        show ∃ r, Option.bind ((fX6_isSign (i32 (L : Int)) a (i32 (s3 : Int)) (i32 (tk3.1 : Int)) 93).bind _) _ = some r ∧ _
        rw [s93, Option.bind_some]
        by_cases c3 : tk3 = (3, 93)
        · have se3 : s3 < e3 := hT3.no (by rw [c3]; decide)
          obtain ⟨s4, e4, tk4, nu4, wo4, p0, hT4, p1, p2⟩ := tok_go hFu hL hat (p := e3) (by omega) (i32 (s3 : Int)) (i32 (tk3.1 : Int)) nu3 (i32 (s3 : Int)) (i32 (tk3.1 : Int)) wo3
          rw [bI_yes c3, if_neg z1]
          show ∃ r, Option.bind ((fX6_advance Fu (i32 (L : Int)) a (i32 (s3 : Int)) (i32 (e3 : Int)) (i32 (tk3.1 : Int)) nu3).bind _) _ = some r ∧ _
          rw [p1, Option.bind_some, Option.bind_some, gb_1]
          have hstl := v_stl (pile := pile3) (at_ := at3) (op := op3) (ar := ar3) (m := m3) hFu (l := 5) (by omega) (π := (31, 0) :: π) (ρ := ρ) (show bnd 31 < 5 by decide) (LL := 5) rfl hX3 hk2 hP3 hX4 (by omega)
          have hbs2 : fX12_behindSum Fu t (i32 (L : Int)) (i32 (s3 : Int)) (i32 (e3 : Int)) (i32 (tk3.1 : Int)) wo3 fl 0 (i32 (m3 : Int)) op3 ar3 pile3 at3 (i32 (((ρ ++ (31, 0) :: π).length : Nat) : Int)) (i32 ((dep + 1 : Nat) : Int)) test = some (3, i32 (s4 : Int), i32 (e4 : Int), i32 (tk4.1 : Int), wo4, fl, 0, i32 ((flu ρ (m3, op3, ar3)).1 : Int), (flu ρ (m3, op3, ar3)).2.1, (flu ρ (m3, op3, ar3)).2.2, pile3, at3, i32 ((π.length : Nat) : Int), i32 (dep : Int)) := by
            rw [hbs]
            unfold fX12_behindSum_L57
            rw [if_pos rfl, hinn, Option.bind_some, if_pos rfl, m93, bI_yes c3, Option.bind_some, v_must1 p2 z1, Option.bind_some]
            show (if (0 : Int32) = 0 then _ else _) = _
            rw [if_pos rfl, hstl, Option.bind_some, lsub]
            show some (3, i32 (s4 : Int), i32 (e4 : Int), i32 (tk4.1 : Int), wo4, fl, 0, i32 ((flu ρ (m3, op3, ar3)).1 : Int), (flu ρ (m3, op3, ar3)).2.1, (flu ρ (m3, op3, ar3)).2.2, pile3, at3, i32 ((π.length + 1 : Nat) : Int) - 1, i32 (dep : Int)) = _
            rw [lsub]
          refine ⟨_, rfl, Or.inr ⟨s4, n', w, e4, tk4, nu4, wo4, st3, (flu ρ (m3, op3, ar3)).1, (flu ρ (m3, op3, ar3)).2.1, (flu ρ (m3, op3, ar3)).2.2, pile3, at3, [], μ, 1 + k + 1, rfl, hT4, ⟨fun h => by omega, fun h => by omega, fun h => by omega, fun h => by omega⟩, ⟨by omega, z3, by omega, by show (flu ρ (m3, op3, ar3)).1 + 0 ≤ _; have := fl5.2; have : (m3, op3, ar3).1 = m3 := rfl; omega, by omega⟩, ⟨hX1, hX2, (fun x hx => by cases hx), (fun x hx => by cases hx), hX5, hX6, fun h => by omega⟩, hP3.tail.2.2, fun f => ?_⟩⟩
          rw [show f + (1 + k + 1) = (f + 1 + k) + 1 by omega, hstep, hA]
          exact LP_3 hbs2 f
        · rw [bI_no c3, if_pos rfl, Option.bind_some, gb_0]
          have hbs2 : fX12_behindSum Fu t (i32 (L : Int)) (i32 (s3 : Int)) (i32 (e3 : Int)) (i32 (tk3.1 : Int)) wo3 fl 0 (i32 (m3 : Int)) op3 ar3 pile3 at3 (i32 (((ρ ++ (31, 0) :: π).length : Nat) : Int)) (i32 ((dep + 1 : Nat) : Int)) test = some (3, i32 (s3 : Int), i32 (e3 : Int), i32 (tk3.1 : Int), wo3, i32 (s3 : Int), 1, i32 (m3 : Int), op3, ar3, pile3, at3, i32 (((ρ ++ (31, 0) :: π).length : Nat) : Int), i32 ((dep + 1 : Nat) : Int)) := by
            rw [hbs]
            unfold fX12_behindSum_L57
            rw [if_pos rfl, hinn, Option.bind_some, if_pos rfl, m93, bI_no c3, Option.bind_some, v_must0, Option.bind_some]
            show (if (1 : Int32) = 0 then _ else _) = _
            rw [if_neg z1]
          obtain ⟨R, hR1, hR2, hR3⟩ := bad_end (t := t) (L := L) (op := op3) (ar := ar3) (wds := wds) (test := test) (m := m3) hFu (hX3.app hk2) hP3 (by omega) s3 (i32 (s3 : Int)) (i32 (e3 : Int)) (i32 (tk3.1 : Int)) wo3 (i32 ((dep + 1 : Nat) : Int)) (i32 ((np + w : Nat) : Int)) 3
          refine ⟨_, rfl, Or.inl ⟨n', s3, 1 + 1 + k + 1, R, rfl, rfl, by omega, rfl, by omega, by omega, by omega, fun f => ?_, hR2, hR3⟩⟩
          rw [show f + (1 + 1 + k + 1) = (f + 1 + 1 + k) + 1 by omega, hstep, hA]
          exact (LP_3 hbs2 (f + 1)).trans (hR1 f)
    · rw [if_neg (show ¬ i32 (dep : Int) < 8 by rw [i32_litN 8, i32_ltN (by omega) (by omega)]; exact cd), Option.bind_some, gb_0]
      have hpart : fX12_readPart Fu t (i32 (L : Int)) (i32 (s : Int)) (i32 (e : Int)) (i32 (tk.1 : Int)) wo fl 0 (i32 (m : Int)) op ar (i32 (np : Int)) pile at_ (i32 ((π.length : Nat) : Int)) (i32 (dep : Int)) wds = some (1, i32 (s : Int), i32 (e : Int), i32 (tk.1 : Int), wo, i32 (s : Int), 1, i32 (m : Int), op, ar, i32 (np : Int), pile, at_, i32 ((π.length : Nat) : Int), i32 (dep : Int)) := by
        unfold fX12_readPart
        rw [m91, bI_yes c, Option.bind_some, if_neg z1, v_open0 cd (by omega), Option.bind_some]
      obtain ⟨R, hR1, hR2, hR3⟩ := bad_end (t := t) (L := L) (op := op) (ar := ar) (wds := wds) (test := test) hFu hk hP (show m + π.length ≤ 400 by omega) s (i32 (s : Int)) (i32 (e : Int)) (i32 (tk.1 : Int)) wo (i32 (dep : Int)) (i32 (np : Int)) 1
      exact ⟨_, rfl, Or.inl ⟨n, s, 2, R, rfl, rfl, by omega, rfl, by omega, by omega, by omega, fun f => (LP_1 hpart (f + 1)).trans (hR1 f), hR2, hR3⟩⟩
  · by_cases g : (isW tk ∨ tk.1 = 2 ∧ tk.2 ≤ 1000) ∧ np < 50
    · have se : s < e := hT.no (by rcases g.1 with h | h; exact (by have := h.1; omega); omega)
      obtain ⟨s2, e2, tk2, nu2, wo2, q0, hT2, q1, q2⟩ := tok_go hFu hL hat (p := e) (by omega) (i32 (s : Int)) (i32 (tk.1 : Int)) nu (i32 (s : Int)) (i32 (tk.1 : Int)) wo
      refine ⟨_, x_part1 hT g.2 (by omega) g.1 q1, Or.inr ?_⟩
      have hpart := v_part1 (fl := fl) (op := op) (ar := ar) (pile := pile) (at_ := at_) (D := i32 ((π.length : Nat) : Int)) (Q := i32 (dep : Int)) hFu hw hT g.2 (show m < 400 by omega) g.1 q2
      obtain ⟨μ, x1, x2⟩ : ∃ μ : Mn, XC (va_up st n (i32 (((if tk.1 = 1 then 1024 + (tk.2 - 3) else tk.2) : Nat) : Int))) n (n + 1) 1 μ ∧ MC (va_up op m (i32 (if tk.1 = 1 then (tk.2 : Int) - 2 else 0))) (va_up ar m (i32 (if tk.1 = 1 then 0 else (tk.2 : Int)))) m (m + 1) 1 μ := by
        rcases g.1 with h | ⟨h1, h2⟩
        · have h1 : tk.1 = 1 := h.1
          have h2 : 3 ≤ tk.2 := h.2.1
          have h3 : tk.2 < 13 := h.2.2
          refine ⟨fun e => some (e (tk.2 - 3)), XC.word (by omega) ?_, MC.word (by omega) ?_⟩
          · rw [va_up_at, if_pos h1]
          · rw [va_up_at, if_pos h1]; exact congrArg i32 (by omega)
        · refine ⟨fun _ => some (tk.2 : Int), XC.num h2 ?_, MC.num h2 ?_ ?_⟩
          · rw [va_up_at, if_neg (by omega)]
          · rw [va_up_at, if_neg (by omega)]
          · rw [va_up_at, if_neg (by omega)]
      refine ⟨s2, n + 1, 1, e2, tk2, nu2, wo2, _, m + 1, _, _, pile, at_, [], μ, 1, rfl, hT2, ⟨fun h => by omega, fun h => by omega, fun h => by omega, fun h => by omega⟩, ⟨by omega, by omega, by omega, by show m + 1 + 0 ≤ _; omega, by omega⟩, ⟨x1, fun j hj => va_up_ne _ _ (by omega), (fun x hx => by cases hx), (fun x hx => by cases hx), x2, fun j hj => ⟨va_up_ne _ _ (by omega), va_up_ne _ _ (by omega)⟩, fun h => by omega⟩, hP, fun f => ?_⟩
      exact LP_1 hpart f
    · have g' : ¬ (isW tk ∨ tk.1 = 2 ∧ tk.2 ≤ 1000) ∨ ¬ np < 50 := by
        by_cases h : isW tk ∨ tk.1 = 2 ∧ tk.2 ≤ 1000
        · right; exact fun q => g ⟨h, q⟩
        · left; exact h
      refine ⟨_, x_part0 hT g' b2 c, Or.inl ?_⟩
      have hpart := v_part0 (t := t) (fl := fl) (m := m) (op := op) (ar := ar) (pile := pile) (at_ := at_) (D := i32 ((π.length : Nat) : Int)) (Q := i32 (dep : Int)) hFu hw hT g' b2 c
      obtain ⟨R, hR1, hR2, hR3⟩ := bad_end (t := t) (L := L) (op := op) (ar := ar) (wds := wds) (test := test) hFu hk hP (show m + π.length ≤ 400 by omega) s (i32 (s : Int)) (i32 (e : Int)) (i32 (tk.1 : Int)) wo (i32 (dep : Int)) (i32 (np : Int)) 3
      exact ⟨n, s, 2, R, rfl, rfl, by omega, rfl, by omega, by omega, by omega, fun f => (LP_1 hpart (f + 1)).trans (hR1 f), hR2, hR3⟩
end PART
