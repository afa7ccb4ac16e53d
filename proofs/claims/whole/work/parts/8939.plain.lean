def ntm : Nat → Mn → Mn
  | 0, μ => μ
  | j + 1, μ => ntm j (mnot μ)
theorem mnot2 (μ : Mn) : mnot (mnot μ) = μ := by
  funext e
  unfold mnot
  cases h : μ e with
  | none => rfl
  | some v => show some (1 - (1 - v)) = some v; exact congrArg some (by omega)
theorem ntm_par : ∀ (j : Nat) (μ : Mn), ntm j μ = if j % 2 = 1 then mnot μ else μ := by
  intro j
  induction j with
  | zero => intro μ; rfl
  | succ j ih =>
    intro μ
    show ntm j (mnot μ) = _
    rw [ih]
    by_cases c : j % 2 = 1
    · rw [if_pos c, if_neg (by omega), mnot2]
    · rw [if_neg c, if_pos (by omega)]
def NTS (j : Nat) : PLt := List.replicate j (27, 0)
theorem NTS_s (j : Nat) : NTS (j + 1) = (27, 0) :: NTS j := List.replicate_succ
theorem NTS_len (j : Nat) : (NTS j).length = j := List.length_replicate
theorem NTS_mem {j : Nat} {x : Nat × Nat} (h : x ∈ NTS j) : x = (27, 0) := List.eq_of_mem_replicate h
theorem fl_not {m w : Nat} : ∀ (j : Nat) (c : CdS) (μ : Mn), is01 μ → MC c.2.1 c.2.2 m c.1 w μ → MC (flu (NTS j) c).2.1 (flu (NTS j) c).2.2 m (flu (NTS j) c).1 w (ntm j μ) ∧ (∀ i, i < c.1 → (flu (NTS j) c).2.1 i = c.2.1 i ∧ (flu (NTS j) c).2.2 i = c.2.2 i) ∧ is01 (ntm j μ) := by
  intro j
  induction j with
  | zero => intro c μ h1 h2; exact ⟨h2, fun i _ => ⟨rfl, rfl⟩, h1⟩
  | succ j ih =>
    intro c μ h1 h2
    rw [NTS_s]
    have e : flu1 (27, 0) c = (c.1 + 1, va_up c.2.1 c.1 (i32 ((27 : Nat) : Int)), va_up c.2.2 c.1 0) := if_neg (show ¬ ((27 : Nat) = 28 ∨ (27 : Nat) = 29) by omega)
    show MC (flu (NTS j) (flu1 (27, 0) c)).2.1 (flu (NTS j) (flu1 (27, 0) c)).2.2 m (flu (NTS j) (flu1 (27, 0) c)).1 w (ntm j (mnot μ)) ∧ (∀ i, i < c.1 → (flu (NTS j) (flu1 (27, 0) c)).2.1 i = c.2.1 i ∧ (flu (NTS j) (flu1 (27, 0) c)).2.2 i = c.2.2 i) ∧ is01 (ntm j (mnot μ))
    rw [e]
    obtain ⟨g1, g2, g3⟩ := ih (c.1 + 1, va_up c.2.1 c.1 (i32 ((27 : Nat) : Int)), va_up c.2.2 c.1 0) (mnot μ) h1.not (MC.not (h2.same fun i i1 i2 => ⟨va_up_ne _ _ (by omega), va_up_ne _ _ (by omega)⟩) h1 (va_up_at _ _ _))
    refine ⟨g1, fun i hi => ?_, g3⟩
    obtain ⟨q1, q2⟩ := g2 i (by show i < c.1 + 1; omega)
    rw [q1, q2]
    exact ⟨va_up_ne _ _ (by omega), va_up_ne _ _ (by omega)⟩
section PLAIN
variable {Fu L s e : Nat} {a t : Nat → Int32} {tk : Nat × Nat} {nu fl test : Int32} {wo : Int64} {wds : Nat → Int64} {m np dep n : Nat} {st op ar pile at_ : Nat → Int32} {π ρ : PLt} {kT : KFn}
theorem w14 : (14836 : Int64) = i64 (hsh 14) := by decide +kernel
theorem w15 : (1476 : Int64) = i64 (hsh 15) := by decide +kernel
theorem w16 : (498 : Int64) = i64 (hsh 16) := by decide +kernel
theorem w13 : (294 : Int64) = i64 (hsh 13) := by decide +kernel
/-- behind a test without 'and' and 'or' -/
theorem v_bt (hm : TKm tk wo) (h1 : tk ≠ (1, 15)) (h2 : tk ≠ (1, 16)) {F T M D Q : Int32} {i : Int32} (hi : fX12_inner Fu pile D = some i) : fX12_behindTest Fu t (i32 (L : Int)) F T (i32 (tk.1 : Int)) wo fl 0 M op ar pile at_ D Q = (if (i : Int32) = -1 then (some (4, F, T, i32 (tk.1 : Int), wo, fl, 0, M, op, ar, pile, at_, D, Q)) else ((fX12_isSign (i32 (tk.1 : Int)) wo 41).bind fun r4 => ((fX12_must Fu t (i32 (L : Int)) F T (i32 (tk.1 : Int)) wo fl 0 r4).bind fun r5 => (if (r5.2.2.2.2.2 : Int32) = 0 then ((fX12_settle Fu M op ar pile at_ D 1).bind fun r6 => (some (2, r5.1, r5.2.1, r5.2.2.1, r5.2.2.2.1, r5.2.2.2.2.1, r5.2.2.2.2.2, r6.1, r6.2.1, r6.2.2.1, pile, at_, (r6.2.2.2 - 1), (Q - 1)))) else (some (2, r5.1, r5.2.1, r5.2.2.1, r5.2.2.2.1, r5.2.2.2.2.1, r5.2.2.2.2.2, M, op, ar, pile, at_, D, Q)))))) := by
  have g1 : fX12_isWord (i32 (tk.1 : Int)) wo 1476 = some (bI (tk = (1, 15))) := by rw [w15]; exact hm.2.1 15 (by omega)
  have g2 : fX12_isWord (i32 (tk.1 : Int)) wo 498 = some (bI (tk = (1, 16))) := by rw [w16]; exact hm.2.1 16 (by omega)
  unfold fX12_behindTest
  rw [g1, bI_no h1, Option.bind_some, if_pos rfl, g2, bI_no h2, Option.bind_some, if_pos rfl, hi, Option.bind_some]
theorem LP_01 (hm : TKm tk wo) (h1 : tk ≠ (1, 14)) (h2 : tk ≠ (3, 40)) {d : Nat} (f : Nat) : LPm Fu wds test t L s e tk.1 wo fl 0 m op ar np pile at_ d dep 0 f = LPm Fu wds test t L s e tk.1 wo fl 0 m op ar np pile at_ d dep 1 f := by
  cases f with
  | zero => rfl
  | succ f =>
    have g1 : fX12_isWord (i32 (tk.1 : Int)) wo 14836 = some (bI (tk = (1, 14))) := by rw [w14]; exact hm.2.1 14 (by omega)
    have g2 : fX12_isSign (i32 (tk.1 : Int)) wo 40 = some (bI (tk = (3, 40))) := hm.1 40 (by omega)
    have hp : fX12_readPlain Fu t (i32 (L : Int)) (i32 (s : Int)) (i32 (e : Int)) (i32 (tk.1 : Int)) wo fl 0 (i32 (m : Int)) op ar (i32 (np : Int)) pile at_ (i32 (d : Int)) (i32 (dep : Int)) wds = fX12_readPart Fu t (i32 (L : Int)) (i32 (s : Int)) (i32 (e : Int)) (i32 (tk.1 : Int)) wo fl 0 (i32 (m : Int)) op ar (i32 (np : Int)) pile at_ (i32 (d : Int)) (i32 (dep : Int)) wds := by
      unfold fX12_readPlain
      rw [g1, bI_no h1, Option.bind_some, if_pos rfl, g2, bI_no h2, Option.bind_some, if_pos rfl]
      cases fX12_readPart Fu t (i32 (L : Int)) (i32 (s : Int)) (i32 (e : Int)) (i32 (tk.1 : Int)) wo fl 0 (i32 (m : Int)) op ar (i32 (np : Int)) pile at_ (i32 (d : Int)) (i32 (dep : Int)) wds with
      | none => rfl
      | some r => rfl
    unfold LPm
    rw [fX12_readExpression_L20, fX12_readExpression_L20, if_pos rfl, if_neg (show ¬ (0 : Int32) = 4 by decide), if_pos rfl, if_pos rfl, if_neg (show ¬ (1 : Int32) = 4 by decide), if_neg (show ¬ (1 : Int32) = 0 by decide), if_pos rfl, hp]
theorem c_btest (hFu : 6000 ≤ Fu) (hL : L ≤ 400) (hat : ∀ k, k < 400 → a k = t k) (hS : dep < 8 → CTR 1 0 2 Fu wds test a t L fl (dep + 1) kT) (hp : PRE 4 Fu L a test dep n np s e m tk nu wo pile at_ π) (c : tk = (3, 40)) :
    ∃ r, fX6_readBracketedTest Fu kT (i32 (L : Int)) a (i32 (n : Int)) (i32 (np : Int)) (i32 (s : Int)) (i32 (e : Int)) (i32 (tk.1 : Int)) nu st (i32 (dep : Int)) = some r ∧ (BADO L s (LPm Fu wds test t L s e tk.1 wo fl 0 m op ar np pile at_ π.length dep 0) r ∨ SUCO 4 4 Fu wds test t a L fl dep π n np s m st op ar 2 (LPm Fu wds test t L s e tk.1 wo fl 0 m op ar np pile at_ π.length dep 0) r) := by
  obtain ⟨hT, ⟨b1, b2, b3, b4⟩, hk, hd, hP, ht⟩ := hp
  obtain ⟨ht1, hinn0⟩ := ht (by omega)
  have lt := hT.lt
  have hm := hT.2.2.2.2
  have z1 : ¬ (1 : Int32) = 0 := by decide
  have se : s < e := hT.no (by rw [c]; show (3 : Nat) ≠ 0; omega)
  have g1 : fX12_isWord (i32 (tk.1 : Int)) wo 14836 = some (bI (tk = (1, 14))) := by rw [w14]; exact hm.2.1 14 (by omega)
  have g2 : fX12_isSign (i32 (tk.1 : Int)) wo 40 = some (bI (tk = (3, 40))) := hm.1 40 (by omega)
  have n14 : tk ≠ (1, 14) := by rw [c]; decide
  unfold fX6_readBracketedTest
  by_cases cd : dep < 8
  · obtain ⟨s2, e2, tk2, nu2, wo2, q0, hT2, q1, q2⟩ := tok_go hFu hL hat (p := e) (by omega) (i32 (s : Int)) (i32 (tk.1 : Int)) nu (i32 (s : Int)) (i32 (tk.1 : Int)) wo
    have lt2 := hT2.lt
    rw [if_pos (show i32 (dep : Int) < 8 by rw [i32_litN 8, i32_ltN (by omega) (by omega)]; exact cd), q1, Option.bind_some, i32_p1]
    have hpart : fX12_readPlain Fu t (i32 (L : Int)) (i32 (s : Int)) (i32 (e : Int)) (i32 (tk.1 : Int)) wo fl 0 (i32 (m : Int)) op ar (i32 (np : Int)) pile at_ (i32 ((π.length : Nat) : Int)) (i32 (dep : Int)) wds = some (0, i32 (s2 : Int), i32 (e2 : Int), i32 (tk2.1 : Int), wo2, fl, 0, i32 (m : Int), op, ar, i32 (np : Int), va_up pile π.length (i32 ((30 : Nat) : Int)), va_up at_ π.length (i32 ((0 : Nat) : Int)), i32 ((π.length + 1 : Nat) : Int), i32 ((dep + 1 : Nat) : Int)) := by
      have ho := v_open (fl := fl) (B := 30) hFu hP (by omega) q2 cd
      have ho' : fX12_openBracket Fu t (i32 (L : Int)) (i32 (s : Int)) (i32 (e : Int)) (i32 (tk.1 : Int)) wo fl 0 pile at_ (i32 ((π.length : Nat) : Int)) (i32 (dep : Int)) 30 = _ := ho
      unfold fX12_readPlain
      rw [g1, bI_no n14, Option.bind_some, if_pos rfl, g2, bI_yes c, Option.bind_some, if_neg z1, ho', Option.bind_some]
    have hstep : ∀ f, LPm Fu wds test t L s e tk.1 wo fl 0 m op ar np pile at_ π.length dep 0 (f + 1) = LPm Fu wds test t L s2 e2 tk2.1 wo2 fl 0 m op ar np (va_up pile π.length (i32 ((30 : Nat) : Int))) (va_up at_ π.length (i32 ((0 : Nat) : Int))) ((30, 0) :: π : PLt).length (dep + 1) 0 f := fun f => LP_0 hpart f
    have hk2 : OKP ((30, 0) :: π) := OKP.cons ⟨by decide, by decide, by decide⟩ hk
    obtain ⟨r, hr, ho⟩ := hS cd n np s2 e2 m tk2 nu2 wo2 st op ar _ _ ((30, 0) :: π) ⟨hT2, ⟨by omega, b2, by show m + (π.length + 1) ≤ s2; omega, by omega⟩, hk2, (show bnd 30 < 1 by decide), hP.push, fun _ => ⟨ht1, by show (30 : Int) ≠ 31; omega⟩⟩
    show ∃ r', (Option.bind (kT (i32 (L : Int)) a (i32 (n : Int)) (i32 (np : Int)) (i32 (s2 : Int)) (i32 (e2 : Int)) (i32 (tk2.1 : Int)) nu2 st (i32 ((dep + 1 : Nat) : Int))) _ = some r') ∧ _
    rw [hr, Option.bind_some]
    rcases ho with ho | ⟨s3, n', w, e3, tk3, nu3, wo3, st3, m3, op3, ar3, pile3, at3, ρ, μ, k, er, hT3, nl, ⟨z2, z3, z4, z5, z6⟩, hC, hP3, hA⟩
    · have hb := ho.pre (s := s) (k1 := 1) (by omega) (by omega) hstep
      obtain ⟨n', s', k', R, h0, h1, h2, h3, -⟩ := ho
      rw [if_pos h0]
      exact ⟨_, rfl, Or.inl (hb.post rfl ⟨n', h1, h2⟩ rfl)⟩
    · subst er
      rw [if_neg z1]
      have lt3 := hT3.lt
      obtain ⟨hX1, hX2, hX3, hX4, hX5, hX6, hX7⟩ := hC
      have s41 : fX6_isSign (i32 (L : Int)) a (i32 (s3 : Int)) (i32 (tk3.1 : Int)) 41 = some (bI (tk3 = (3, 41))) := hT3.2.2.2.1.1 41 (by omega)
      have m41 : fX12_isSign (i32 (tk3.1 : Int)) wo3 41 = some (bI (tk3 = (3, 41))) := hT3.2.2.2.2.1 41 (by omega)
      have fl5 : (flu ρ (m3, op3, ar3)).1 ≤ m3 + ρ.length := (flu_len ρ (m3, op3, ar3)).2
      have hlen : (ρ ++ (30, 0) :: π).length = ρ.length + (π.length + 1) := List.length_append
      have hinn : fX12_inner Fu pile3 (i32 (((ρ ++ (30, 0) :: π).length : Nat) : Int)) = some 30 := by
        rw [v_inner hFu (by omega) (hX3.app hk2) hP3, inn_app hX4]; rfl
      have hbs := v_bt (Fu := Fu) (t := t) (L := L) (fl := fl) (op := op3) (ar := ar3) (at_ := at3) hT3.2.2.2.2 (nl.2.2.1 (Or.inr rfl)) (nl.2.2.2 rfl) (F := i32 (s3 : Int)) (T := i32 (e3 : Int)) (M := i32 (m3 : Int)) (Q := i32 ((dep + 1 : Nat) : Int)) hinn
      rw [if_neg (show ¬ (30 : Int32) = -1 by decide), m41, Option.bind_some] at hbs
      show ∃ r', (Option.bind (fX6_isSign (i32 (L : Int)) a (i32 (s3 : Int)) (i32 (tk3.1 : Int)) 41) _ = some r') ∧ _
      rw [s41, Option.bind_some]
      by_cases c3 : tk3 = (3, 41)
      · have se3 : s3 < e3 := hT3.no (by rw [c3]; show (3 : Nat) ≠ 0; omega)
        obtain ⟨s4, e4, tk4, nu4, wo4, p0, hT4, p1, p2⟩ := tok_go hFu hL hat (p := e3) (by omega) (i32 (s3 : Int)) (i32 (tk3.1 : Int)) nu3 (i32 (s3 : Int)) (i32 (tk3.1 : Int)) wo3
        rw [bI_yes c3, if_neg z1]
        show ∃ r', (Option.bind (fX6_advance Fu (i32 (L : Int)) a (i32 (s3 : Int)) (i32 (e3 : Int)) (i32 (tk3.1 : Int)) nu3) _ = some r') ∧ _
        rw [p1, Option.bind_some]
        have hstl := v_stl (pile := pile3) (at_ := at3) (op := op3) (ar := ar3) (m := m3) hFu (l := 1) (by omega) (π := (30, 0) :: π) (ρ := ρ) (show bnd 30 < 1 by decide) (LL := 1) rfl hX3 hk2 hP3 hX4 (by omega)
        have hbs2 : fX12_behindTest Fu t (i32 (L : Int)) (i32 (s3 : Int)) (i32 (e3 : Int)) (i32 (tk3.1 : Int)) wo3 fl 0 (i32 (m3 : Int)) op3 ar3 pile3 at3 (i32 (((ρ ++ (30, 0) :: π).length : Nat) : Int)) (i32 ((dep + 1 : Nat) : Int)) = some (2, i32 (s4 : Int), i32 (e4 : Int), i32 (tk4.1 : Int), wo4, fl, 0, i32 ((flu ρ (m3, op3, ar3)).1 : Int), (flu ρ (m3, op3, ar3)).2.1, (flu ρ (m3, op3, ar3)).2.2, pile3, at3, i32 ((π.length : Nat) : Int), i32 (dep : Int)) := by
          rw [hbs, bI_yes c3, v_must1 p2 z1, Option.bind_some]
          show (if (0 : Int32) = 0 then _ else _) = _
          rw [if_pos rfl, hstl, Option.bind_some, lsub]
          show some (2, i32 (s4 : Int), i32 (e4 : Int), i32 (tk4.1 : Int), wo4, fl, 0, i32 ((flu ρ (m3, op3, ar3)).1 : Int), (flu ρ (m3, op3, ar3)).2.1, (flu ρ (m3, op3, ar3)).2.2, pile3, at3, i32 ((π.length + 1 : Nat) : Int) - 1, i32 (dep : Int)) = _
          rw [lsub]
        refine ⟨_, rfl, Or.inr ⟨s4, n', w, e4, tk4, nu4, wo4, st3, (flu ρ (m3, op3, ar3)).1, (flu ρ (m3, op3, ar3)).2.1, (flu ρ (m3, op3, ar3)).2.2, pile3, at3, [], μ, 1 + k + 1, rfl, hT4, ⟨fun h => by omega, fun h => by omega, fun h => by omega, fun h => by omega⟩, ⟨by omega, z3, by omega, by show (flu ρ (m3, op3, ar3)).1 + 0 ≤ _; omega, by omega⟩, ⟨hX1, hX2, (fun x hx => by cases hx), (fun x hx => by cases hx), hX5, hX6, fun _ => hX7 (by omega)⟩, hP3.tail.2.2, fun f => ?_⟩⟩
        rw [show f + (1 + k + 1) = (f + 1 + k) + 1 by omega, hstep, hA]
        exact LP_2 hbs2 f
      · rw [bI_no c3, if_pos rfl]
        have hbs2 : fX12_behindTest Fu t (i32 (L : Int)) (i32 (s3 : Int)) (i32 (e3 : Int)) (i32 (tk3.1 : Int)) wo3 fl 0 (i32 (m3 : Int)) op3 ar3 pile3 at3 (i32 (((ρ ++ (30, 0) :: π).length : Nat) : Int)) (i32 ((dep + 1 : Nat) : Int)) = some (2, i32 (s3 : Int), i32 (e3 : Int), i32 (tk3.1 : Int), wo3, i32 (s3 : Int), 1, i32 (m3 : Int), op3, ar3, pile3, at3, i32 (((ρ ++ (30, 0) :: π).length : Nat) : Int), i32 ((dep + 1 : Nat) : Int)) := by
          rw [hbs, bI_no c3, v_must0, Option.bind_some]
          show (if (1 : Int32) = 0 then _ else _) = _
          rw [if_neg z1]
        obtain ⟨R, hR1, hR2, hR3⟩ := bad_end (t := t) (L := L) (op := op3) (ar := ar3) (wds := wds) (test := test) (m := m3) hFu (hX3.app hk2) hP3 (by omega) s3 (i32 (s3 : Int)) (i32 (e3 : Int)) (i32 (tk3.1 : Int)) wo3 (i32 ((dep + 1 : Nat) : Int)) (i32 ((np + w : Nat) : Int)) 2
        refine ⟨_, rfl, Or.inl ⟨n', s3, 1 + 1 + k + 1, R, rfl, rfl, by omega, rfl, by omega, by omega, by omega, fun f => ?_, hR2, hR3⟩⟩
        rw [show f + (1 + 1 + k + 1) = (f + 1 + 1 + k) + 1 by omega, hstep, hA]
        exact (LP_2 hbs2 (f + 1)).trans (hR1 f)
  · rw [if_neg (show ¬ i32 (dep : Int) < 8 by rw [i32_litN 8, i32_ltN (by omega) (by omega)]; exact cd)]
    have hpart : fX12_readPlain Fu t (i32 (L : Int)) (i32 (s : Int)) (i32 (e : Int)) (i32 (tk.1 : Int)) wo fl 0 (i32 (m : Int)) op ar (i32 (np : Int)) pile at_ (i32 ((π.length : Nat) : Int)) (i32 (dep : Int)) wds = some (0, i32 (s : Int), i32 (e : Int), i32 (tk.1 : Int), wo, i32 (s : Int), 1, i32 (m : Int), op, ar, i32 (np : Int), pile, at_, i32 ((π.length : Nat) : Int), i32 (dep : Int)) := by
      unfold fX12_readPlain
      rw [g1, bI_no n14, Option.bind_some, if_pos rfl, g2, bI_yes c, Option.bind_some, if_neg z1, v_open0 cd (by omega), Option.bind_some]
    obtain ⟨R, hR1, hR2, hR3⟩ := bad_end (t := t) (L := L) (op := op) (ar := ar) (wds := wds) (test := test) hFu hk hP (show m + π.length ≤ 400 by omega) s (i32 (s : Int)) (i32 (e : Int)) (i32 (tk.1 : Int)) wo (i32 (dep : Int)) (i32 (np : Int)) 0
    exact ⟨_, rfl, Or.inl ⟨n, s, 2, R, rfl, rfl, by omega, rfl, by omega, by omega, by omega, fun f => (LP_0 hpart (f + 1)).trans (hR1 f), hR2, hR3⟩⟩
/-- a plain test behind so many 'not' -/
theorem c_wrap {s1 j k1 : Nat} {A B : Nat → Option RE14} {r : RC8} (hL : L ≤ 400) (b1 : n ≤ s) (hj : s + j ≤ s1) (hk1 : k1 ≤ 3 * (s1 - s)) (hA : ∀ f, A (f + k1) = B f) (h : BADO L s1 B r ∨ SUCO 4 4 Fu wds test t a L fl dep (NTS j ++ π) n np s1 m st op ar 2 B r) :
    ∃ r', fX6_readPlain_L62 Fu kT (i32 (L : Int)) a r.2.1 r.2.2.1 r.2.2.2.1 r.2.2.2.2.1 r.2.2.2.2.2.1 r.2.2.2.2.2.2.1 r.2.2.2.2.2.2.2 (i32 ((j % 2 : Nat) : Int)) r.1 = some r' ∧ (BADO L s A r' ∨ SUCO 3 3 Fu wds test t a L fl dep π n np s m st op ar 2 A r') := by
  have z1 : ¬ (1 : Int32) = 0 := by decide
  unfold fX6_readPlain_L62
  rcases h with h | ⟨s3, n', w, e3, tk3, nu3, wo3, st3, m3, op3, ar3, pile3, at3, ρ, μ, k, er, hT3, nl, ⟨z2, z3, z4, z5, z6⟩, hC, hP3, hA3⟩
  · have hb := h.pre (s := s) (by omega) hk1 hA
    obtain ⟨n', s', k', R, h0, h1, h2, h3, -⟩ := h
    rw [if_pos h0, h0, gb_0]
    exact ⟨_, rfl, Or.inl (hb.post rfl ⟨n', h1, h2⟩ rfl)⟩
  · subst er
    have lt3 := hT3.lt
    obtain ⟨hX1, hX2, hX3, hX4, hX5, hX6, hX7⟩ := hC
    have h01 := hX7 (by omega)
    obtain ⟨g1, g2, g3⟩ := fl_not j (flu ρ (m3, op3, ar3)) μ h01 hX5
    rw [← flu_app] at g1 g2
    have lm := hX5.1
    rw [if_neg z1]
    have okr : OKP (ρ ++ NTS j) := hX3.app (fun x hx => by rw [NTS_mem hx]; exact ⟨by decide, by decide, by decide⟩)
    have bdr : ∀ x, x ∈ ρ ++ NTS j → 3 ≤ bnd x.1 := fun x hx => by
      rcases List.mem_append.mp hx with hx | hx
      · have := hX4 x hx; omega
      · rw [NTS_mem hx]; decide
    have pre6 : ∀ i, i < m → (flu (ρ ++ NTS j) (m3, op3, ar3)).2.1 i = op i ∧ (flu (ρ ++ NTS j) (m3, op3, ar3)).2.2 i = ar i := fun i hi => by
      obtain ⟨q1, q2⟩ := g2 i (by omega)
      rw [q1, q2]; exact hX6 i hi
    have asc : ρ ++ (NTS j ++ π) = (ρ ++ NTS j) ++ π := (List.append_assoc ρ (NTS j) π).symm
    have hln : (ρ ++ NTS j).length = ρ.length + j := by rw [List.length_append, NTS_len]
    rw [asc] at hP3
    have hA' : ∀ f, A (f + (k + k1)) = LPm Fu wds test t L s3 e3 tk3.1 wo3 fl 0 m3 op3 ar3 (np + w) pile3 at3 ((ρ ++ NTS j) ++ π).length dep 2 f := by
      intro f
      rw [show f + (k + k1) = (f + k) + k1 by omega, hA, hA3, asc]
    rw [ntm_par] at g1 g3
    by_cases c : j % 2 = 1
    · rw [if_pos c] at g1 g3
      rw [if_neg (show ¬ i32 ((j % 2 : Nat) : Int) = 0 by rw [c]; decide)]
      show ∃ r', (Option.bind (fX6_emit (i32 (n' : Int)) st3 9 0) _ = some r') ∧ _
      rw [x_emit (by omega), Option.bind_some]
      show ∃ r', gb 1 (some _) = some r' ∧ _
      rw [gb_1]
      refine ⟨_, rfl, Or.inr ⟨s3, n' + 1, w, e3, tk3, nu3, wo3, va_up st3 n' (i32 ((9216 : Nat) : Int)), m3, op3, ar3, pile3, at3, ρ ++ NTS j, mnot μ, k + k1, rfl, hT3, ⟨fun h => by omega, fun h => by omega, fun h => by omega, fun h => by omega⟩, ⟨by omega, z3, by omega, by omega, by omega⟩, ⟨XC.not (hX1.same fun i i1 i2 => va_up_ne _ _ (by omega)) h01 (va_up_at _ _ _), fun i hi => ?_, okr, bdr, g1, pre6, fun _ => g3⟩, hP3, hA'⟩⟩
      have := hX1.1
      rw [va_up_ne _ _ (by omega)]; exact hX2 i hi
    · rw [if_neg c] at g1 g3
      rw [if_pos (show i32 ((j % 2 : Nat) : Int) = 0 by rw [show j % 2 = 0 by omega]; rfl), gb_1]
      exact ⟨_, rfl, Or.inr ⟨s3, n', w, e3, tk3, nu3, wo3, st3, m3, op3, ar3, pile3, at3, ρ ++ NTS j, μ, k + k1, rfl, hT3, ⟨fun h => by omega, fun h => by omega, fun h => by omega, fun h => by omega⟩, ⟨by omega, z3, by omega, by omega, by omega⟩, ⟨hX1, hX2, okr, bdr, g1, pre6, fun _ => g3⟩, hP3, hA'⟩⟩
theorem c_plainL (hFu : 6000 ≤ Fu) (hL : L ≤ 400) (hat : ∀ k, k < 400 → a k = t k) (hS : dep < 8 → CTR 1 0 2 Fu wds test a t L fl (dep + 1) kT) (hI : CTR 4 1 2 Fu wds test a t L fl dep (fX6_readComparison Fu)) {A : Nat → Option RE14} (b1 : n ≤ s) (b2 : np ≤ 50) (b3 : m + π.length ≤ s) (b4 : dep ≤ 8) (hk : OKP π) (hd : hdB π 3) (ht : test = 1) (hin : inn π ≠ 31) : ∀ (d f j s1 e1 : Nat) (tk1 : Nat × Nat) (nu1 : Int32) (wo1 : Int64) (pile1 at1 : Nat → Int32) (k1 : Nat), TKR Fu L a s1 e1 tk1 nu1 wo1 → L < s1 + d → d < f → s + j ≤ s1 → k1 ≤ 3 * (s1 - s) → PLr pile1 at1 (NTS j ++ π) → (∀ f, A (f + k1) = LPm Fu wds test t L s1 e1 tk1.1 wo1 fl 0 m op ar np pile1 at1 (NTS j ++ π).length dep 0 f) →
    ∃ r, fX6_readPlain_L4 Fu kT f (i32 (L : Int)) a (i32 (n : Int)) (i32 (np : Int)) (i32 (s1 : Int)) (i32 (e1 : Int)) (i32 (tk1.1 : Int)) nu1 st (i32 (dep : Int)) (i32 ((j % 2 : Nat) : Int)) (i32 (j : Int)) = some r ∧ (BADO L s A r ∨ SUCO 3 3 Fu wds test t a L fl dep π n np s m st op ar 2 A r) := by
  intro d
  induction d with
  | zero =>
    intro f j s1 e1 tk1 nu1 wo1 pile1 at1 k1 hT hd1
    have := hT.lt
    omega
  | succ d ih =>
    intro f j s1 e1 tk1 nu1 wo1 pile1 at1 k1 hT hd1 hf hj hk1 hP hA
    obtain ⟨f, rfl⟩ : ∃ f', f = f' + 1 := ⟨f - 1, by omega⟩
    have lt := hT.lt
    have hm := hT.2.2.2.2
    have z1 : ¬ (1 : Int32) = 0 := by decide
    have hln : (NTS j ++ π).length = j + π.length := by rw [List.length_append, NTS_len]
    have g14 : fX12_isWord (i32 (tk1.1 : Int)) wo1 14836 = some (bI (tk1 = (1, 14))) := by rw [w14]; exact hm.2.1 14 (by omega)
    have x14 : fX6_isWord Fu 14 a (i32 (s1 : Int)) (i32 (e1 : Int)) (i32 (tk1.1 : Int)) = some (bI (tk1 = (1, 14))) := hT.2.2.2.1.2.1 14 (by omega)
    have okN : OKP (NTS j ++ π) := OKP.app (fun x hx => by rw [NTS_mem hx]; exact ⟨by decide, by decide, by decide⟩) hk
    rw [fX6_readPlain_L4, x14, Option.bind_some]
    by_cases c14 : tk1 = (1, 14)
    · have se1 : s1 < e1 := hT.no (by rw [c14]; show (1 : Nat) ≠ 0; omega)
      obtain ⟨s2, e2, tk2, nu2, wo2, q0, hT2, q1, q2⟩ := tok_go hFu hL hat (p := e1) (by omega) (i32 (s1 : Int)) (i32 (tk1.1 : Int)) nu1 (i32 (s1 : Int)) (i32 (tk1.1 : Int)) wo1
      rw [bI_yes c14, if_neg (show ¬ (400 : Int32) ≤ i32 (j : Int) by rw [i32_litN 400, i32_leN (by omega) (by omega)]; omega), if_neg z1]
      have hpl : fX12_readPlain Fu t (i32 (L : Int)) (i32 (s1 : Int)) (i32 (e1 : Int)) (i32 (tk1.1 : Int)) wo1 fl 0 (i32 (m : Int)) op ar (i32 (np : Int)) pile1 at1 (i32 (((NTS j ++ π).length : Nat) : Int)) (i32 (dep : Int)) wds = some (0, i32 (s2 : Int), i32 (e2 : Int), i32 (tk2.1 : Int), wo2, fl, 0, i32 (m : Int), op, ar, i32 (np : Int), va_up pile1 (NTS j ++ π).length (i32 ((27 : Nat) : Int)), va_up at1 (NTS j ++ π).length (i32 ((0 : Nat) : Int)), i32 (((NTS j ++ π).length + 1 : Nat) : Int), i32 (dep : Int)) := by
        unfold fX12_readPlain
        rw [g14, bI_yes c14, Option.bind_some, if_neg z1, v_push (by omega), Option.bind_some, q2]; rfl
      have fin := ih f (j + 1) s2 e2 tk2 nu2 wo2 (va_up pile1 (NTS j ++ π).length (i32 ((27 : Nat) : Int))) (va_up at1 (NTS j ++ π).length (i32 ((0 : Nat) : Int))) (1 + k1) hT2 (by omega) (by omega) (by omega) (by omega) (by rw [NTS_s]; exact hP.push) (fun f => by
        rw [show f + (1 + k1) = (f + 1) + k1 by omega, hA, NTS_s]
        exact LP_0 hpl f)
      unfold fX6_readPlain_L29
      rw [q1, Option.bind_some, Option.bind_some, i32_p1]
      by_cases cj : j % 2 = 1
      · rw [if_neg (show ¬ i32 ((j % 2 : Nat) : Int) = 0 by rw [cj]; decide)]
        rw [show (j + 1) % 2 = 0 by omega] at fin
        exact fin
      · rw [if_pos (show i32 ((j % 2 : Nat) : Int) = 0 by rw [show j % 2 = 0 by omega]; rfl)]
        rw [show (j + 1) % 2 = 1 by omega] at fin
        exact fin
    · rw [bI_no c14, if_pos rfl]
      have same : ∀ {α : Type} (p : Prop) [Decidable p] (A : α), (if p then A else A) = A := by
        intro α p _ A; by_cases h : p
        · rw [if_pos h]
        · rw [if_neg h]
      rw [same]
      have hdN : hdB (NTS j ++ π) 4 := by
        cases j with
        | zero => exact hd.mono (by omega)
        | succ j => rw [NTS_s]; exact hdB_cons (π := NTS j ++ π) (by decide)
      have innN : inn (NTS j ++ π) = inn π := inn_app (fun x hx => by rw [NTS_mem hx]; decide)
      have pre : PRE 4 Fu L a test dep n np s1 e1 m tk1 nu1 wo1 pile1 at1 (NTS j ++ π) := ⟨hT, ⟨by omega, b2, by omega, b4⟩, okN, hdN, hP, fun _ => ⟨ht, by rw [innN]; exact hin⟩⟩
      have x40 : fX6_isSign (i32 (L : Int)) a (i32 (s1 : Int)) (i32 (tk1.1 : Int)) 40 = some (bI (tk1 = (3, 40))) := hT.2.2.2.1.1 40 (by omega)
      unfold fX6_readPlain_L40
      rw [x40, Option.bind_some]
      by_cases c40 : tk1 = (3, 40)
      · rw [bI_yes c40, if_neg z1]
        obtain ⟨r, hr, ho⟩ := c_btest (st := st) (op := op) (ar := ar) hFu hL hat hS pre c40
        rw [hr, Option.bind_some]
        exact c_wrap hL b1 hj hk1 hA ho
      · rw [bI_no c40, if_pos rfl]
        obtain ⟨r, hr, ho⟩ := hI n np s1 e1 m tk1 nu1 wo1 st op ar pile1 at1 (NTS j ++ π) pre
        rw [hr, Option.bind_some]
        exact c_wrap hL b1 hj hk1 (fun f => (hA f).trans (LP_01 hm c14 c40 f)) ho
theorem c_plain (hFu : 6000 ≤ Fu) (hL : L ≤ 400) (hat : ∀ k, k < 400 → a k = t k) (hS : dep < 8 → CTR 1 0 2 Fu wds test a t L fl (dep + 1) kT) (hI : CTR 4 1 2 Fu wds test a t L fl dep (fX6_readComparison Fu)) : CTR 3 0 2 Fu wds test a t L fl dep (fX6_readPlain Fu kT) := by
  intro n np s e m tk nu wo st op ar pile at_ π hp
  obtain ⟨hT, ⟨b1, b2, b3, b4⟩, hk, hd, hP, ht⟩ := hp
  obtain ⟨ht1, hin⟩ := ht (by omega)
  have lt := hT.lt
  unfold fX6_readPlain
  exact c_plainL hFu hL hat hS hI b1 b2 b3 b4 hk hd ht1 hin (L + 1) Fu 0 s e tk nu wo pile at_ 0 hT (by omega) (by omega) (by omega) (by omega) hP (fun f => rfl)
end PLAIN
