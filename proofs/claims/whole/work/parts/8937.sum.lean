section SUM
variable {Fu L : Nat} {a t : Nat → Int32} {fl test : Int32} {wds : Nat → Int64} {dep : Nat} {kS : KFn}
/-- after parts: as long as its signs come -/
theorem c_termL (hFu : 6000 ≤ Fu) (hL : L ≤ 400) (hat : ∀ k, k < 400 → a k = t k) (hI : CTR 7 1 3 Fu wds test a t L fl dep (fX6_readPart Fu kS)) (b4 : dep ≤ 8) {n np s m : Nat} {st op ar : Nat → Int32} {π : PLt} {A : Nat → Option RE14} (b1 : n ≤ s) (b3 : m + π.length ≤ s) (hk : OKP π) (hd : hdB π 6) : ∀ (d f j s1 : Nat) (r0 : RC8), SUCS 6 7 Fu wds test t a L fl dep π n np s m st op ar 3 A s1 r0 → L < s1 + d → d < f → j ≤ s1 →
    ∃ r, fX6_readTerm_L8 Fu kS f (i32 (L : Int)) a r0.2.1 r0.2.2.1 r0.2.2.2.1 r0.2.2.2.2.1 r0.2.2.2.2.2.1 r0.2.2.2.2.2.2.1 r0.2.2.2.2.2.2.2 (i32 (dep : Int)) r0.1 (i32 (j : Int)) = some r ∧ (BADO L s A r ∨ SUCO 6 6 Fu wds test t a L fl dep π n np s m st op ar 3 A r) := by
  intro d
  induction d with
  | zero =>
    rintro f j s1 r0 ⟨n1, w1, e1, tk1, nu1, wo1, st1, m1, op1, ar1, pile1, at1, ρ1, μ1, k1, er, hT1, nl1, z1, hC1, hP1, hA1⟩ hd1 hf hj
    have := hT1.lt
    omega
  | succ d ih =>
    rintro f j s1 r0 ⟨n1, w1, e1, tk1, nu1, wo1, st1, m1, op1, ar1, pile1, at1, ρ1, μ1, k1, er, hT1, nl1, ⟨z1, z2, z3, z4, z5⟩, hC1, hP1, hA1⟩ hd1 hf hj
    obtain ⟨f, rfl⟩ : ∃ f', f = f' + 1 := ⟨f - 1, by omega⟩
    subst er
    have lt1 := hT1.lt
    have o1 : ¬ (1 : Int32) = 0 := by decide
    have hlen1 : (ρ1 ++ π).length = ρ1.length + π.length := List.length_append
    have sA : fX6_isSign (i32 (L : Int)) a (i32 (s1 : Int)) (i32 (tk1.1 : Int)) 42 = some (bI (tk1 = (3, 42))) := hT1.2.2.2.1.1 42 (by omega)
    have sB : fX6_isSign (i32 (L : Int)) a (i32 (s1 : Int)) (i32 (tk1.1 : Int)) 47 = some (bI (tk1 = (3, 47))) := hT1.2.2.2.1.1 47 (by omega)
    have fin : ∀ c k o : Nat, (c = 42 ∧ k = 4 ∧ o = 22 ∨ c = 47 ∧ k = 5 ∧ o = 23) → tk1 = (3, c) → ∃ r, fX6_readTerm_L51 Fu kS (fX6_readTerm_L8 Fu kS f) (i32 (L : Int)) a (i32 (n1 : Int)) (i32 ((np + w1 : Nat) : Int)) (i32 (s1 : Int)) (i32 (e1 : Int)) (i32 (tk1.1 : Int)) nu1 st1 (i32 (dep : Int)) (i32 (j : Int)) (i32 (k : Int)) = some r ∧ (BADO L s A r ∨ SUCO 6 6 Fu wds test t a L fl dep π n np s m st op ar 3 A r) := by
      intro c k o hco htk
      have se1 : s1 < e1 := hT1.no (by rw [htk]; show (3 : Nat) ≠ 0; omega)
      obtain ⟨s2, e2, tk2, nu2, wo2, q0, hT2, q1, q2⟩ := tok_go hFu hL hat (p := e1) (by omega) (i32 (s1 : Int)) (i32 (tk1.1 : Int)) nu1 (i32 (s1 : Int)) (i32 (tk1.1 : Int)) wo1
      have lt2 := hT2.lt
      have ob : bnd o = 6 := by rcases hco with ⟨-, -, rfl⟩ | ⟨-, -, rfl⟩ <;> rfl
      have flL := flu_len ρ1 (m1, op1, ar1)
      have flL2 : (flu ρ1 (m1, op1, ar1)).1 ≤ m1 + ρ1.length := flL.2
      have har := v_arith (fl := fl) (test := test) (op := op1) (ar := ar1) (pile := pile1) (at_ := at1) (Q := i32 (dep : Int)) hFu hT1.2.2.2.2 (c := c) (o := o) (by omega) htk q2 (by rw [ob]; exact hd) hC1.2.2.1 hk hP1 (by rw [ob]; exact hC1.2.2.2.1) (show m1 + (ρ1 ++ π).length ≤ 400 by omega) (by omega)
      have hstep : ∀ f, A (f + (1 + k1)) = LPm Fu wds test t L s2 e2 tk2.1 wo2 fl 0 (flu ρ1 (m1, op1, ar1)).1 (flu ρ1 (m1, op1, ar1)).2.1 (flu ρ1 (m1, op1, ar1)).2.2 (np + w1) (va_up pile1 π.length (i32 (o : Int))) (va_up at1 π.length (i32 ((0 : Nat) : Int))) ((o, 0) :: π : PLt).length dep 1 f := by
        intro f
        rw [show f + (1 + k1) = (f + 1) + k1 by omega, hA1]
        exact LP_3 har f
      have hk2 : OKP ((o, 0) :: π) := OKP.cons ⟨by show 20 ≤ o; omega, by show o < 32; omega, by show 0 < 400; omega⟩ hk
      obtain ⟨r, hr, ho⟩ := hI n1 (np + w1) s2 e2 (flu ρ1 (m1, op1, ar1)).1 tk2 nu2 wo2 st1 (flu ρ1 (m1, op1, ar1)).2.1 (flu ρ1 (m1, op1, ar1)).2.2 _ _ ((o, 0) :: π) ⟨hT2, ⟨by omega, z2, by show _ + (π.length + 1) ≤ s2; omega, b4⟩, hk2, hdB_cons (by show bnd o < 7; omega), hP1.tail.push, fun h => by omega⟩
      unfold fX6_readTerm_L51
      rw [q1, Option.bind_some]
      show ∃ r', (Option.bind (fX6_readPart Fu kS (i32 (L : Int)) a (i32 (n1 : Int)) (i32 ((np + w1 : Nat) : Int)) (i32 (s2 : Int)) (i32 (e2 : Int)) (i32 (tk2.1 : Int)) nu2 st1 (i32 (dep : Int))) _ = some r') ∧ _
      rw [hr, Option.bind_some]
      rcases ho with ho | ⟨s9, n9, w9, e9, tk9, nu9, wo9, st9, m9, op9, ar9, pile9, at9, ρ9, μ9, k9, er9, hT9, nl9, ⟨y1, y2, y3, y4, y5⟩, hC9, hP9, hA9⟩
      · have hb := ho.pre (s := s) (A := A) (k1 := 1 + k1) (by omega) (by omega) hstep
        obtain ⟨n', s', k', R, h0, h1, h2, h3, -⟩ := ho
        obtain ⟨n'', st'', he, hn⟩ := x_emitA (n := n') h2 (st := r.2.2.2.2.2.2.2) (x := i32 (k : Int)) (y := 0)
        rw [h1, he, Option.bind_some, h0]
        obtain ⟨f, rfl⟩ : ∃ f', f = f' + 1 := ⟨f - 1, by omega⟩
        rw [fX6_readTerm_L8, gb_0, if_pos rfl]
        have same : ∀ {α : Type} (p : Prop) [Decidable p] (A : α), (if p then A else A) = A := by
          intro α p _ A; by_cases h : p
          · rw [if_pos h]
          · rw [if_neg h]
        rw [same]
        exact ⟨_, rfl, Or.inl (hb.post rfl ⟨n'', rfl, hn⟩ rfl)⟩
      · subst er9
        have lt9 := hT9.lt
        show ∃ r', (Option.bind (fX6_emit (i32 (n9 : Int)) st9 (i32 (k : Int)) 0) _ = some r') ∧ _
        rw [x_emit (by omega), Option.bind_some, i32_1024, i32_p1]
        refine ih f (j + 1) s9 (1, i32 ((n9 + 1 : Nat) : Int), i32 ((np + w1 + w9 : Nat) : Int), i32 (s9 : Int), i32 (e9 : Int), i32 (tk9.1 : Int), nu9, va_up st9 n9 (i32 ((1024 * k : Nat) : Int))) ⟨n9 + 1, w1 + w9, e9, tk9, nu9, wo9, va_up st9 n9 (i32 ((1024 * k : Nat) : Int)), m9, op9, ar9, pile9, at9, ρ9 ++ [(o, 0)], mop k μ1 μ9, k9 + (1 + k1), by rw [Nat.add_assoc], hT9, nl9, ⟨by omega, by omega, by omega, ?_, by omega⟩, hC1.bin hC9 (by omega) (by omega) (by omega) 6 (by omega) (by omega) (fun h => by omega), ?_, fun f => ?_⟩ (by omega) (by omega) (by omega)
        · rw [List.length_append]
          show m9 + (ρ9.length + 1) ≤ _
          omega
        · rw [← app_snoc]; exact hP9
        · rw [← app_snoc, ← Nat.add_assoc np w1 w9, show f + (k9 + (1 + k1)) = (f + k9) + (1 + k1) by omega, hstep, hA9]
    show ∃ r, fX6_readTerm_L8 Fu kS (f + 1) (i32 (L : Int)) a (i32 (n1 : Int)) (i32 ((np + w1 : Nat) : Int)) (i32 (s1 : Int)) (i32 (e1 : Int)) (i32 (tk1.1 : Int)) nu1 st1 (i32 (dep : Int)) 1 (i32 (j : Int)) = some r ∧ _
    rw [fX6_readTerm_L8, gb_1, if_neg o1, sA, sB, Option.bind_some]
    by_cases cA : tk1 = (3, 42)
    · have se1 : s1 < e1 := hT1.no (by rw [cA]; show (3 : Nat) ≠ 0; omega)
      rw [bI_yes cA, if_neg (show ¬ (400 : Int32) ≤ i32 (j : Int) by rw [i32_litN 400, i32_leN (by omega) (by omega)]; omega), if_neg o1]
      unfold fX6_readTerm_L37
      rw [sA, bI_yes cA, Option.bind_some, if_neg o1]
      exact fin 42 4 22 (Or.inl ⟨rfl, rfl, rfl⟩) cA
    · rw [bI_no cA, if_pos rfl, Option.bind_some]
      by_cases cB : tk1 = (3, 47)
      · have se1 : s1 < e1 := hT1.no (by rw [cB]; show (3 : Nat) ≠ 0; omega)
        rw [bI_yes cB, if_neg (show ¬ (400 : Int32) ≤ i32 (j : Int) by rw [i32_litN 400, i32_leN (by omega) (by omega)]; omega), if_neg o1]
        unfold fX6_readTerm_L37
        rw [sA, bI_no cA, Option.bind_some, if_pos rfl]
        exact fin 47 5 23 (Or.inr ⟨rfl, rfl, rfl⟩) cB
      · rw [bI_no cB, if_pos rfl]
        have same : ∀ {α : Type} (p : Prop) [Decidable p] (A : α), (if p then A else A) = A := by
          intro α p _ A; by_cases h : p
          · rw [if_pos h]
          · rw [if_neg h]
        rw [same]
        exact ⟨_, rfl, Or.inr ⟨s1, n1, w1, e1, tk1, nu1, wo1, st1, m1, op1, ar1, pile1, at1, ρ1, μ1, k1, rfl, hT1, ⟨fun _ => ⟨cA, cB⟩, fun h => by omega, fun h => by omega, fun h => by omega⟩, ⟨z1, z2, z3, z4, z5⟩, hC1, hP1, hA1⟩⟩
theorem c_term (hFu : 6000 ≤ Fu) (hL : L ≤ 400) (hat : ∀ k, k < 400 → a k = t k) (hI : CTR 7 1 3 Fu wds test a t L fl dep (fX6_readPart Fu kS)) : CTR 6 1 3 Fu wds test a t L fl dep (fX6_readTerm Fu kS) := by
  intro n np s e m tk nu wo st op ar pile at_ π hp
  obtain ⟨hT, ⟨b1, b2, b3, b4⟩, hk, hd, hP, -⟩ := hp
  have hd1 : hdB π 7 := by
    cases π with
    | nil => exact True.intro
    | cons x π => exact Nat.lt_succ_of_lt hd
  obtain ⟨r, hr, ho⟩ := hI n np s e m tk nu wo st op ar pile at_ π ⟨hT, ⟨b1, b2, b3, b4⟩, hk, hd1, hP, fun h => by omega⟩
  unfold fX6_readTerm
  rw [hr, Option.bind_some]
  rcases ho with ho | ⟨s1, n1, w1, e1, tk1, nu1, wo1, st1, m1, op1, ar1, pile1, at1, ρ1, μ1, k1, er, hT1, nl1, z, hC1, hP1, hA1⟩
  · have hb := ho
    obtain ⟨n', s', k', R, h0, h1, h2, h3, -⟩ := ho
    obtain ⟨G, eG⟩ : ∃ G, Fu = G + 1 := ⟨Fu - 1, by omega⟩
    have : ∀ x : Option RC8, x = fX6_readTerm_L8 Fu kS Fu (i32 (L : Int)) a r.2.1 r.2.2.1 r.2.2.2.1 r.2.2.2.2.1 r.2.2.2.2.2.1 r.2.2.2.2.2.2.1 r.2.2.2.2.2.2.2 (i32 (dep : Int)) r.1 0 → x = some (0, r.2) := by
      intro x hx
      rw [hx, h0]
      have hG : ∀ g, g = G + 1 → fX6_readTerm_L8 Fu kS g (i32 (L : Int)) a r.2.1 r.2.2.1 r.2.2.2.1 r.2.2.2.2.1 r.2.2.2.2.2.1 r.2.2.2.2.2.2.1 r.2.2.2.2.2.2.2 (i32 (dep : Int)) 0 0 = some (0, r.2) := by
        intro g hg
        subst hg
        rw [fX6_readTerm_L8, gb_0, if_pos rfl, if_neg (by decide)]
      exact hG Fu eG
    refine ⟨_, this _ rfl, Or.inl (hb.post rfl ⟨n', h1, h2⟩ rfl)⟩
  · have lt1 := hT1.lt
    exact c_termL hFu hL hat hI b4 b1 b3 hk hd (L + 1) Fu 0 s1 r ⟨n1, w1, e1, tk1, nu1, wo1, st1, m1, op1, ar1, pile1, at1, ρ1, μ1, k1, er, hT1, nl1, z, hC1.mono (by omega) (fun h => by omega), hP1, hA1⟩ (by omega) (by omega) (by omega)
/-- after terms: as long as its signs come -/
theorem c_sumL (hFu : 6000 ≤ Fu) (hL : L ≤ 400) (hat : ∀ k, k < 400 → a k = t k) (hI : CTR 6 1 3 Fu wds test a t L fl dep (fX6_readTerm Fu kS)) (b4 : dep ≤ 8) {n np s m : Nat} {st op ar : Nat → Int32} {π : PLt} {A : Nat → Option RE14} (b1 : n ≤ s) (b3 : m + π.length ≤ s) (hk : OKP π) (hd : hdB π 5) : ∀ (d f j s1 : Nat) (r0 : RC8), SUCS 5 6 Fu wds test t a L fl dep π n np s m st op ar 3 A s1 r0 → L < s1 + d → d < f → j ≤ s1 →
    ∃ r, fX6_readSum_L8 Fu kS f (i32 (L : Int)) a r0.2.1 r0.2.2.1 r0.2.2.2.1 r0.2.2.2.2.1 r0.2.2.2.2.2.1 r0.2.2.2.2.2.2.1 r0.2.2.2.2.2.2.2 (i32 (dep : Int)) r0.1 (i32 (j : Int)) = some r ∧ (BADO L s A r ∨ SUCO 5 5 Fu wds test t a L fl dep π n np s m st op ar 3 A r) := by
  intro d
  induction d with
  | zero =>
    rintro f j s1 r0 ⟨n1, w1, e1, tk1, nu1, wo1, st1, m1, op1, ar1, pile1, at1, ρ1, μ1, k1, er, hT1, nl1, z1, hC1, hP1, hA1⟩ hd1 hf hj
    have := hT1.lt
    omega
  | succ d ih =>
    rintro f j s1 r0 ⟨n1, w1, e1, tk1, nu1, wo1, st1, m1, op1, ar1, pile1, at1, ρ1, μ1, k1, er, hT1, nl1, ⟨z1, z2, z3, z4, z5⟩, hC1, hP1, hA1⟩ hd1 hf hj
    obtain ⟨f, rfl⟩ : ∃ f', f = f' + 1 := ⟨f - 1, by omega⟩
    subst er
    have lt1 := hT1.lt
    have o1 : ¬ (1 : Int32) = 0 := by decide
    have hlen1 : (ρ1 ++ π).length = ρ1.length + π.length := List.length_append
    have sA : fX6_isSign (i32 (L : Int)) a (i32 (s1 : Int)) (i32 (tk1.1 : Int)) 43 = some (bI (tk1 = (3, 43))) := hT1.2.2.2.1.1 43 (by omega)
    have sB : fX6_isSign (i32 (L : Int)) a (i32 (s1 : Int)) (i32 (tk1.1 : Int)) 45 = some (bI (tk1 = (3, 45))) := hT1.2.2.2.1.1 45 (by omega)
    have fin : ∀ c k o : Nat, (c = 43 ∧ k = 2 ∧ o = 20 ∨ c = 45 ∧ k = 3 ∧ o = 21) → tk1 = (3, c) → ∃ r, fX6_readSum_L51 Fu kS (fX6_readSum_L8 Fu kS f) (i32 (L : Int)) a (i32 (n1 : Int)) (i32 ((np + w1 : Nat) : Int)) (i32 (s1 : Int)) (i32 (e1 : Int)) (i32 (tk1.1 : Int)) nu1 st1 (i32 (dep : Int)) (i32 (j : Int)) (i32 (k : Int)) = some r ∧ (BADO L s A r ∨ SUCO 5 5 Fu wds test t a L fl dep π n np s m st op ar 3 A r) := by
      intro c k o hco htk
      have se1 : s1 < e1 := hT1.no (by rw [htk]; show (3 : Nat) ≠ 0; omega)
      obtain ⟨s2, e2, tk2, nu2, wo2, q0, hT2, q1, q2⟩ := tok_go hFu hL hat (p := e1) (by omega) (i32 (s1 : Int)) (i32 (tk1.1 : Int)) nu1 (i32 (s1 : Int)) (i32 (tk1.1 : Int)) wo1
      have lt2 := hT2.lt
      have ob : bnd o = 5 := by rcases hco with ⟨-, -, rfl⟩ | ⟨-, -, rfl⟩ <;> rfl
      have flL := flu_len ρ1 (m1, op1, ar1)
      have flL2 : (flu ρ1 (m1, op1, ar1)).1 ≤ m1 + ρ1.length := flL.2
      have har := v_arith (fl := fl) (test := test) (op := op1) (ar := ar1) (pile := pile1) (at_ := at1) (Q := i32 (dep : Int)) hFu hT1.2.2.2.2 (c := c) (o := o) (by omega) htk q2 (by rw [ob]; exact hd) hC1.2.2.1 hk hP1 (by rw [ob]; exact hC1.2.2.2.1) (show m1 + (ρ1 ++ π).length ≤ 400 by omega) (by omega)
      have hstep : ∀ f, A (f + (1 + k1)) = LPm Fu wds test t L s2 e2 tk2.1 wo2 fl 0 (flu ρ1 (m1, op1, ar1)).1 (flu ρ1 (m1, op1, ar1)).2.1 (flu ρ1 (m1, op1, ar1)).2.2 (np + w1) (va_up pile1 π.length (i32 (o : Int))) (va_up at1 π.length (i32 ((0 : Nat) : Int))) ((o, 0) :: π : PLt).length dep 1 f := by
        intro f
        rw [show f + (1 + k1) = (f + 1) + k1 by omega, hA1]
        exact LP_3 har f
      have hk2 : OKP ((o, 0) :: π) := OKP.cons ⟨by show 20 ≤ o; omega, by show o < 32; omega, by show 0 < 400; omega⟩ hk
      obtain ⟨r, hr, ho⟩ := hI n1 (np + w1) s2 e2 (flu ρ1 (m1, op1, ar1)).1 tk2 nu2 wo2 st1 (flu ρ1 (m1, op1, ar1)).2.1 (flu ρ1 (m1, op1, ar1)).2.2 _ _ ((o, 0) :: π) ⟨hT2, ⟨by omega, z2, by show _ + (π.length + 1) ≤ s2; omega, b4⟩, hk2, hdB_cons (by show bnd o < 6; omega), hP1.tail.push, fun h => by omega⟩
      unfold fX6_readSum_L51
      rw [q1, Option.bind_some]
      show ∃ r', (Option.bind (fX6_readTerm Fu kS (i32 (L : Int)) a (i32 (n1 : Int)) (i32 ((np + w1 : Nat) : Int)) (i32 (s2 : Int)) (i32 (e2 : Int)) (i32 (tk2.1 : Int)) nu2 st1 (i32 (dep : Int))) _ = some r') ∧ _
      rw [hr, Option.bind_some]
      rcases ho with ho | ⟨s9, n9, w9, e9, tk9, nu9, wo9, st9, m9, op9, ar9, pile9, at9, ρ9, μ9, k9, er9, hT9, nl9, ⟨y1, y2, y3, y4, y5⟩, hC9, hP9, hA9⟩
      · have hb := ho.pre (s := s) (A := A) (k1 := 1 + k1) (by omega) (by omega) hstep
        obtain ⟨n', s', k', R, h0, h1, h2, h3, -⟩ := ho
        obtain ⟨n'', st'', he, hn⟩ := x_emitA (n := n') h2 (st := r.2.2.2.2.2.2.2) (x := i32 (k : Int)) (y := 0)
        rw [h1, he, Option.bind_some, h0]
        obtain ⟨f, rfl⟩ : ∃ f', f = f' + 1 := ⟨f - 1, by omega⟩
        rw [fX6_readSum_L8, gb_0, if_pos rfl]
        have same : ∀ {α : Type} (p : Prop) [Decidable p] (A : α), (if p then A else A) = A := by
          intro α p _ A; by_cases h : p
          · rw [if_pos h]
          · rw [if_neg h]
        rw [same]
        exact ⟨_, rfl, Or.inl (hb.post rfl ⟨n'', rfl, hn⟩ rfl)⟩
      · subst er9
        have lt9 := hT9.lt
        show ∃ r', (Option.bind (fX6_emit (i32 (n9 : Int)) st9 (i32 (k : Int)) 0) _ = some r') ∧ _
        rw [x_emit (by omega), Option.bind_some, i32_1024, i32_p1]
        refine ih f (j + 1) s9 (1, i32 ((n9 + 1 : Nat) : Int), i32 ((np + w1 + w9 : Nat) : Int), i32 (s9 : Int), i32 (e9 : Int), i32 (tk9.1 : Int), nu9, va_up st9 n9 (i32 ((1024 * k : Nat) : Int))) ⟨n9 + 1, w1 + w9, e9, tk9, nu9, wo9, va_up st9 n9 (i32 ((1024 * k : Nat) : Int)), m9, op9, ar9, pile9, at9, ρ9 ++ [(o, 0)], mop k μ1 μ9, k9 + (1 + k1), by rw [Nat.add_assoc], hT9, nl9, ⟨by omega, by omega, by omega, ?_, by omega⟩, hC1.bin hC9 (by omega) (by omega) (by omega) 5 (by omega) (by omega) (fun h => by omega), ?_, fun f => ?_⟩ (by omega) (by omega) (by omega)
        · rw [List.length_append]
          show m9 + (ρ9.length + 1) ≤ _
          omega
        · rw [← app_snoc]; exact hP9
        · rw [← app_snoc, ← Nat.add_assoc np w1 w9, show f + (k9 + (1 + k1)) = (f + k9) + (1 + k1) by omega, hstep, hA9]
    show ∃ r, fX6_readSum_L8 Fu kS (f + 1) (i32 (L : Int)) a (i32 (n1 : Int)) (i32 ((np + w1 : Nat) : Int)) (i32 (s1 : Int)) (i32 (e1 : Int)) (i32 (tk1.1 : Int)) nu1 st1 (i32 (dep : Int)) 1 (i32 (j : Int)) = some r ∧ _
    rw [fX6_readSum_L8, gb_1, if_neg o1, sA, sB, Option.bind_some]
    by_cases cA : tk1 = (3, 43)
    · have se1 : s1 < e1 := hT1.no (by rw [cA]; show (3 : Nat) ≠ 0; omega)
      rw [bI_yes cA, if_neg (show ¬ (400 : Int32) ≤ i32 (j : Int) by rw [i32_litN 400, i32_leN (by omega) (by omega)]; omega), if_neg o1]
      unfold fX6_readSum_L37
      rw [sA, bI_yes cA, Option.bind_some, if_neg o1]
      exact fin 43 2 20 (Or.inl ⟨rfl, rfl, rfl⟩) cA
    · rw [bI_no cA, if_pos rfl, Option.bind_some]
      by_cases cB : tk1 = (3, 45)
      · have se1 : s1 < e1 := hT1.no (by rw [cB]; show (3 : Nat) ≠ 0; omega)
        rw [bI_yes cB, if_neg (show ¬ (400 : Int32) ≤ i32 (j : Int) by rw [i32_litN 400, i32_leN (by omega) (by omega)]; omega), if_neg o1]
        unfold fX6_readSum_L37
        rw [sA, bI_no cA, Option.bind_some, if_pos rfl]
        exact fin 45 3 21 (Or.inr ⟨rfl, rfl, rfl⟩) cB
      · rw [bI_no cB, if_pos rfl]
        have same : ∀ {α : Type} (p : Prop) [Decidable p] (A : α), (if p then A else A) = A := by
          intro α p _ A; by_cases h : p
          · rw [if_pos h]
          · rw [if_neg h]
        rw [same]
        exact ⟨_, rfl, Or.inr ⟨s1, n1, w1, e1, tk1, nu1, wo1, st1, m1, op1, ar1, pile1, at1, ρ1, μ1, k1, rfl, hT1, ⟨fun _ => nl1.1 (Or.inl rfl), fun _ => ⟨cA, cB⟩, fun h => by omega, fun h => by omega⟩, ⟨z1, z2, z3, z4, z5⟩, hC1, hP1, hA1⟩⟩
theorem c_sum (hFu : 6000 ≤ Fu) (hL : L ≤ 400) (hat : ∀ k, k < 400 → a k = t k) (hI : CTR 6 1 3 Fu wds test a t L fl dep (fX6_readTerm Fu kS)) : CTR 5 1 3 Fu wds test a t L fl dep (fX6_readSum Fu kS) := by
  intro n np s e m tk nu wo st op ar pile at_ π hp
  obtain ⟨hT, ⟨b1, b2, b3, b4⟩, hk, hd, hP, -⟩ := hp
  have hd1 : hdB π 6 := by
    cases π with
    | nil => exact True.intro
    | cons x π => exact Nat.lt_succ_of_lt hd
  obtain ⟨r, hr, ho⟩ := hI n np s e m tk nu wo st op ar pile at_ π ⟨hT, ⟨b1, b2, b3, b4⟩, hk, hd1, hP, fun h => by omega⟩
  unfold fX6_readSum
  rw [hr, Option.bind_some]
  rcases ho with ho | ⟨s1, n1, w1, e1, tk1, nu1, wo1, st1, m1, op1, ar1, pile1, at1, ρ1, μ1, k1, er, hT1, nl1, z, hC1, hP1, hA1⟩
  · have hb := ho
    obtain ⟨n', s', k', R, h0, h1, h2, h3, -⟩ := ho
    obtain ⟨G, eG⟩ : ∃ G, Fu = G + 1 := ⟨Fu - 1, by omega⟩
    have : ∀ x : Option RC8, x = fX6_readSum_L8 Fu kS Fu (i32 (L : Int)) a r.2.1 r.2.2.1 r.2.2.2.1 r.2.2.2.2.1 r.2.2.2.2.2.1 r.2.2.2.2.2.2.1 r.2.2.2.2.2.2.2 (i32 (dep : Int)) r.1 0 → x = some (0, r.2) := by
      intro x hx
      rw [hx, h0]
      have hG : ∀ g, g = G + 1 → fX6_readSum_L8 Fu kS g (i32 (L : Int)) a r.2.1 r.2.2.1 r.2.2.2.1 r.2.2.2.2.1 r.2.2.2.2.2.1 r.2.2.2.2.2.2.1 r.2.2.2.2.2.2.2 (i32 (dep : Int)) 0 0 = some (0, r.2) := by
        intro g hg
        subst hg
        rw [fX6_readSum_L8, gb_0, if_pos rfl, if_neg (by decide)]
      exact hG Fu eG
    refine ⟨_, this _ rfl, Or.inl (hb.post rfl ⟨n', h1, h2⟩ rfl)⟩
  · have lt1 := hT1.lt
    exact c_sumL hFu hL hat hI b4 b1 b3 hk hd (L + 1) Fu 0 s1 r ⟨n1, w1, e1, tk1, nu1, wo1, st1, m1, op1, ar1, pile1, at1, ρ1, μ1, k1, er, hT1, nl1, z, hC1.mono (by omega) (fun h => by omega), hP1, hA1⟩ (by omega) (by omega) (by omega)
end SUM
