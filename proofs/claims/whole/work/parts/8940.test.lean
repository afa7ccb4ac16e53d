section JUNC
variable {Fu L s e : Nat} {a t : Nat → Int32} {tk : Nat × Nat} {nu fl test : Int32} {wo : Int64} {wds : Nat → Int64} {m np dep n : Nat} {st op ar pile at_ : Nat → Int32} {π ρ : PLt} {kT : KFn}
theorem v_junc (hFu : 6000 ≤ Fu) (hm : TKm tk wo) {c l o : Nat} (hco : c = 15 ∧ l = 2 ∧ o = 28 ∨ c = 16 ∧ l = 1 ∧ o = 29) (htk : tk = (1, c)) {s2 e2 k2 : Nat} {wo2 : Int64} (hN : fX12_next Fu t (i32 (L : Int)) (i32 (s : Int)) (i32 (e : Int)) (i32 (tk.1 : Int)) wo = some (i32 (s2 : Int), i32 (e2 : Int), i32 (k2 : Int), wo2)) (hp : hdB π l) (h1 : OKP ρ) (h2 : OKP π) (h3 : PLr pile at_ (ρ ++ π)) (h4 : ∀ x, x ∈ ρ → l ≤ bnd x.1) (h5 : m + (ρ ++ π).length < 400) {Q : Int32} :
    fX12_behindTest Fu t (i32 (L : Int)) (i32 (s : Int)) (i32 (e : Int)) (i32 (tk.1 : Int)) wo fl 0 (i32 (m : Int)) op ar pile at_ (i32 (((ρ ++ π).length : Nat) : Int)) Q = some (0, i32 (s2 : Int), i32 (e2 : Int), i32 (k2 : Int), wo2, fl, 0, i32 (((flu ρ (m, op, ar)).1 + 1 : Nat) : Int), va_up (flu ρ (m, op, ar)).2.1 (flu ρ (m, op, ar)).1 (i32 (o : Int)), va_up (flu ρ (m, op, ar)).2.2 (flu ρ (m, op, ar)).1 0, va_up pile π.length (i32 (o : Int)), va_up at_ π.length (i32 ((flu ρ (m, op, ar)).1 : Int)), i32 ((π.length + 1 : Nat) : Int), Q) := by
  have g1 : fX12_isWord (i32 (tk.1 : Int)) wo 1476 = some (bI (tk = (1, 15))) := by rw [w15]; exact hm.2.1 15 (by omega)
  have g2 : fX12_isWord (i32 (tk.1 : Int)) wo 498 = some (bI (tk = (1, 16))) := by rw [w16]; exact hm.2.1 16 (by omega)
  have z1 : ¬ (1 : Int32) = 0 := by decide
  have hlen : (ρ ++ π).length = ρ.length + π.length := List.length_append
  have flL2 : (flu ρ (m, op, ar)).1 ≤ m + ρ.length := (flu_len ρ (m, op, ar)).2
  have stl := fun (LL : Int32) (hLL : LL = i32 (l : Int)) => v_stl (pile := pile) (at_ := at_) (op := op) (ar := ar) (m := m) (LL := LL) hFu (l := l) (by omega) hp hLL h1 h2 h3 h4 (by omega)
  unfold fX12_behindTest
  rcases hco with ⟨rfl, rfl, rfl⟩ | ⟨rfl, rfl, rfl⟩
  · rw [g1, bI_yes htk, Option.bind_some, if_neg z1]
    unfold fX12_behindTest_L22 fX12_behindTest_L32
    rw [if_neg z1, stl 2 rfl, Option.bind_some, if_neg z1]
    unfold fX12_behindTest_L47 fX12_behindTest_L66
    show (Option.bind (fX12_push pile at_ (i32 ((π.length : Nat) : Int)) 28 (i32 ((flu ρ (m, op, ar)).1 : Int))) _) = _
    rw [v_push (by omega), Option.bind_some, if_neg z1]
    show (Option.bind (fX12_emit (i32 ((flu ρ (m, op, ar)).1 : Int)) (flu ρ (m, op, ar)).2.1 (flu ρ (m, op, ar)).2.2 28 0) _) = _
    rw [v_emit (by omega), Option.bind_some, hN]
    rfl
  · have n15 : tk ≠ (1, 15) := by rw [htk]; decide
    rw [g1, bI_no n15, Option.bind_some, if_pos rfl, g2, bI_yes htk, Option.bind_some, if_neg z1]
    unfold fX12_behindTest_L22 fX12_behindTest_L32
    rw [if_pos rfl, stl 1 rfl, Option.bind_some, if_pos rfl]
    unfold fX12_behindTest_L47 fX12_behindTest_L66
    show (Option.bind (fX12_push pile at_ (i32 ((π.length : Nat) : Int)) 29 (i32 ((flu ρ (m, op, ar)).1 : Int))) _) = _
    rw [v_push (by omega), Option.bind_some, if_pos rfl]
    show (Option.bind (fX12_emit (i32 ((flu ρ (m, op, ar)).1 : Int)) (flu ρ (m, op, ar)).2.1 (flu ρ (m, op, ar)).2.2 29 0) _) = _
    rw [v_emit (by omega), Option.bind_some, hN]
    rfl
end JUNC
section TEST
variable {Fu L : Nat} {a t : Nat → Int32} {fl test : Int32} {wds : Nat → Int64} {dep : Nat} {kT : KFn}
/-- after plain tests: as long as its word comes -/
theorem c_bothL (hFu : 6000 ≤ Fu) (hL : L ≤ 400) (hat : ∀ k, k < 400 → a k = t k) (hI : CTR 3 0 2 Fu wds test a t L fl dep (fX6_readPlain Fu kT)) (b4 : dep ≤ 8) {n np s m : Nat} {st op ar : Nat → Int32} {π : PLt} {A : Nat → Option RE14} (b1 : n ≤ s) (b3 : m + π.length ≤ s) (hk : OKP π) (hd : hdB π 2) (ht : test = 1) (hin : inn π ≠ 31) : ∀ (d f j s1 : Nat) (r0 : RC8), SUCS 2 3 Fu wds test t a L fl dep π n np s m st op ar 2 A s1 r0 → L < s1 + d → d < f → j ≤ s1 →
    ∃ r, fX6_readBoth_L8 Fu kT f (i32 (L : Int)) a r0.2.1 r0.2.2.1 r0.2.2.2.1 r0.2.2.2.2.1 r0.2.2.2.2.2.1 r0.2.2.2.2.2.2.1 r0.2.2.2.2.2.2.2 (i32 (dep : Int)) r0.1 (i32 (j : Int)) = some r ∧ (BADO L s A r ∨ SUCO 2 2 Fu wds test t a L fl dep π n np s m st op ar 2 A r) := by
  intro d
  induction d with
  | zero =>
    rintro f j s1 r0 ⟨n1, w1, e1, tk1, nu1, wo1, st1, m1, op1, ar1, pile1, at1, ρ1, μ1, k1, er, hT1, nl1, z1, hC1, hP1, hA1⟩ hd1 hf hj
    have := hT1.lt
    omega
  | succ d ih =>
    rintro f j s1 r0 ⟨n1, w1, e1, tk1, nu1, wo1, st1, m1, op1, ar1, pile1, at1, ρ1, μ1, k1, er, hT1, nl1, ⟨z1, z2, z3, z4, z5⟩, hC1, hP1, hA1⟩ hd1 hf hj
    obtain ⟨f, rfl⟩ : ∃ f', f = f' + 1 := ⟨f - 1, by omega⟩
    subst er
    have lt1 := hT1.lt
    have o1 : ¬ (1 : Int32) = 0 := by decide
    have hlen1 : (ρ1 ++ π).length = ρ1.length + π.length := List.length_append
    have xw : fX6_isWord Fu 15 a (i32 (s1 : Int)) (i32 (e1 : Int)) (i32 (tk1.1 : Int)) = some (bI (tk1 = (1, 15))) := hT1.2.2.2.1.2.1 15 (by omega)
    have same : ∀ {α : Type} (p : Prop) [Decidable p] (A : α), (if p then A else A) = A := by
      intro α p _ A; by_cases h : p
      · rw [if_pos h]
      · rw [if_neg h]
    show ∃ r, fX6_readBoth_L8 Fu kT (f + 1) (i32 (L : Int)) a (i32 (n1 : Int)) (i32 ((np + w1 : Nat) : Int)) (i32 (s1 : Int)) (i32 (e1 : Int)) (i32 (tk1.1 : Int)) nu1 st1 (i32 (dep : Int)) 1 (i32 (j : Int)) = some r ∧ _
    rw [fX6_readBoth_L8, gb_1, if_neg o1, xw, Option.bind_some]
    by_cases cA : tk1 = (1, 15)
    · have se1 : s1 + 2 ≤ e1 := hT1.2.2.1 cA
      rw [bI_yes cA, if_neg (show ¬ (400 : Int32) ≤ i32 (j : Int) by rw [i32_litN 400, i32_leN (by omega) (by omega)]; omega), if_neg o1]
      obtain ⟨s2, e2, tk2, nu2, wo2, q0, hT2, q1, q2⟩ := tok_go hFu hL hat (p := e1) (by omega) (i32 (s1 : Int)) (i32 (tk1.1 : Int)) nu1 (i32 (s1 : Int)) (i32 (tk1.1 : Int)) wo1
      have lt2 := hT2.lt
      have flL2 : (flu ρ1 (m1, op1, ar1)).1 ≤ m1 + ρ1.length := (flu_len ρ1 (m1, op1, ar1)).2
      have har := v_junc (fl := fl) (op := op1) (ar := ar1) (pile := pile1) (at_ := at1) (m := m1) (Q := i32 (dep : Int)) hFu hT1.2.2.2.2 (c := 15) (l := 2) (o := 28) (by omega) cA q2 hd hC1.2.2.1 hk hP1 hC1.2.2.2.1 (by omega)
      generalize hc1 : flu ρ1 (m1, op1, ar1) = c1 at *
      have hstep : ∀ f, A (f + (1 + k1)) = LPm Fu wds test t L s2 e2 tk2.1 wo2 fl 0 (c1.1 + 1) (va_up c1.2.1 c1.1 (i32 ((28 : Nat) : Int))) (va_up c1.2.2 c1.1 0) (np + w1) (va_up pile1 π.length (i32 ((28 : Nat) : Int))) (va_up at1 π.length (i32 (c1.1 : Int))) ((28, c1.1) :: π : PLt).length dep 0 f := by
        intro f
        rw [show f + (1 + k1) = (f + 1) + k1 by omega, hA1]
        exact LP_2 har f
      have hk2 : OKP ((28, c1.1) :: π) := OKP.cons ⟨by show 20 ≤ 28; omega, by show 28 < 32; omega, by show c1.1 < 400; omega⟩ hk
      rw [x_emit (by omega), Option.bind_some, q1, Option.bind_some]
      obtain ⟨r, hr, ho⟩ := hI (n1 + 1) (np + w1) s2 e2 (c1.1 + 1) tk2 nu2 wo2 (va_up st1 n1 (11 * 1024 + 0)) (va_up c1.2.1 c1.1 (i32 ((28 : Nat) : Int))) (va_up c1.2.2 c1.1 0) _ _ ((28, c1.1) :: π) ⟨hT2, ⟨by omega, z2, by show c1.1 + 1 + (π.length + 1) ≤ s2; omega, b4⟩, hk2, hdB_cons (by show bnd 28 < 3; decide), hP1.tail.push, fun _ => ⟨ht, hin⟩⟩
      show ∃ r', (Option.bind (fX6_readPlain Fu kT (i32 (L : Int)) a (i32 ((n1 + 1 : Nat) : Int)) (i32 ((np + w1 : Nat) : Int)) (i32 (s2 : Int)) (i32 (e2 : Int)) (i32 (tk2.1 : Int)) nu2 (va_up st1 n1 (11 * 1024 + 0)) (i32 (dep : Int))) _ = some r') ∧ _
      rw [hr, Option.bind_some, x_aim (n := n1) (by omega), Option.bind_some]
      rcases ho with ho | ⟨s9, n9, w9, e9, tk9, nu9, wo9, st9, m9, op9, ar9, pile9, at9, ρ9, μ9, k9, er9, hT9, nl9, ⟨y1, y2, y3, y4, y5⟩, hC9, hP9, hA9⟩
      · have hb := ho.pre (s := s) (A := A) (k1 := 1 + k1) (by omega) (by omega) hstep
        obtain ⟨n', s', k', R, h0, h1, h2, h3, -⟩ := ho
        rw [h0]
        obtain ⟨f, rfl⟩ : ∃ f', f = f' + 1 := ⟨f - 1, by omega⟩
        rw [fX6_readBoth_L8, gb_0, if_pos rfl, same]
        exact ⟨_, rfl, Or.inl (hb.post rfl ⟨n', h1, h2⟩ rfl)⟩
      · subst er9
        have lt9 := hT9.lt
        have es9 : st9 n1 + i32 (n9 : Int) = i32 ((1024 * 11 + n9 : Nat) : Int) := by
          rw [hC9.2.1 n1 (by omega), va_up_at, show (11 : Int32) * 1024 + 0 = i32 ((1024 * 11 : Nat) : Int) from i32_1024 11, i32_add]; rfl
        have hcj := CODE.jmp (k := 11) (o := 28) (l := 2) (l2 := 3) hC1 (by rw [hc1]; exact hC9) (by omega) (by omega) (by omega) 2 (by decide) (by omega) (by omega) (by rw [hc1]; omega)
        rw [hc1] at hcj
        show ∃ r', fX6_readBoth_L8 Fu kT f (i32 (L : Int)) a (i32 (n9 : Int)) (i32 ((np + w1 + w9 : Nat) : Int)) (i32 (s9 : Int)) (i32 (e9 : Int)) (i32 (tk9.1 : Int)) nu9 (va_up st9 n1 (st9 n1 + i32 (n9 : Int))) (i32 (dep : Int)) 1 (i32 (j : Int) + 1) = some r' ∧ _
        rw [es9, i32_p1]
        refine ih f (j + 1) s9 (1, i32 (n9 : Int), i32 ((np + w1 + w9 : Nat) : Int), i32 (s9 : Int), i32 (e9 : Int), i32 (tk9.1 : Int), nu9, va_up st9 n1 (i32 ((1024 * 11 + n9 : Nat) : Int))) ⟨n9, w1 + w9, e9, tk9, nu9, wo9, va_up st9 n1 (i32 ((1024 * 11 + n9 : Nat) : Int)), m9, op9, ar9, pile9, at9, ρ9 ++ [(28, c1.1)], _, k9 + (1 + k1), by rw [Nat.add_assoc], hT9, nl9, ⟨by omega, by omega, by omega, ?_, by omega⟩, hcj, ?_, fun f => ?_⟩ (by omega) (by omega) (by omega)
        · rw [List.length_append]
          show m9 + (ρ9.length + 1) ≤ _
          omega
        · rw [← app_snoc]; exact hP9
        · rw [← app_snoc, ← Nat.add_assoc np w1 w9, show f + (k9 + (1 + k1)) = (f + k9) + (1 + k1) by omega, hstep, hA9]
    · rw [bI_no cA, if_pos rfl, same]
      exact ⟨_, rfl, Or.inr ⟨s1, n1, w1, e1, tk1, nu1, wo1, st1, m1, op1, ar1, pile1, at1, ρ1, μ1, k1, rfl, hT1, ⟨fun h => by omega, fun h => by omega, fun _ => cA, fun h => by omega⟩, ⟨z1, z2, z3, z4, z5⟩, hC1, hP1, hA1⟩⟩
theorem c_both (hFu : 6000 ≤ Fu) (hL : L ≤ 400) (hat : ∀ k, k < 400 → a k = t k) (hI : CTR 3 0 2 Fu wds test a t L fl dep (fX6_readPlain Fu kT)) : CTR 2 0 2 Fu wds test a t L fl dep (fX6_readBoth Fu kT) := by
  intro n np s e m tk nu wo st op ar pile at_ π hp
  obtain ⟨hT, ⟨b1, b2, b3, b4⟩, hk, hd, hP, ht⟩ := hp
  obtain ⟨ht1, hin⟩ := ht (by omega)
  obtain ⟨r, hr, ho⟩ := hI n np s e m tk nu wo st op ar pile at_ π ⟨hT, ⟨b1, b2, b3, b4⟩, hk, hd.mono (by omega), hP, fun _ => ⟨ht1, hin⟩⟩
  unfold fX6_readBoth
  rw [hr, Option.bind_some]
  rcases ho with ho | ⟨s1, n1, w1, e1, tk1, nu1, wo1, st1, m1, op1, ar1, pile1, at1, ρ1, μ1, k1, er, hT1, nl1, z, hC1, hP1, hA1⟩
  · have hb := ho
    obtain ⟨n', s', k', R, h0, h1, h2, h3, -⟩ := ho
    obtain ⟨G, eG⟩ : ∃ G, Fu = G + 1 := ⟨Fu - 1, by omega⟩
    have : ∀ x : Option RC8, x = fX6_readBoth_L8 Fu kT Fu (i32 (L : Int)) a r.2.1 r.2.2.1 r.2.2.2.1 r.2.2.2.2.1 r.2.2.2.2.2.1 r.2.2.2.2.2.2.1 r.2.2.2.2.2.2.2 (i32 (dep : Int)) r.1 0 → x = some (0, r.2) := by
      intro x hx
      rw [hx, h0]
      have hG : ∀ g, g = G + 1 → fX6_readBoth_L8 Fu kT g (i32 (L : Int)) a r.2.1 r.2.2.1 r.2.2.2.1 r.2.2.2.2.1 r.2.2.2.2.2.1 r.2.2.2.2.2.2.1 r.2.2.2.2.2.2.2 (i32 (dep : Int)) 0 0 = some (0, r.2) := by
        intro g hg
        subst hg
        rw [fX6_readBoth_L8, gb_0, if_pos rfl, if_neg (by decide)]
      exact hG Fu eG
    refine ⟨_, this _ rfl, Or.inl (hb.post rfl ⟨n', h1, h2⟩ rfl)⟩
  · have lt1 := hT1.lt
    exact c_bothL hFu hL hat hI b4 b1 b3 hk hd ht1 hin (L + 1) Fu 0 s1 r ⟨n1, w1, e1, tk1, nu1, wo1, st1, m1, op1, ar1, pile1, at1, ρ1, μ1, k1, er, hT1, nl1, z, hC1.mono (by omega) (fun h => by omega), hP1, hA1⟩ (by omega) (by omega) (by omega)
/-- after boths: as long as its word comes -/
theorem c_testL (hFu : 6000 ≤ Fu) (hL : L ≤ 400) (hat : ∀ k, k < 400 → a k = t k) (hI : CTR 2 0 2 Fu wds test a t L fl dep (fX6_readBoth Fu kT)) (b4 : dep ≤ 8) {n np s m : Nat} {st op ar : Nat → Int32} {π : PLt} {A : Nat → Option RE14} (b1 : n ≤ s) (b3 : m + π.length ≤ s) (hk : OKP π) (hd : hdB π 1) (ht : test = 1) (hin : inn π ≠ 31) : ∀ (d f j s1 : Nat) (r0 : RC8), SUCS 1 2 Fu wds test t a L fl dep π n np s m st op ar 2 A s1 r0 → L < s1 + d → d < f → j ≤ s1 →
    ∃ r, fX6_readTest_L8 Fu kT f (i32 (L : Int)) a r0.2.1 r0.2.2.1 r0.2.2.2.1 r0.2.2.2.2.1 r0.2.2.2.2.2.1 r0.2.2.2.2.2.2.1 r0.2.2.2.2.2.2.2 (i32 (dep : Int)) r0.1 (i32 (j : Int)) = some r ∧ (BADO L s A r ∨ SUCO 1 1 Fu wds test t a L fl dep π n np s m st op ar 2 A r) := by
  intro d
  induction d with
  | zero =>
    rintro f j s1 r0 ⟨n1, w1, e1, tk1, nu1, wo1, st1, m1, op1, ar1, pile1, at1, ρ1, μ1, k1, er, hT1, nl1, z1, hC1, hP1, hA1⟩ hd1 hf hj
    have := hT1.lt
    omega
  | succ d ih =>
    rintro f j s1 r0 ⟨n1, w1, e1, tk1, nu1, wo1, st1, m1, op1, ar1, pile1, at1, ρ1, μ1, k1, er, hT1, nl1, ⟨z1, z2, z3, z4, z5⟩, hC1, hP1, hA1⟩ hd1 hf hj
    obtain ⟨f, rfl⟩ : ∃ f', f = f' + 1 := ⟨f - 1, by omega⟩
    subst er
    have lt1 := hT1.lt
    have o1 : ¬ (1 : Int32) = 0 := by decide
    have hlen1 : (ρ1 ++ π).length = ρ1.length + π.length := List.length_append
    have xw : fX6_isWord Fu 16 a (i32 (s1 : Int)) (i32 (e1 : Int)) (i32 (tk1.1 : Int)) = some (bI (tk1 = (1, 16))) := hT1.2.2.2.1.2.1 16 (by omega)
    have same : ∀ {α : Type} (p : Prop) [Decidable p] (A : α), (if p then A else A) = A := by
      intro α p _ A; by_cases h : p
      · rw [if_pos h]
      · rw [if_neg h]
    show ∃ r, fX6_readTest_L8 Fu kT (f + 1) (i32 (L : Int)) a (i32 (n1 : Int)) (i32 ((np + w1 : Nat) : Int)) (i32 (s1 : Int)) (i32 (e1 : Int)) (i32 (tk1.1 : Int)) nu1 st1 (i32 (dep : Int)) 1 (i32 (j : Int)) = some r ∧ _
    rw [fX6_readTest_L8, gb_1, if_neg o1, xw, Option.bind_some]
    by_cases cA : tk1 = (1, 16)
    · have se1 : s1 + 2 ≤ e1 := hT1.2.1 cA
      rw [bI_yes cA, if_neg (show ¬ (400 : Int32) ≤ i32 (j : Int) by rw [i32_litN 400, i32_leN (by omega) (by omega)]; omega), if_neg o1]
      obtain ⟨s2, e2, tk2, nu2, wo2, q0, hT2, q1, q2⟩ := tok_go hFu hL hat (p := e1) (by omega) (i32 (s1 : Int)) (i32 (tk1.1 : Int)) nu1 (i32 (s1 : Int)) (i32 (tk1.1 : Int)) wo1
      have lt2 := hT2.lt
      have flL2 : (flu ρ1 (m1, op1, ar1)).1 ≤ m1 + ρ1.length := (flu_len ρ1 (m1, op1, ar1)).2
      have har := v_junc (fl := fl) (op := op1) (ar := ar1) (pile := pile1) (at_ := at1) (m := m1) (Q := i32 (dep : Int)) hFu hT1.2.2.2.2 (c := 16) (l := 1) (o := 29) (by omega) cA q2 hd hC1.2.2.1 hk hP1 hC1.2.2.2.1 (by omega)
      generalize hc1 : flu ρ1 (m1, op1, ar1) = c1 at *
      have hstep : ∀ f, A (f + (1 + k1)) = LPm Fu wds test t L s2 e2 tk2.1 wo2 fl 0 (c1.1 + 1) (va_up c1.2.1 c1.1 (i32 ((29 : Nat) : Int))) (va_up c1.2.2 c1.1 0) (np + w1) (va_up pile1 π.length (i32 ((29 : Nat) : Int))) (va_up at1 π.length (i32 (c1.1 : Int))) ((29, c1.1) :: π : PLt).length dep 0 f := by
        intro f
        rw [show f + (1 + k1) = (f + 1) + k1 by omega, hA1]
        exact LP_2 har f
      have hk2 : OKP ((29, c1.1) :: π) := OKP.cons ⟨by show 20 ≤ 29; omega, by show 29 < 32; omega, by show c1.1 < 400; omega⟩ hk
      rw [x_emit (by omega), Option.bind_some, q1, Option.bind_some]
      obtain ⟨r, hr, ho⟩ := hI (n1 + 1) (np + w1) s2 e2 (c1.1 + 1) tk2 nu2 wo2 (va_up st1 n1 (10 * 1024 + 0)) (va_up c1.2.1 c1.1 (i32 ((29 : Nat) : Int))) (va_up c1.2.2 c1.1 0) _ _ ((29, c1.1) :: π) ⟨hT2, ⟨by omega, z2, by show c1.1 + 1 + (π.length + 1) ≤ s2; omega, b4⟩, hk2, hdB_cons (by show bnd 29 < 2; decide), hP1.tail.push, fun _ => ⟨ht, hin⟩⟩
      show ∃ r', (Option.bind (fX6_readBoth Fu kT (i32 (L : Int)) a (i32 ((n1 + 1 : Nat) : Int)) (i32 ((np + w1 : Nat) : Int)) (i32 (s2 : Int)) (i32 (e2 : Int)) (i32 (tk2.1 : Int)) nu2 (va_up st1 n1 (10 * 1024 + 0)) (i32 (dep : Int))) _ = some r') ∧ _
      rw [hr, Option.bind_some, x_aim (n := n1) (by omega), Option.bind_some]
      rcases ho with ho | ⟨s9, n9, w9, e9, tk9, nu9, wo9, st9, m9, op9, ar9, pile9, at9, ρ9, μ9, k9, er9, hT9, nl9, ⟨y1, y2, y3, y4, y5⟩, hC9, hP9, hA9⟩
      · have hb := ho.pre (s := s) (A := A) (k1 := 1 + k1) (by omega) (by omega) hstep
        obtain ⟨n', s', k', R, h0, h1, h2, h3, -⟩ := ho
        rw [h0]
        obtain ⟨f, rfl⟩ : ∃ f', f = f' + 1 := ⟨f - 1, by omega⟩
        rw [fX6_readTest_L8, gb_0, if_pos rfl, same]
        exact ⟨_, rfl, Or.inl (hb.post rfl ⟨n', h1, h2⟩ rfl)⟩
      · subst er9
        have lt9 := hT9.lt
        have es9 : st9 n1 + i32 (n9 : Int) = i32 ((1024 * 10 + n9 : Nat) : Int) := by
          rw [hC9.2.1 n1 (by omega), va_up_at, show (10 : Int32) * 1024 + 0 = i32 ((1024 * 10 : Nat) : Int) from i32_1024 10, i32_add]; rfl
        have hcj := CODE.jmp (k := 10) (o := 29) (l := 1) (l2 := 2) hC1 (by rw [hc1]; exact hC9) (by omega) (by omega) (by omega) 1 (by decide) (by omega) (by omega) (by rw [hc1]; omega)
        rw [hc1] at hcj
        show ∃ r', fX6_readTest_L8 Fu kT f (i32 (L : Int)) a (i32 (n9 : Int)) (i32 ((np + w1 + w9 : Nat) : Int)) (i32 (s9 : Int)) (i32 (e9 : Int)) (i32 (tk9.1 : Int)) nu9 (va_up st9 n1 (st9 n1 + i32 (n9 : Int))) (i32 (dep : Int)) 1 (i32 (j : Int) + 1) = some r' ∧ _
        rw [es9, i32_p1]
        refine ih f (j + 1) s9 (1, i32 (n9 : Int), i32 ((np + w1 + w9 : Nat) : Int), i32 (s9 : Int), i32 (e9 : Int), i32 (tk9.1 : Int), nu9, va_up st9 n1 (i32 ((1024 * 10 + n9 : Nat) : Int))) ⟨n9, w1 + w9, e9, tk9, nu9, wo9, va_up st9 n1 (i32 ((1024 * 10 + n9 : Nat) : Int)), m9, op9, ar9, pile9, at9, ρ9 ++ [(29, c1.1)], _, k9 + (1 + k1), by rw [Nat.add_assoc], hT9, nl9, ⟨by omega, by omega, by omega, ?_, by omega⟩, hcj, ?_, fun f => ?_⟩ (by omega) (by omega) (by omega)
        · rw [List.length_append]
          show m9 + (ρ9.length + 1) ≤ _
          omega
        · rw [← app_snoc]; exact hP9
        · rw [← app_snoc, ← Nat.add_assoc np w1 w9, show f + (k9 + (1 + k1)) = (f + k9) + (1 + k1) by omega, hstep, hA9]
    · rw [bI_no cA, if_pos rfl, same]
      exact ⟨_, rfl, Or.inr ⟨s1, n1, w1, e1, tk1, nu1, wo1, st1, m1, op1, ar1, pile1, at1, ρ1, μ1, k1, rfl, hT1, ⟨fun h => by omega, fun h => by omega, fun _ => nl1.2.2.1 (Or.inl rfl), fun _ => cA⟩, ⟨z1, z2, z3, z4, z5⟩, hC1, hP1, hA1⟩⟩
theorem c_test (hFu : 6000 ≤ Fu) (hL : L ≤ 400) (hat : ∀ k, k < 400 → a k = t k) (hI : CTR 2 0 2 Fu wds test a t L fl dep (fX6_readBoth Fu kT)) : CTR 1 0 2 Fu wds test a t L fl dep (fX6_readTest Fu kT) := by
  intro n np s e m tk nu wo st op ar pile at_ π hp
  obtain ⟨hT, ⟨b1, b2, b3, b4⟩, hk, hd, hP, ht⟩ := hp
  obtain ⟨ht1, hin⟩ := ht (by omega)
  obtain ⟨r, hr, ho⟩ := hI n np s e m tk nu wo st op ar pile at_ π ⟨hT, ⟨b1, b2, b3, b4⟩, hk, hd.mono (by omega), hP, fun _ => ⟨ht1, hin⟩⟩
  unfold fX6_readTest
  rw [hr, Option.bind_some]
  rcases ho with ho | ⟨s1, n1, w1, e1, tk1, nu1, wo1, st1, m1, op1, ar1, pile1, at1, ρ1, μ1, k1, er, hT1, nl1, z, hC1, hP1, hA1⟩
  · have hb := ho
    obtain ⟨n', s', k', R, h0, h1, h2, h3, -⟩ := ho
    obtain ⟨G, eG⟩ : ∃ G, Fu = G + 1 := ⟨Fu - 1, by omega⟩
    have : ∀ x : Option RC8, x = fX6_readTest_L8 Fu kT Fu (i32 (L : Int)) a r.2.1 r.2.2.1 r.2.2.2.1 r.2.2.2.2.1 r.2.2.2.2.2.1 r.2.2.2.2.2.2.1 r.2.2.2.2.2.2.2 (i32 (dep : Int)) r.1 0 → x = some (0, r.2) := by
      intro x hx
      rw [hx, h0]
      have hG : ∀ g, g = G + 1 → fX6_readTest_L8 Fu kT g (i32 (L : Int)) a r.2.1 r.2.2.1 r.2.2.2.1 r.2.2.2.2.1 r.2.2.2.2.2.1 r.2.2.2.2.2.2.1 r.2.2.2.2.2.2.2 (i32 (dep : Int)) 0 0 = some (0, r.2) := by
        intro g hg
        subst hg
        rw [fX6_readTest_L8, gb_0, if_pos rfl, if_neg (by decide)]
      exact hG Fu eG
    refine ⟨_, this _ rfl, Or.inl (hb.post rfl ⟨n', h1, h2⟩ rfl)⟩
  · have lt1 := hT1.lt
    exact c_testL hFu hL hat hI b4 b1 b3 hk hd ht1 hin (L + 1) Fu 0 s1 r ⟨n1, w1, e1, tk1, nu1, wo1, st1, m1, op1, ar1, pile1, at1, ρ1, μ1, k1, er, hT1, nl1, z, hC1.mono (by omega) (fun h => by omega), hP1, hA1⟩ (by omega) (by omega) (by omega)
theorem c_rt (hFu : 6000 ≤ Fu) (hL : L ≤ 400) (hat : ∀ k, k < 400 → a k = t k) (hw : WDS wds) : ∀ (k dep : Nat), dep ≤ 8 → 9 - dep ≤ k → CTR 1 0 2 Fu wds test a t L fl dep (fX6_rt Fu k) := by
  intro k
  induction k with
  | zero => intro dep h1 h2; omega
  | succ k ih =>
    intro dep h1 h2
    exact c_test hFu hL hat (c_both hFu hL hat (c_plain hFu hL hat (fun h => ih (dep + 1) (by omega) (by omega)) (c_cmp hFu hL hat (c_sumK hFu hL hat hw h1))))
theorem c_testK (hFu : 6000 ≤ Fu) (hL : L ≤ 400) (hat : ∀ k, k < 400 → a k = t k) (hw : WDS wds) (hd : dep ≤ 8) : CTR 1 0 2 Fu wds test a t L fl dep (fX6_readTestK Fu) := c_rt hFu hL hat hw 10 dep hd (by omega)
end TEST
