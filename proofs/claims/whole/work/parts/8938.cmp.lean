section CMP
variable {Fu L s e : Nat} {a t : Nat → Int32} {tk : Nat × Nat} {nu fl test : Int32} {wo : Int64} {wds : Nat → Int64} {m np dep n : Nat} {st op ar pile at_ : Nat → Int32} {π ρ : PLt} {kS : KFn}
theorem c_rs (hFu : 6000 ≤ Fu) (hL : L ≤ 400) (hat : ∀ k, k < 400 → a k = t k) (hw : WDS wds) : ∀ (k dep : Nat), dep ≤ 8 → 9 - dep ≤ k → CTR 5 1 3 Fu wds test a t L fl dep (fX6_rs Fu k) := by
  intro k
  induction k with
  | zero => intro dep h1 h2; omega
  | succ k ih =>
    intro dep h1 h2
    exact c_sum hFu hL hat (c_term hFu hL hat (c_part hFu hL hat hw (fun h => ih (dep + 1) (by omega) (by omega))))
theorem c_sumK (hFu : 6000 ≤ Fu) (hL : L ≤ 400) (hat : ∀ k, k < 400 → a k = t k) (hw : WDS wds) (hd : dep ≤ 8) : CTR 5 1 3 Fu wds test a t L fl dep (fX6_readSumK Fu) := c_rs hFu hL hat hw 10 dep hd (by omega)
/-- behind a sum in a test -/
theorem v_b149 (hFu : 6000 ≤ Fu) (hm : TKm tk wo) (nl : nlk 5 tk) (h1 : OKP (ρ ++ π)) (h3 : PLr pile at_ (ρ ++ π)) (h4 : ∀ x, x ∈ ρ → 1 ≤ bnd x.1) (hi : inn π ≠ 31) (hi2 : -1 ≤ inn π ∧ inn π ≤ 31) (h5 : (ρ ++ π).length ≤ 400) {F T M Q : Int32} :
    fX12_behindSum Fu t (i32 (L : Int)) F T (i32 (tk.1 : Int)) wo fl 0 M op ar pile at_ (i32 (((ρ ++ π).length : Nat) : Int)) Q 1 = fX12_behindSum_L149 Fu t (i32 (L : Int)) F T (i32 (tk.1 : Int)) wo fl 0 M op ar pile at_ (i32 (((ρ ++ π).length : Nat) : Int)) Q := by
  rw [v_bs hm (nl.2.1 rfl).1 (nl.2.1 rfl).2 (nl.1 (Or.inr rfl)).1 (nl.1 (Or.inr rfl)).2]
  unfold fX12_behindSum_L57
  rw [if_pos rfl, v_inner hFu h5 h1 h3, inn_app h4, Option.bind_some, if_neg (show ¬ i32 (inn π) = 31 by rw [i32_litN 31, i32_eq (by omega) (by omega) (by omega) (by omega)]; exact hi), if_neg (show ¬ (1 : Int32) = 0 by decide)]
  by_cases c : i32 (inn π) = -1
  · rw [if_pos c]
  · rw [if_neg c]
theorem inn_rng (h : OKP π) : -1 ≤ inn π ∧ inn π ≤ 31 := by
  induction π with
  | nil => exact ⟨by decide, by decide⟩
  | cons x π ih =>
    have k := h x (List.mem_cons_self ..)
    have g := ih (fun z hz => h z (List.mem_cons_of_mem _ hz))
    unfold inn
    have := k.2.1
    split
    · omega
    · exact g
theorem hdB.mono {l l2 : Nat} (h : hdB π l) (hl : l ≤ l2) : hdB π l2 := by
  cases π with
  | nil => exact True.intro
  | cons x π => exact Nat.lt_of_lt_of_le h hl
theorem c_cmp (hFu : 6000 ≤ Fu) (hL : L ≤ 400) (hat : ∀ k, k < 400 → a k = t k) (hI : CTR 5 1 3 Fu wds test a t L fl dep (fX6_readSumK Fu)) : CTR 4 1 2 Fu wds test a t L fl dep (fX6_readComparison Fu) := by
  intro n np s e m tk nu wo st op ar pile at_ π hp
  obtain ⟨hT, ⟨b1, b2, b3, b4⟩, hk, hd, hP, ht⟩ := hp
  obtain ⟨ht1, hinn⟩ := ht (by omega)
  subst ht1
  have hrg := inn_rng hk
  have o1 : ¬ (1 : Int32) = 0 := by decide
  obtain ⟨r, hr, ho⟩ := hI n np s e m tk nu wo st op ar pile at_ π ⟨hT, ⟨b1, b2, b3, b4⟩, hk, hd.mono (by omega), hP, fun h => by omega⟩
  unfold fX6_readComparison
  rw [hr, Option.bind_some]
  rcases ho with ho | ⟨s1, n1, w1, e1, tk1, nu1, wo1, st1, m1, op1, ar1, pile1, at1, ρ1, μ1, k1, er, hT1, nl1, ⟨z1, z2, z3, z4, z5⟩, hC1, hP1, hA1⟩
  · have hb := ho
    obtain ⟨n', s', k', R, h0, h1, h2, h3, -⟩ := ho
    rw [if_pos h0]
    exact ⟨_, rfl, Or.inl (hb.post rfl ⟨n', h1, h2⟩ rfl)⟩
  · subst er
    have lt1 := hT1.lt
    have hlen1 : (ρ1 ++ π).length = ρ1.length + π.length := List.length_append
    have b149 := v_b149 (t := t) (L := L) (fl := fl) (op := op1) (ar := ar1) (F := i32 (s1 : Int)) (T := i32 (e1 : Int)) (M := i32 (m1 : Int)) (Q := i32 (dep : Int)) hFu hT1.2.2.2.2 nl1 (hC1.2.2.1.app hk) hP1 (fun x hx => by have := hC1.2.2.2.1 x hx; omega) hinn hrg (by omega)
    have nc : fX12_isCompared Fu pile1 (i32 (((ρ1 ++ π).length : Nat) : Int)) = some 0 := by
      rw [v_cmp hFu (by omega) (hC1.2.2.1.app hk) hP1, cmp_app hC1.2.2.2.1, cmp_no hd hk]; rfl
    have x60 : fX6_isSign (i32 (L : Int)) a (i32 (s1 : Int)) (i32 (tk1.1 : Int)) 60 = some (bI (tk1 = (3, 60))) := hT1.2.2.2.1.1 60 (by omega)
    have x62 : fX6_isSign (i32 (L : Int)) a (i32 (s1 : Int)) (i32 (tk1.1 : Int)) 62 = some (bI (tk1 = (3, 62))) := hT1.2.2.2.1.1 62 (by omega)
    have x61 : fX6_isSign (i32 (L : Int)) a (i32 (s1 : Int)) (i32 (tk1.1 : Int)) 61 = some (bI (tk1 = (3, 61))) := hT1.2.2.2.1.1 61 (by omega)
    have m60 : fX12_isSign (i32 (tk1.1 : Int)) wo1 60 = some (bI (tk1 = (3, 60))) := hT1.2.2.2.2.1 60 (by omega)
    have m62 : fX12_isSign (i32 (tk1.1 : Int)) wo1 62 = some (bI (tk1 = (3, 62))) := hT1.2.2.2.2.1 62 (by omega)
    have m61 : fX12_isSign (i32 (tk1.1 : Int)) wo1 61 = some (bI (tk1 = (3, 61))) := hT1.2.2.2.2.1 61 (by omega)
    have fin : ∀ c k o : Nat, (c = 60 ∧ k = 6 ∧ o = 24 ∨ c = 62 ∧ k = 7 ∧ o = 25 ∨ c = 61 ∧ k = 8 ∧ o = 26) → tk1 = (3, c) → fX12_behindSum Fu t (i32 (L : Int)) (i32 (s1 : Int)) (i32 (e1 : Int)) (i32 (tk1.1 : Int)) wo1 fl 0 (i32 (m1 : Int)) op1 ar1 pile1 at1 (i32 (((ρ1 ++ π).length : Nat) : Int)) (i32 (dep : Int)) 1 = fX12_behindSum_L210 Fu t (i32 (L : Int)) (i32 (s1 : Int)) (i32 (e1 : Int)) (i32 (tk1.1 : Int)) wo1 fl 0 (i32 (m1 : Int)) op1 ar1 pile1 at1 (i32 (((ρ1 ++ π).length : Nat) : Int)) (i32 (dep : Int)) (i32 (o : Int)) 1 → ∃ r, fX6_readComparison_L53 Fu (i32 (L : Int)) a (i32 (n1 : Int)) (i32 ((np + w1 : Nat) : Int)) (i32 (s1 : Int)) (i32 (e1 : Int)) (i32 (tk1.1 : Int)) nu1 st1 (i32 (dep : Int)) (i32 (k : Int)) = some r ∧ (BADO L s (LPm Fu wds 1 t L s e tk.1 wo fl 0 m op ar np pile at_ π.length dep 1) r ∨ SUCO 4 4 Fu wds 1 t a L fl dep π n np s m st op ar 2 (LPm Fu wds 1 t L s e tk.1 wo fl 0 m op ar np pile at_ π.length dep 1) r) := by
      intro c k o hco htk h210
      have se1 : s1 < e1 := hT1.no (by rw [htk]; show (3 : Nat) ≠ 0; omega)
      obtain ⟨s2, e2, tk2, nu2, wo2, q0, hT2, q1, q2⟩ := tok_go hFu hL hat (p := e1) (by omega) (i32 (s1 : Int)) (i32 (tk1.1 : Int)) nu1 (i32 (s1 : Int)) (i32 (tk1.1 : Int)) wo1
      have lt2 := hT2.lt
      have ob : bnd o = 4 := by rcases hco with ⟨-, -, rfl⟩ | ⟨-, -, rfl⟩ | ⟨-, -, rfl⟩ <;> rfl
      have flL2 : (flu ρ1 (m1, op1, ar1)).1 ≤ m1 + ρ1.length := (flu_len ρ1 (m1, op1, ar1)).2
      have har : fX12_behindSum Fu t (i32 (L : Int)) (i32 (s1 : Int)) (i32 (e1 : Int)) (i32 (tk1.1 : Int)) wo1 fl 0 (i32 (m1 : Int)) op1 ar1 pile1 at1 (i32 (((ρ1 ++ π).length : Nat) : Int)) (i32 (dep : Int)) 1 = some (1, i32 (s2 : Int), i32 (e2 : Int), i32 (tk2.1 : Int), wo2, fl, 0, i32 ((flu ρ1 (m1, op1, ar1)).1 : Int), (flu ρ1 (m1, op1, ar1)).2.1, (flu ρ1 (m1, op1, ar1)).2.2, va_up pile1 π.length (i32 (o : Int)), va_up at1 π.length (i32 ((0 : Nat) : Int)), i32 ((π.length + 1 : Nat) : Int), i32 (dep : Int)) := by
        rw [h210]
        unfold fX12_behindSum_L210
        rw [v_must1 q2 o1, Option.bind_some]
        show (if (0 : Int32) = 0 then _ else _) = _
        rw [if_pos rfl, v_stl (m := m1) (op := op1) (ar := ar1) (LL := 5) hFu (l := 5) (by omega) (hd.mono (by omega)) rfl hC1.2.2.1 hk hP1 hC1.2.2.2.1 (by omega), Option.bind_some]
        show (fX12_push pile1 at1 (i32 ((π.length : Nat) : Int)) (i32 (o : Int)) 0).bind _ = _
        rw [v_push (by omega), Option.bind_some]
        rfl
      have hstep : ∀ f, LPm Fu wds 1 t L s e tk.1 wo fl 0 m op ar np pile at_ π.length dep 1 (f + (1 + k1)) = LPm Fu wds 1 t L s2 e2 tk2.1 wo2 fl 0 (flu ρ1 (m1, op1, ar1)).1 (flu ρ1 (m1, op1, ar1)).2.1 (flu ρ1 (m1, op1, ar1)).2.2 (np + w1) (va_up pile1 π.length (i32 (o : Int))) (va_up at1 π.length (i32 ((0 : Nat) : Int))) ((o, 0) :: π : PLt).length dep 1 f := by
        intro f
        rw [show f + (1 + k1) = (f + 1) + k1 by omega, hA1]
        exact LP_3 har f
      have hk2 : OKP ((o, 0) :: π) := OKP.cons ⟨by show 20 ≤ o; omega, by show o < 32; omega, by show 0 < 400; omega⟩ hk
      obtain ⟨r, hr, ho⟩ := hI n1 (np + w1) s2 e2 (flu ρ1 (m1, op1, ar1)).1 tk2 nu2 wo2 st1 (flu ρ1 (m1, op1, ar1)).2.1 (flu ρ1 (m1, op1, ar1)).2.2 _ _ ((o, 0) :: π) ⟨hT2, ⟨by omega, z2, by show _ + (π.length + 1) ≤ s2; omega, b4⟩, hk2, hdB_cons (by show bnd o < 5; omega), hP1.tail.push, fun h => by omega⟩
      unfold fX6_readComparison_L53
      rw [if_neg (show ¬ i32 (k : Int) = -1 by rw [show (-1 : Int32) = i32 (-1) from rfl, i32_eq (by omega) (by omega) (by omega) (by omega)]; omega), q1, Option.bind_some]
      show ∃ r', (Option.bind (fX6_readSumK Fu (i32 (L : Int)) a (i32 (n1 : Int)) (i32 ((np + w1 : Nat) : Int)) (i32 (s2 : Int)) (i32 (e2 : Int)) (i32 (tk2.1 : Int)) nu2 st1 (i32 (dep : Int))) _ = some r') ∧ _
      rw [hr, Option.bind_some]
      rcases ho with ho | ⟨s9, n9, w9, e9, tk9, nu9, wo9, st9, m9, op9, ar9, pile9, at9, ρ9, μ9, k9, er9, hT9, nl9, ⟨y1, y2, y3, y4, y5⟩, hC9, hP9, hA9⟩
      · have hb := ho.pre (s := s) (k1 := 1 + k1) (by omega) (by omega) hstep
        obtain ⟨n', s', k', R, h0, h1, h2, h3, -⟩ := ho
        rw [if_pos h0]
        exact ⟨_, rfl, Or.inl (hb.post rfl ⟨n', h1, h2⟩ rfl)⟩
      · subst er9
        have lt9 := hT9.lt
        rw [if_neg o1]
        show ∃ r', (Option.bind (fX6_emit (i32 (n9 : Int)) st9 (i32 (k : Int)) 0) _ = some r') ∧ _
        rw [x_emit (by omega), Option.bind_some, i32_1024]
        have hlen9 : (ρ9 ++ (o, 0) :: π).length = ρ9.length + (π.length + 1) := List.length_append
        have i9 : inn ((o, 0) :: π) = inn π := by
          show (if 30 ≤ o then (o : Int) else inn π) = inn π
          rw [if_neg (by omega)]
        have b9 := v_b149 (t := t) (L := L) (fl := fl) (op := op9) (ar := ar9) (F := i32 (s9 : Int)) (T := i32 (e9 : Int)) (M := i32 (m9 : Int)) (Q := i32 (dep : Int)) hFu hT9.2.2.2.2 nl9 (hC9.2.2.1.app hk2) hP9 (fun x hx => by have := hC9.2.2.2.1 x hx; omega) (by rw [i9]; exact hinn) (by rw [i9]; exact hrg) (by omega)
        have yc : fX12_isCompared Fu pile9 (i32 (((ρ9 ++ (o, 0) :: π).length : Nat) : Int)) = some 1 := by
          rw [v_cmp hFu (by omega) (hC9.2.2.1.app hk2) hP9, cmp_app hC9.2.2.2.1]
          have : cmpd ((o, 0) :: π) = true := by
            show (if o < 24 then cmpd π else if o < 27 then true else false) = true
            rw [if_neg (by omega), if_pos (by omega)]
          rw [this]; rfl
        have hb2 : fX12_behindSum Fu t (i32 (L : Int)) (i32 (s9 : Int)) (i32 (e9 : Int)) (i32 (tk9.1 : Int)) wo9 fl 0 (i32 (m9 : Int)) op9 ar9 pile9 at9 (i32 (((ρ9 ++ (o, 0) :: π).length : Nat) : Int)) (i32 (dep : Int)) 1 = some (2, i32 (s9 : Int), i32 (e9 : Int), i32 (tk9.1 : Int), wo9, fl, 0, i32 (m9 : Int), op9, ar9, pile9, at9, i32 (((ρ9 ++ (o, 0) :: π).length : Nat) : Int), i32 (dep : Int)) := by
          rw [b9]
          unfold fX12_behindSum_L149
          rw [yc, Option.bind_some, if_neg o1]
        refine ⟨_, rfl, Or.inr ⟨s9, n9 + 1, w1 + w9, e9, tk9, nu9, wo9, va_up st9 n9 (i32 ((1024 * k : Nat) : Int)), m9, op9, ar9, pile9, at9, ρ9 ++ [(o, 0)], mop k μ1 μ9, 1 + k9 + (1 + k1), by rw [Nat.add_assoc], hT9, ⟨fun h => by omega, fun h => by omega, fun h => by omega, fun h => by omega⟩, ⟨by omega, by omega, by omega, ?_, by omega⟩, hC1.bin hC9 (by omega) (by omega) (by omega) 4 (by omega) (by omega) (fun h => by omega), ?_, fun f => ?_⟩⟩
        · rw [List.length_append]
          show m9 + (ρ9.length + 1) ≤ _
          omega
        · rw [← app_snoc]; exact hP9
        · rw [← app_snoc, ← Nat.add_assoc np w1 w9, show f + (1 + k9 + (1 + k1)) = (f + 1 + k9) + (1 + k1) by omega, hstep, hA9]
          exact LP_3 hb2 f
    rw [if_neg o1]
    show ∃ r', (Option.bind (fX6_isSign (i32 (L : Int)) a (i32 (s1 : Int)) (i32 (tk1.1 : Int)) 60) _ = some r') ∧ _
    rw [x60, Option.bind_some]
    have q149 : ∀ (x : Option (Int32 × Int32 × Int32 × Int32 × Int64 × Int32 × Int32 × Int32 × (Nat → Int32) × (Nat → Int32) × (Nat → Int32) × (Nat → Int32) × Int32 × Int32)), (if (bI (tk1 = (3, 60)) : Int32) = 0 then (if (bI (tk1 = (3, 62)) : Int32) = 0 then fX12_behindSum_L188 Fu t (i32 (L : Int)) (i32 (s1 : Int)) (i32 (e1 : Int)) (i32 (tk1.1 : Int)) wo1 fl 0 (i32 (m1 : Int)) op1 ar1 pile1 at1 (i32 (((ρ1 ++ π).length : Nat) : Int)) (i32 (dep : Int)) 26 else fX12_behindSum_L188 Fu t (i32 (L : Int)) (i32 (s1 : Int)) (i32 (e1 : Int)) (i32 (tk1.1 : Int)) wo1 fl 0 (i32 (m1 : Int)) op1 ar1 pile1 at1 (i32 (((ρ1 ++ π).length : Nat) : Int)) (i32 (dep : Int)) 25) else fX12_behindSum_L188 Fu t (i32 (L : Int)) (i32 (s1 : Int)) (i32 (e1 : Int)) (i32 (tk1.1 : Int)) wo1 fl 0 (i32 (m1 : Int)) op1 ar1 pile1 at1 (i32 (((ρ1 ++ π).length : Nat) : Int)) (i32 (dep : Int)) 24) = x → fX12_behindSum Fu t (i32 (L : Int)) (i32 (s1 : Int)) (i32 (e1 : Int)) (i32 (tk1.1 : Int)) wo1 fl 0 (i32 (m1 : Int)) op1 ar1 pile1 at1 (i32 (((ρ1 ++ π).length : Nat) : Int)) (i32 (dep : Int)) 1 = x := by
      intro x hx
      rw [b149]
      unfold fX12_behindSum_L149
      rw [nc, Option.bind_some, if_pos rfl, m60, m62, Option.bind_some, Option.bind_some]
      exact hx
    by_cases c60 : tk1 = (3, 60)
    · rw [bI_yes c60, if_neg o1]
      refine fin 60 6 24 (Or.inl ⟨rfl, rfl, rfl⟩) c60 (q149 _ ?_)
      rw [bI_yes c60, if_neg o1]
      unfold fX12_behindSum_L188
      rw [if_neg (show ¬ (24 : Int32) = 26 by decide)]; rfl
    rw [bI_no c60, if_pos rfl]
    show ∃ r', (Option.bind (fX6_isSign (i32 (L : Int)) a (i32 (s1 : Int)) (i32 (tk1.1 : Int)) 62) _ = some r') ∧ _
    rw [x62, Option.bind_some]
    by_cases c62 : tk1 = (3, 62)
    · rw [bI_yes c62, if_neg o1]
      refine fin 62 7 25 (Or.inr (Or.inl ⟨rfl, rfl, rfl⟩)) c62 (q149 _ ?_)
      rw [bI_no c60, if_pos rfl, bI_yes c62, if_neg o1]
      unfold fX12_behindSum_L188
      rw [if_neg (show ¬ (25 : Int32) = 26 by decide)]; rfl
    rw [bI_no c62, if_pos rfl]
    show ∃ r', (Option.bind (fX6_isSign (i32 (L : Int)) a (i32 (s1 : Int)) (i32 (tk1.1 : Int)) 61) _ = some r') ∧ _
    rw [x61, Option.bind_some]
    by_cases c61 : tk1 = (3, 61)
    · rw [bI_yes c61, if_neg o1]
      refine fin 61 8 26 (Or.inr (Or.inr ⟨rfl, rfl, rfl⟩)) c61 (q149 _ ?_)
      rw [bI_no c60, if_pos rfl, bI_no c62, if_pos rfl]
      unfold fX12_behindSum_L188
      rw [if_pos rfl, m61, bI_yes c61, Option.bind_some, if_neg o1]; rfl
    rw [bI_no c61, if_pos rfl]
    unfold fX6_readComparison_L53
    rw [if_pos rfl]
    have hb0 : fX12_behindSum Fu t (i32 (L : Int)) (i32 (s1 : Int)) (i32 (e1 : Int)) (i32 (tk1.1 : Int)) wo1 fl 0 (i32 (m1 : Int)) op1 ar1 pile1 at1 (i32 (((ρ1 ++ π).length : Nat) : Int)) (i32 (dep : Int)) 1 = some (1, i32 (s1 : Int), i32 (e1 : Int), i32 (tk1.1 : Int), wo1, i32 (s1 : Int), 1, i32 (m1 : Int), op1, ar1, pile1, at1, i32 (((ρ1 ++ π).length : Nat) : Int), i32 (dep : Int)) := by
      refine q149 _ ?_
      rw [bI_no c60, if_pos rfl, bI_no c62, if_pos rfl]
      unfold fX12_behindSum_L188
      rw [if_pos rfl, m61, bI_no c61, Option.bind_some, if_pos rfl]
      unfold fX12_behindSum_L210
      rw [v_must0, Option.bind_some]
      show (if (1 : Int32) = 0 then _ else _) = _
      rw [if_neg o1]
    obtain ⟨R, hR1, hR2, hR3⟩ := bad_end (t := t) (L := L) (op := op1) (ar := ar1) (wds := wds) (test := 1) (m := m1) hFu (hC1.2.2.1.app hk) hP1 (by omega) s1 (i32 (s1 : Int)) (i32 (e1 : Int)) (i32 (tk1.1 : Int)) wo1 (i32 (dep : Int)) (i32 ((np + w1 : Nat) : Int)) 1
    refine ⟨_, rfl, Or.inl ⟨n1, s1, 1 + 1 + k1, R, rfl, rfl, by omega, rfl, by omega, by omega, by omega, fun f => ?_, hR2, hR3⟩⟩
    rw [show f + (1 + 1 + k1) = (f + 1 + 1) + k1 by omega, hA1]
    exact (LP_3 hb0 (f + 1)).trans (hR1 f)
end CMP
