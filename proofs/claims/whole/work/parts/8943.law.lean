/-! ===== law() ===== -/
def LWO (Fu L : Nat) (a : Nat → Int32) (C n np s e : Nat) (tk : Nat × Nat) (nu : Int32) (wo : Int64) (m : Nat) (st op ar hd tf en ncl : Nat → Int32) : Prop := ∃ (Lh : Nat → Int) (Ls Lt : Nat → Mn), TKR Fu L a s e tk nu wo ∧ (n ≤ s ∧ m ≤ s ∧ np ≤ 50 ∧ C ≤ 12) ∧ ACC C n m st op ar hd tf en ncl Lh Ls Lt
abbrev RL13 := Int32 × Int32 × Int32 × Int32 × Int32 × Int32 × Int32 × Int32 × Int32 × (Nat → Int32) × (Nat → Int32) × (Nat → Int32) × (Nat → Int32)
section LAWL
variable {Fu L : Nat} {a t : Nat → Int32} {wds hws : Nat → Int64} {th status : Int32} {refusals row : Nat → Int32}
/-- the reference has read it all, without a fault: it writes it into its row -/
def LWend (Fu : Nat) (th status : Int32) (refusals row t : Nat → Int32) (F T S : Int32) (W : Int64) (FL : Int32) (C : Int32) (ncl : Nat → Int32) (M : Int32) (op ar : Nat → Int32) (NP : Int32) (pile at_ : Nat → Int32) (PI OPN : Int32) (wds hws : Nat → Int64) (L : Int32) := fX12_law_L97 Fu th status refusals row t L F T S W FL 0 C ncl M op ar NP pile at_ PI OPN wds hws
theorem q_rd (hFu : 6000 ≤ Fu) (hL : L ≤ 400) (hat : ∀ k, k < 400 → a k = t k) (hw : WDS wds) (hh : HWS hws) : ∀ (d f g j C n np s e : Nat) (tk : Nat × Nat) (nu : Int32) (wo : Int64) (m : Nat) (st op ar hd tf en ncl pile at_ : Nat → Int32) (PI OPN : Int32), LWO Fu L a C n np s e tk nu wo m st op ar hd tf en ncl → L < s + d → d < f → d + 1 < g → j ≤ s →
    ∃ rx, fX6_read_L34 Fu f (i32 (L : Int)) a (i32 (C : Int)) (i32 (n : Int)) (i32 (np : Int)) (i32 (s : Int)) (i32 (e : Int)) (i32 (tk.1 : Int)) nu 1 hd tf en st (i32 (j : Int)) = some rx ∧
      ((∃ s' : Nat, rx.1 = 0 ∧ rx.2.2.2.2.1 = i32 (s' : Int) ∧ rx.2.2.2.2.2.2.2.2.1 = 0 ∧ ∃ (F T S : Int32) (W : Int64) (C' : Int32) (ncl' : Nat → Int32) (M' : Int32) (op' ar' : Nat → Int32) (NP' : Int32) (pile' at' : Nat → Int32) (PI' OPN' : Int32), fX12_law_L51 Fu g th status refusals row t (i32 (L : Int)) (i32 (s : Int)) (i32 (e : Int)) (i32 (tk.1 : Int)) wo (-1) 0 (i32 (C : Int)) ncl (i32 (m : Int)) op ar (i32 (np : Int)) pile at_ PI OPN wds hws = fX12_law_L97 Fu th status refusals row t (i32 (L : Int)) F T S W (i32 (s' : Int)) 1 C' ncl' M' op' ar' NP' pile' at' PI' OPN' wds hws) ∨
       (∃ (C' n' np' s' e' : Nat) (tk' : Nat × Nat) (nu' : Int32) (wo' : Int64) (m' : Nat) (st' op' ar' hd' tf' en' ncl' pile' at' : Nat → Int32) (PI' OPN' : Int32), LWO Fu L a C' n' np' s' e' tk' nu' wo' m' st' op' ar' hd' tf' en' ncl' ∧ rx = (1, i32 (C' : Int), i32 (n' : Int), i32 (np' : Int), i32 (s' : Int), i32 (e' : Int), i32 (tk'.1 : Int), nu', 1, hd', tf', en', st') ∧ fX12_law_L51 Fu g th status refusals row t (i32 (L : Int)) (i32 (s : Int)) (i32 (e : Int)) (i32 (tk.1 : Int)) wo (-1) 0 (i32 (C : Int)) ncl (i32 (m : Int)) op ar (i32 (np : Int)) pile at_ PI OPN wds hws = fX12_law_L97 Fu th status refusals row t (i32 (L : Int)) (i32 (s' : Int)) (i32 (e' : Int)) (i32 (tk'.1 : Int)) wo' (-1) 0 (i32 (C' : Int)) ncl' (i32 (m' : Int)) op' ar' (i32 (np' : Int)) pile' at' PI' OPN' wds hws)) := by
  intro d
  induction d with
  | zero =>
    rintro f g j C n np s e tk nu wo m st op ar hd tf en ncl pile at_ PI OPN ⟨Lh, Ls, Lt, hT, hb, hA⟩ hd1
    have := hT.lt
    omega
  | succ d ih =>
    rintro f g j C n np s e tk nu wo m st op ar hd tf en ncl pile at_ PI OPN ⟨Lh, Ls, Lt, hT, ⟨b1, b2, b3, b4⟩, hA⟩ hd1 hf hg hj
    obtain ⟨f, rfl⟩ : ∃ f', f = f' + 1 := ⟨f - 1, by omega⟩
    obtain ⟨g, rfl⟩ : ∃ f', g = f' + 1 := ⟨g - 1, by omega⟩
    have lt := hT.lt
    have o1 : ¬ (1 : Int32) = 0 := by decide
    have x59 : fX6_isSign (i32 (L : Int)) a (i32 (s : Int)) (i32 (tk.1 : Int)) 59 = some (bI (tk = (3, 59))) := hT.2.2.2.1.1 59 (by omega)
    have m59 : fX12_isSign (i32 (tk.1 : Int)) wo 59 = some (bI (tk = (3, 59))) := hT.2.2.2.2.1 59 (by omega)
    have same : ∀ {α : Type} (p : Prop) [Decidable p] (A : α), (if p then A else A) = A := by
      intro α p _ A; by_cases h : p
      · rw [if_pos h]
      · rw [if_neg h]
    rw [fX6_read_L34, fX12_law_L51, if_neg o1, x59, Option.bind_some, if_pos rfl, m59, Option.bind_some]
    by_cases c : tk = (3, 59)
    · have se : s < e := hT.no (by rw [c]; show (3 : Nat) ≠ 0; omega)
      rw [bI_yes c, if_neg o1, if_neg (show ¬ (400 : Int32) ≤ i32 (j : Int) by rw [i32_litN 400, i32_leN (by omega) (by omega)]; omega), if_neg o1]
      obtain ⟨s2, e2, tk2, nu2, wo2, q0, hT2, q1, q2⟩ := tok_go hFu hL hat (p := e) (by omega) (i32 (s : Int)) (i32 (tk.1 : Int)) nu (i32 (s : Int)) (i32 (tk.1 : Int)) wo
      have lt2 := hT2.lt
      obtain ⟨rx, rm, h1, h2, h3⟩ := c_clause (fl := -1) (wds := wds) (hws := hws) (pile := pile) (at_ := at_) (PI := PI) (OPN := OPN) hFu hL hat hw hh hT2 (show n ≤ s2 by omega) b3 (show m ≤ s2 by omega) b4 hA
      rw [q1, q2, Option.bind_some, Option.bind_some]
      show ∃ rx', Option.bind (fX6_readClause Fu (i32 (L : Int)) a (i32 (C : Int)) (i32 (n : Int)) (i32 (np : Int)) (i32 (s2 : Int)) (i32 (e2 : Int)) (i32 (tk2.1 : Int)) nu2 hd tf en st) _ = some rx' ∧ ((∃ s' : Nat, _ ∧ _ ∧ _ ∧ ∃ (F T S : Int32) (W : Int64) (C' : Int32) (ncl' : Nat → Int32) (M' : Int32) (op' ar' : Nat → Int32) (NP' : Int32) (pile' at' : Nat → Int32) (PI' OPN' : Int32), Option.bind (fX12_readClause Fu t (i32 (L : Int)) (i32 (s2 : Int)) (i32 (e2 : Int)) (i32 (tk2.1 : Int)) wo2 (-1) 0 (i32 (C : Int)) ncl (i32 (m : Int)) op ar (i32 (np : Int)) pile at_ PI OPN wds hws) _ = _) ∨ (∃ (C' n' np' s' e' : Nat) (tk' : Nat × Nat) (nu' : Int32) (wo' : Int64) (m' : Nat) (st' op' ar' hd' tf' en' ncl' pile' at' : Nat → Int32) (PI' OPN' : Int32), _ ∧ _ ∧ Option.bind (fX12_readClause Fu t (i32 (L : Int)) (i32 (s2 : Int)) (i32 (e2 : Int)) (i32 (tk2.1 : Int)) wo2 (-1) 0 (i32 (C : Int)) ncl (i32 (m : Int)) op ar (i32 (np : Int)) pile at_ PI OPN wds hws) _ = _))
      rw [h1, h2, Option.bind_some, Option.bind_some]
      rcases h3 with ⟨s', g1, g2, g3, g4, g5⟩ | ⟨n', np', s', e', tk', nu', wo', hd', tf', en', st', m', op', ar', ncl', pile', at', pi', opn', Lh', Ls', Lt', er, em, hT', ⟨y1, y2, y3, y4, y5⟩, hA'⟩
      · rw [g1, gb_0, g4, g5]
        obtain ⟨f, rfl⟩ : ∃ f', f = f' + 1 := ⟨f - 1, by omega⟩
        obtain ⟨g, rfl⟩ : ∃ f', g = f' + 1 := ⟨g - 1, by omega⟩
        rw [fX6_read_L34, if_pos rfl, same, fX12_law_L51, if_neg o1]
        unfold fX6_read_L75 fX6_read_L94 fX6_read_L95 fX12_law_L78
        rw [if_pos rfl, gb_0, if_pos rfl, if_neg o1]
        exact ⟨_, rfl, Or.inl ⟨s', rfl, g2, rfl, _, _, _, _, _, _, _, _, _, _, _, _, _, _, rfl⟩⟩
      · subst er em
        show ∃ rx', gb 1 (fX6_read_L34 Fu f (i32 (L : Int)) a (i32 ((C + 1 : Nat) : Int)) (i32 (n' : Int)) (i32 (np' : Int)) (i32 (s' : Int)) (i32 (e' : Int)) (i32 (tk'.1 : Int)) nu' 1 hd' tf' en' st' (i32 (j : Int) + 1)) = some rx' ∧ _
        rw [gb_1, i32_p1]
        exact ih f g (j + 1) (C + 1) n' np' s' e' tk' nu' wo' m' st' op' ar' hd' tf' en' ncl' pile' at' pi' opn' ⟨Lh', Ls', Lt', hT', ⟨y2, y3, y4, y5⟩, hA'⟩ (by omega) (by omega) (by omega) (by omega)
    · rw [bI_no c, if_pos rfl, same, if_pos rfl]
      unfold fX6_read_L75 fX6_read_L94 fX12_law_L78
      rw [if_neg o1, if_pos rfl]
      by_cases c0 : tk.1 = 0
      · have y0 : i32 (tk.1 : Int) = 0 := by rw [c0]; rfl
        rw [if_pos y0, if_pos y0]
        unfold fX6_read_L95
        rw [gb_1, if_neg o1]
        have gC : ¬ i32 (C : Int) < 0 := by rw [i32_litN 0, i32_ltN (by omega) (by omega)]; omega
        have gN : ¬ i32 (n : Int) < 0 := by rw [i32_litN 0, i32_ltN (by omega) (by omega)]; omega
        rw [gl_in gC (by rw [i32_t (by omega)]; omega), gl_in gN (by rw [i32_t (by omega)]; omega)]
        exact ⟨_, rfl, Or.inr ⟨C, n, np, s, e, tk, nu, wo, m, st, op, ar, hd, tf, en, ncl, pile, at_, PI, OPN, ⟨Lh, Ls, Lt, hT, ⟨b1, b2, b3, b4⟩, hA⟩, rfl, rfl⟩⟩
      · have n0 : ¬ i32 (tk.1 : Int) = 0 := by rw [i32_litN 0, i32_eqN (by omega) (by omega)]; exact c0
        rw [if_neg n0, if_neg n0, v_must0, Option.bind_some]
        unfold fX6_read_L95
        rw [gb_0, if_pos rfl]
        exact ⟨_, rfl, Or.inl ⟨s, rfl, rfl, rfl, _, _, _, _, _, _, _, _, _, _, _, _, _, _, rfl⟩⟩
end LAWL
