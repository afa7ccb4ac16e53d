/-! ===== law() ===== -/
def LWO (Fu L : Nat) (a : Nat → Int32) (C n np s e : Nat) (tk : Nat × Nat) (nu : Int32) (wo : Int64) (m : Nat) (st op ar hd tf en ncl : Nat → Int32) : Prop := ∃ (Lh : Nat → Int) (Ls Lt : Nat → Mn), TKR Fu L a s e tk nu wo ∧ (n ≤ s ∧ m ≤ s ∧ np ≤ 50 ∧ C ≤ 12) ∧ ACC C n m st op ar hd tf en ncl Lh Ls Lt
abbrev RL13 := Int32 × Int32 × Int32 × Int32 × Int32 × Int32 × Int32 × Int32 × Int32 × (Nat → Int32) × (Nat → Int32) × (Nat → Int32) × (Nat → Int32)
section LAWL
variable {Fu L : Nat} {a t : Nat → Int32} {wds hws : Nat → Int64} {th status : Int32} {refusals row : Nat → Int32}
theorem q_rd (hFu : 6000 ≤ Fu) (hL : L ≤ 400) (hat : ∀ k, k < 400 → a k = t k) (hw : WDS wds) (hh : HWS hws) : ∀ (d f g j C n np s e : Nat) (tk : Nat × Nat) (nu : Int32) (wo : Int64) (m : Nat) (st op ar hd tf en ncl pile at_ : Nat → Int32) (PI OPN : Int32), LWO Fu L a C n np s e tk nu wo m st op ar hd tf en ncl → L < s + d → d < f → d + 1 < g → j ≤ s →
    ∃ rx, fX6_read_L34 Fu f (i32 (L : Int)) a (i32 (C : Int)) (i32 (n : Int)) (i32 (np : Int)) (i32 (s : Int)) (i32 (e : Int)) (i32 (tk.1 : Int)) nu 1 hd tf en st (i32 (j : Int)) = some rx ∧
      ((∃ s' : Nat, rx.1 = 0 ∧ rx.2.2.2.2.1 = i32 (s' : Int) ∧ rx.2.2.2.2.2.2.2.2.1 = 0 ∧ ∃ (F T S : Int32) (W : Int64) (C' : Int32) (ncl' : Nat → Int32) (M' : Int32) (op' ar' : Nat → Int32) (NP' : Int32) (pile' at' : Nat → Int32) (PI' OPN' : Int32), fX12_law_L51 Fu g th status refusals row t (i32 (L : Int)) (i32 (s : Int)) (i32 (e : Int)) (i32 (tk.1 : Int)) wo (-1) 0 (i32 (C : Int)) ncl (i32 (m : Int)) op ar (i32 (np : Int)) pile at_ PI OPN wds hws = fX12_law_L97 Fu th status refusals row t (i32 (L : Int)) F T S W (i32 (s' : Int)) 1 C' ncl' M' op' ar' NP' pile' at' PI' OPN' wds hws) ∨
       (∃ (C' n' np' s' e' : Nat) (tk' : Nat × Nat) (nu' : Int32) (wo' : Int64) (m' : Nat) (st' op' ar' hd' tf' en' ncl' pile' at' : Nat → Int32) (PI' OPN' : Int32), LWO Fu L a C' n' np' s' e' tk' nu' wo' m' st' op' ar' hd' tf' en' ncl' ∧ rx = (1, i32 (C' : Int), i32 (n' : Int), i32 (np' : Int), i32 (s' : Int), i32 (e' : Int), i32 (tk'.1 : Int), nu', 1, hd', tf', en', st') ∧ fX12_law_L51 Fu g th status refusals row t (i32 (L : Int)) (i32 (s : Int)) (i32 (e : Int)) (i32 (tk.1 : Int)) wo (-1) 0 (i32 (C : Int)) ncl (i32 (m : Int)) op ar (i32 (np : Int)) pile at_ PI OPN wds hws = fX12_law_L97 Fu th status refusals row t (i32 (L : Int)) (i32 (s' : Int)) (i32 (e' : Int)) (i32 (tk'.1 : Int)) wo' (-1) 0 (i32 (C' : Int)) ncl' (i32 (m' : Int)) op' ar' (i32 (np' : Int)) pile' at' PI' OPN' wds hws)) := by
  intro d
  induction d with
  | zero =>
    rintro f g j C n np s e tk nu wo m st op ar hd tf en ncl pile at_ PI OPN ⟨Lh, Ls, Lt, hT, hb, hA⟩ hd1
    have := hT.lt
    omega
  | succ d ih =>
    rintro f g j C n np s e tk nu wo m st op ar hd tf en ncl pile at_ PI OPN ⟨Lh, Ls, Lt, hT, ⟨b1, b2, b3, b4⟩, hA⟩ hd1 hf hg hj
    obtain ⟨f, rfl⟩ : ∃ f', f = f' + 1 := ⟨f - 1, by omega⟩
    obtain ⟨g, rfl⟩ : ∃ f', g = f' + 1 := ⟨g - 1, by omega⟩
    have lt := hT.lt
    have o1 : ¬ (1 : Int32) = 0 := by decide
    have x59 : fX6_isSign (i32 (L : Int)) a (i32 (s : Int)) (i32 (tk.1 : Int)) 59 = some (bI (tk = (3, 59))) := hT.2.2.2.1.1 59 (by omega)
    have m59 : fX12_isSign (i32 (tk.1 : Int)) wo 59 = some (bI (tk = (3, 59))) := hT.2.2.2.2.1 59 (by omega)
    have same : ∀ {α : Type} (p : Prop) [Decidable p] (A : α), (if p then A else A) = A := by
      intro α p _ A; by_cases h : p
      · rw [if_pos h]
      · rw [if_neg h]
    rw [fX6_read_L34, fX12_law_L51, if_neg o1, x59, Option.bind_some, if_pos rfl, m59, Option.bind_some]
    by_cases c : tk = (3, 59)
    · have se : s < e := hT.no (by rw [c]; show (3 : Nat) ≠ 0; omega)
      rw [bI_yes c, if_neg o1, if_neg (show ¬ (400 : Int32) ≤ i32 (j : Int) by rw [i32_litN 400, i32_leN (by omega) (by omega)]; omega), if_neg o1]
      obtain ⟨s2, e2, tk2, nu2, wo2, q0, hT2, q1, q2⟩ := tok_go hFu hL hat (p := e) (by omega) (i32 (s : Int)) (i32 (tk.1 : Int)) nu (i32 (s : Int)) (i32 (tk.1 : Int)) wo
      have lt2 := hT2.lt
      obtain ⟨rx, rm, h1, h2, h3⟩ := c_clause (fl := -1) (wds := wds) (hws := hws) (pile := pile) (at_ := at_) (PI := PI) (OPN := OPN) hFu hL hat hw hh hT2 (show n ≤ s2 by omega) b3 (show m ≤ s2 by omega) b4 hA
      rw [q1, q2, Option.bind_some, Option.bind_some]
      show ∃ rx', Option.bind (fX6_readClause Fu (i32 (L : Int)) a (i32 (C : Int)) (i32 (n : Int)) (i32 (np : Int)) (i32 (s2 : Int)) (i32 (e2 : Int)) (i32 (tk2.1 : Int)) nu2 hd tf en st) _ = some rx' ∧ ((∃ s' : Nat, _ ∧ _ ∧ _ ∧ ∃ (F T S : Int32) (W : Int64) (C' : Int32) (ncl' : Nat → Int32) (M' : Int32) (op' ar' : Nat → Int32) (NP' : Int32) (pile' at' : Nat → Int32) (PI' OPN' : Int32), Option.bind (fX12_readClause Fu t (i32 (L : Int)) (i32 (s2 : Int)) (i32 (e2 : Int)) (i32 (tk2.1 : Int)) wo2 (-1) 0 (i32 (C : Int)) ncl (i32 (m : Int)) op ar (i32 (np : Int)) pile at_ PI OPN wds hws) _ = _) ∨ (∃ (C' n' np' s' e' : Nat) (tk' : Nat × Nat) (nu' : Int32) (wo' : Int64) (m' : Nat) (st' op' ar' hd' tf' en' ncl' pile' at' : Nat → Int32) (PI' OPN' : Int32), _ ∧ _ ∧ Option.bind (fX12_readClause Fu t (i32 (L : Int)) (i32 (s2 : Int)) (i32 (e2 : Int)) (i32 (tk2.1 : Int)) wo2 (-1) 0 (i32 (C : Int)) ncl (i32 (m : Int)) op ar (i32 (np : Int)) pile at_ PI OPN wds hws) _ = _))
      rw [h1, h2, Option.bind_some, Option.bind_some]
      rcases h3 with ⟨s', g1, g2, g3, g4, g5⟩ | ⟨n', np', s', e', tk', nu', wo', hd', tf', en', st', m', op', ar', ncl', pile', at', pi', opn', Lh', Ls', Lt', er, em, hT', ⟨y1, y2, y3, y4, y5⟩, hA'⟩
      · rw [g1, gb_0, g4, g5]
        obtain ⟨f, rfl⟩ : ∃ f', f = f' + 1 := ⟨f - 1, by omega⟩
        obtain ⟨g, rfl⟩ : ∃ f', g = f' + 1 := ⟨g - 1, by omega⟩
        rw [fX6_read_L34, if_pos rfl, same, fX12_law_L51, if_neg o1]
        unfold fX6_read_L75 fX6_read_L94 fX6_read_L95 fX12_law_L78
        rw [if_pos rfl, gb_0, if_pos rfl, if_neg o1]
        exact ⟨_, rfl, Or.inl ⟨s', rfl, g2, rfl, _, _, _, _, _, _, _, _, _, _, _, _, _, _, rfl⟩⟩
      · subst er em
        show ∃ rx', gb 1 (fX6_read_L34 Fu f (i32 (L : Int)) a (i32 ((C + 1 : Nat) : Int)) (i32 (n' : Int)) (i32 (np' : Int)) (i32 (s' : Int)) (i32 (e' : Int)) (i32 (tk'.1 : Int)) nu' 1 hd' tf' en' st' (i32 (j : Int) + 1)) = some rx' ∧ _
        rw [gb_1, i32_p1]
        exact ih f g (j + 1) (C + 1) n' np' s' e' tk' nu' wo' m' st' op' ar' hd' tf' en' ncl' pile' at' pi' opn' ⟨Lh', Ls', Lt', hT', ⟨y2, y3, y4, y5⟩, hA'⟩ (by omega) (by omega) (by omega) (by omega)
    · rw [bI_no c, if_pos rfl, same, if_pos rfl]
      unfold fX6_read_L75 fX6_read_L94 fX12_law_L78
      rw [if_neg o1, if_pos rfl]
      by_cases c0 : tk.1 = 0
      · have y0 : i32 (tk.1 : Int) = 0 := by rw [c0]; rfl
        rw [if_pos y0, if_pos y0]
        unfold fX6_read_L95
        rw [gb_1, if_neg o1]
        have gC : ¬ i32 (C : Int) < 0 := by rw [i32_litN 0, i32_ltN (by omega) (by omega)]; omega
        have gN : ¬ i32 (n : Int) < 0 := by rw [i32_litN 0, i32_ltN (by omega) (by omega)]; omega
        rw [gl_in gC (by rw [i32_t (by omega)]; omega), gl_in gN (by rw [i32_t (by omega)]; omega)]
        exact ⟨_, rfl, Or.inr ⟨C, n, np, s, e, tk, nu, wo, m, st, op, ar, hd, tf, en, ncl, pile, at_, PI, OPN, ⟨Lh, Ls, Lt, hT, ⟨b1, b2, b3, b4⟩, hA⟩, rfl, rfl⟩⟩
      · have n0 : ¬ i32 (tk.1 : Int) = 0 := by rw [i32_litN 0, i32_eqN (by omega) (by omega)]; exact c0
        rw [if_neg n0, if_neg n0, v_must0, Option.bind_some]
        unfold fX6_read_L95
        rw [gb_0, if_pos rfl]
        exact ⟨_, rfl, Or.inl ⟨s, rfl, rfl, rfl, _, _, _, _, _, _, _, _, _, _, _, _, _, _, rfl⟩⟩
end LAWL
section STORE
variable {Fu : Nat} {t : Nat → Int32} {wds hws : Nat → Int64} {th status : Int32} {refusals row ncl op ar pile at_ : Nat → Int32} {y : Nat → Int}
def stG (y : Nat → Int) (lw C : Nat) (ncl op ar : Nat → Int32) (k1 k2 : Nat) : Nat → Int := fun j => if j = lw + 1 then (C : Int) else if lw + 2 ≤ j ∧ j < lw + 2 + k1 then (ncl (j - (lw + 2))).toInt else if lw + 98 ≤ j ∧ j < lw + 98 + 2 * k2 then (if (j - (lw + 98)) % 2 = 0 then (op ((j - (lw + 98)) / 2)).toInt else (ar ((j - (lw + 98)) / 2)).toInt) else y j
theorem stG_1 {lw C k1 k2 : Nat} : stG y lw C ncl op ar k1 k2 (lw + 1) = (C : Int) := if_pos rfl
theorem stG_c {lw C k1 k2 k : Nat} (h : k < k1) : stG y lw C ncl op ar k1 k2 (lw + 2 + k) = (ncl k).toInt := by
  unfold stG
  rw [if_neg (by omega), if_pos (by omega), show lw + 2 + k - (lw + 2) = k by omega]
theorem stG_o {lw C k1 k2 k : Nat} (h : k < k2) (h1 : k1 ≤ 96) : stG y lw C ncl op ar k1 k2 (lw + 98 + 2 * k) = (op k).toInt := by
  unfold stG
  rw [if_neg (by omega), if_neg (by omega), if_pos (by omega), if_pos (by omega), show (lw + 98 + 2 * k - (lw + 98)) / 2 = k by omega]
theorem stG_a {lw C k1 k2 k : Nat} (h : k < k2) (h1 : k1 ≤ 96) : stG y lw C ncl op ar k1 k2 (lw + 99 + 2 * k) = (ar k).toInt := by
  unfold stG
  rw [if_neg (by omega), if_neg (by omega), if_pos (by omega), if_neg (by omega), show (lw + 99 + 2 * k - (lw + 98)) / 2 = k by omega]
theorem stG_n {lw C k1 k2 j : Nat} (h : j ≤ lw ∨ lw + 900 ≤ j) (h1 : k1 ≤ 96) (h2 : k2 ≤ 400) : stG y lw C ncl op ar k1 k2 j = y j := by
  unfold stG
  rw [if_neg (by omega), if_neg (by omega), if_neg (by omega)]
theorem v_st180 {l C m : Nat} (hl : l < 6) (hC : C ≤ 12) (hm : m ≤ 400) (e2 : y 2 = (l : Int)) {F T S : Int32} {W : Int64} {FL NP PI OPN TL : Int32} : ∀ (d f k : Nat) (row : Nat → Int32), k + d = m → d < f → RM (stG y (170 + 900 * l) C ncl op ar (8 * C) k) row →
    ∃ row', RM (va_up (stG y (170 + 900 * l) C ncl op ar (8 * C) m) 2 ((l : Int) + 1)) row' ∧ fX12_law_L180 Fu f th status refusals row t TL F T S W FL 0 (i32 (C : Int)) ncl (i32 (m : Int)) op ar NP pile at_ PI OPN wds hws (i32 ((170 + 900 * l : Nat) : Int)) (i32 (k : Int)) = some (i32 (l : Int), th, 0, refusals, row', TL, F, T, S, W, FL, 0, i32 (C : Int), ncl, i32 (m : Int), op, ar, NP, pile, at_, PI, OPN) := by
  intro d
  induction d with
  | zero =>
    intro f k row hk hf hR
    obtain ⟨f, rfl⟩ : ∃ f', f = f' + 1 := ⟨f - 1, by omega⟩
    obtain rfl : k = m := by omega
    have r2 : row 2 = i32 (l : Int) := by rw [hR 2 (by omega), stG_n (by omega) (by omega) hm, e2]
    refine ⟨_, hR.up 2 ((l : Int) + 1), ?_⟩
    rw [fX12_law_L180, if_pos (by rw [i32_leN (by omega) (by omega)]; omega), gd9 (by decide) (by decide), gd9 (by decide) (by decide), gd9 (by decide) (by decide), i32_nn9 (by decide), va_up_at, r2, show i32 (l : Int) + 1 = i32 ((l : Int) + 1) from i32_add _ 1, show i32 ((l : Int) + 1) - 1 = i32 (l : Int) by rw [i32_litN 1, i32_sub]; exact congrArg i32 (by omega), v_tell (by omega) (by omega)]
    rfl
  | succ d ih =>
    intro f k row hk hf hR
    obtain ⟨f, rfl⟩ : ∃ f', f = f' + 1 := ⟨f - 1, by omega⟩
    rw [fX12_law_L180, if_neg (by rw [i32_leN (by omega) (by omega)]; omega)]
    rw [show i32 ((170 + 900 * l : Nat) : Int) + 98 + 2 * i32 (k : Int) = i32 ((170 + 900 * l + 98 + 2 * k : Nat) : Int) by rw [i32_litN 98, i32_litN 2, i32_add, i32_mul, i32_add]; exact congrArg i32 (by omega), i32_p1, gd_ok (by omega) (by omega) (by omega), gd_ok (by omega) (by omega) (by omega), gd_ok (by omega) (by omega) (by omega), gd_ok (by omega) (by omega) (by omega), i32_t (j := k) (by omega), i32_nat (by omega) (by omega), i32_nat (by omega) (by omega), Int.toNat_natCast, Int.toNat_natCast, i32_p1]
    refine ih f (k + 1) _ (by omega) (by omega) (fun j hj => ?_)
    by_cases c1 : j = 170 + 900 * l + 98 + 2 * k + 1
    · subst c1
      rw [va_up_at, show 170 + 900 * l + 98 + 2 * k + 1 = 170 + 900 * l + 99 + 2 * k by omega, stG_a (by omega) (by omega), i32_self]
    · rw [va_up_ne _ _ c1]
      by_cases c2 : j = 170 + 900 * l + 98 + 2 * k
      · subst c2
        rw [va_up_at, stG_o (by omega) (by omega), i32_self]
      · rw [va_up_ne _ _ c2, hR j hj]
        refine congrArg i32 ?_
        unfold stG
        by_cases d1 : j = 170 + 900 * l + 1
        · rw [if_pos d1, if_pos d1]
        · rw [if_neg d1, if_neg d1]
          by_cases d2 : 170 + 900 * l + 2 ≤ j ∧ j < 170 + 900 * l + 2 + 8 * C
          · rw [if_pos d2, if_pos d2]
          · rw [if_neg d2, if_neg d2]
            by_cases d3 : 170 + 900 * l + 98 ≤ j ∧ j < 170 + 900 * l + 98 + 2 * k
            · rw [if_pos d3, if_pos (show 170 + 900 * l + 98 ≤ j ∧ j < 170 + 900 * l + 98 + 2 * (k + 1) by omega)]
            · rw [if_neg d3, if_neg (by omega)]
theorem v_st145 (hFu : 6000 ≤ Fu) {l C m : Nat} (hl : l < 6) (hC : C ≤ 12) (hm : m ≤ 400) (e2 : y 2 = (l : Int)) {F T S : Int32} {W : Int64} {FL NP PI OPN TL : Int32} : ∀ (d f k : Nat) (row : Nat → Int32), k + d = 8 * C → d < f → RM (stG y (170 + 900 * l) C ncl op ar k 0) row →
    ∃ row', RM (va_up (stG y (170 + 900 * l) C ncl op ar (8 * C) m) 2 ((l : Int) + 1)) row' ∧ fX12_law_L145 Fu f th status refusals row t TL F T S W FL 0 (i32 (C : Int)) ncl (i32 (m : Int)) op ar NP pile at_ PI OPN wds hws (i32 ((170 + 900 * l : Nat) : Int)) (i32 (k : Int)) = some (i32 (l : Int), th, 0, refusals, row', TL, F, T, S, W, FL, 0, i32 (C : Int), ncl, i32 (m : Int), op, ar, NP, pile, at_, PI, OPN) := by
  have e8 : (8 : Int32) * i32 (C : Int) = i32 ((8 * C : Nat) : Int) := by rw [i32_litN 8, i32_mul]; rfl
  intro d
  induction d with
  | zero =>
    intro f k row hk hf hR
    obtain ⟨f, rfl⟩ : ∃ f', f = f' + 1 := ⟨f - 1, by omega⟩
    have hk' : k = 8 * C := by omega
    subst hk'
    rw [fX12_law_L145, e8, if_pos (by rw [i32_leN (by omega) (by omega)]; omega)]
    exact v_st180 hl hC hm e2 m Fu 0 row (by omega) (by omega) hR
  | succ d ih =>
    intro f k row hk hf hR
    obtain ⟨f, rfl⟩ : ∃ f', f = f' + 1 := ⟨f - 1, by omega⟩
    rw [fX12_law_L145, e8, if_neg (by rw [i32_leN (by omega) (by omega)]; omega)]
    rw [show i32 ((170 + 900 * l : Nat) : Int) + 2 + i32 (k : Int) = i32 ((170 + 900 * l + 2 + k : Nat) : Int) by rw [i32_litN 2, i32_add, i32_add]; exact congrArg i32 (by omega), gd_ok (by omega) (by omega) (by omega), gd_ok (by omega) (by omega) (by omega), i32_t (j := k) (by omega), i32_nat (by omega) (by omega), Int.toNat_natCast, i32_p1]
    refine ih f (k + 1) _ (by omega) (by omega) (fun j hj => ?_)
    by_cases c2 : j = 170 + 900 * l + 2 + k
    · subst c2
      rw [va_up_at, stG_c (by omega), i32_self]
    · rw [va_up_ne _ _ c2, hR j hj]
      refine congrArg i32 ?_
      unfold stG
      by_cases d1 : j = 170 + 900 * l + 1
      · rw [if_pos d1, if_pos d1]
      · rw [if_neg d1, if_neg d1]
        by_cases d2 : 170 + 900 * l + 2 ≤ j ∧ j < 170 + 900 * l + 2 + k
        · rw [if_pos d2, if_pos (by omega)]
        · rw [if_neg d2, if_neg (show ¬ (170 + 900 * l + 2 ≤ j ∧ j < 170 + 900 * l + 2 + (k + 1)) by omega)]
theorem v_store (hFu : 6000 ≤ Fu) (hM : RM y row) {l C m : Nat} (hl : l < 6) (hC : C ≤ 12) (hm : m ≤ 400) (e2 : y 2 = (l : Int)) {F T S : Int32} {W : Int64} {FL NP PI OPN TL : Int32} :
    ∃ row', RM (va_up (stG y (170 + 900 * l) C ncl op ar (8 * C) m) 2 ((l : Int) + 1)) row' ∧ fX12_law_L97 Fu th status refusals row t TL F T S W FL 0 (i32 (C : Int)) ncl (i32 (m : Int)) op ar NP pile at_ PI OPN wds hws = some (i32 (l : Int), th, 0, refusals, row', 0, F, T, S, W, FL, 0, i32 (C : Int), ncl, i32 (m : Int), op, ar, NP, pile, at_, PI, OPN) := by
  have r2 : row 2 = i32 (l : Int) := by rw [hM 2 (by omega), e2]
  unfold fX12_law_L97
  rw [if_pos rfl, gd9 (by decide) (by decide), i32_nn9 (by decide), r2, show (170 : Int32) + 900 * i32 (l : Int) = i32 ((170 + 900 * l : Nat) : Int) by rw [i32_litN 170, i32_litN 900, i32_mul, i32_add]; exact congrArg i32 (by omega), i32_p1, gd_ok (by omega) (by omega) (by omega), i32_nat (by omega) (by omega), Int.toNat_natCast]
  refine v_st145 hFu hl hC hm e2 (8 * C) Fu 0 _ (by omega) (by omega) (fun j hj => ?_)
  unfold stG
  by_cases d1 : j = 170 + 900 * l + 1
  · subst d1; rw [va_up_at, if_pos rfl]
  · rw [va_up_ne _ _ d1, if_neg d1, if_neg (by omega), if_neg (by omega)]; exact hM j hj
/-- the law that lies in the row now -/
theorem ACC.LM {l C n m : Nat} {st hd tf en : Nat → Int32} {Lh : Nat → Int} {Ls Lt : Nat → Mn} (h : ACC C n m st op ar hd tf en ncl Lh Ls Lt) (hl : l < 6) (hC : C ≤ 12) (hm : m ≤ 400) : LM (C, Lh, Ls, Lt) (va_up (stG y (170 + 900 * l) C ncl op ar (8 * C) m) 2 ((l : Int) + 1)) (170 + 900 * l) := by
  refine ⟨hC, ?_, fun c hc => ?_⟩
  · rw [va_up_ne _ _ (by omega)]; exact stG_1
  · obtain ⟨⟨g0, g1, g2⟩, -, g3, ⟨p, t, q, v1, v2, k1, k2, k3, k4, k5, k6, k7, k8, k9, k10⟩⟩ := h.2 c hc
    have hc' : c < C := hc
    have k9' := k9.1
    refine ⟨?_, ⟨g1, g2⟩, p, t, q, v1, v2, ?_, ?_, ?_, ?_, by omega, k6, k7, k8, k9.same fun j j1 j2 => ⟨?_, ?_⟩, ?_⟩
    · rw [va_up_ne _ _ (by omega), stG_c (by omega), g3]; exact i32_int (by omega) (by omega)
    · rw [va_up_ne _ _ (by omega), show 170 + 900 * l + 5 + 8 * c = 170 + 900 * l + 2 + (8 * c + 3) by omega, stG_c (by omega), k1]; exact i32_int (by omega) (by omega)
    · rw [va_up_ne _ _ (by omega), show 170 + 900 * l + 6 + 8 * c = 170 + 900 * l + 2 + (8 * c + 4) by omega, stG_c (by omega), k2]; exact i32_int (by omega) (by omega)
    · rw [va_up_ne _ _ (by omega), show 170 + 900 * l + 7 + 8 * c = 170 + 900 * l + 2 + (8 * c + 5) by omega, stG_c (by omega), k3]; exact i32_int (by omega) (by omega)
    · rw [va_up_ne _ _ (by omega), show 170 + 900 * l + 8 + 8 * c = 170 + 900 * l + 2 + (8 * c + 6) by omega, stG_c (by omega), k4]; exact i32_int (by omega) (by omega)
    · show i32 (va_up _ 2 _ _) = _
      rw [va_up_ne _ _ (by omega), stG_o (by omega) (by omega), i32_self]
    · show i32 (va_up _ 2 _ _) = _
      rw [va_up_ne _ _ (by omega), stG_a (by omega) (by omega), i32_self]
    · rcases k10 with k10 | k10
      · left; exact k10
      · right
        refine k10.same fun j j1 j2 => ⟨?_, ?_⟩
        · show i32 (va_up _ 2 _ _) = _
          rw [va_up_ne _ _ (by omega), stG_o (by omega) (by omega), i32_self]
        · show i32 (va_up _ 2 _ _) = _
          rw [va_up_ne _ _ (by omega), stG_a (by omega) (by omega), i32_self]
theorem ACC.LX {C n m : Nat} {st hd tf en : Nat → Int32} {Lh : Nat → Int} {Ls Lt : Nat → Mn} {a1 a2 a3 a4 : Nat → Int32} (h : ACC C n m st op ar hd tf en ncl Lh Ls Lt) (hC : C ≤ 12) (hn : n ≤ 400) (h1 : ∀ k, k < C → a1 k = hd k) (h2 : ∀ k, k < C → a2 k = tf k) (h3 : ∀ k, k < C → a3 k = en k) (h4 : ∀ k, k < n → a4 k = st k) : LX (C, Lh, Ls, Lt) C C C n a1 a2 a3 a4 := by
  refine ⟨hC, rfl, rfl, rfl, hn, fun c hc => ?_⟩
  have hc' : c < C := hc
  obtain ⟨⟨g0, g1, g2⟩, ⟨p, t, q, w1, w2, f1, f2, f3, f4, f5, f6, f7, f8⟩, -⟩ := h.2 c hc
  have f7' := f7.1
  have f8' : t ≤ q := by
    rcases f8 with f8 | f8
    · omega
    · have := f8.1; omega
  refine ⟨by rw [h1 c hc]; exact g0, ⟨g1, g2⟩, p, t, q, w1, w2, ?_, by rw [h2 c hc]; exact f2, by rw [h3 c hc]; exact f3, f4, f5, f6, f7.same fun j j1 j2 => h4 j (by omega), ?_⟩
  · rcases f1 with f1 | f1
    · left; exact f1
    · right; exact ⟨f1.1, by rw [h3 (c - 1) (by omega)]; exact f1.2⟩
  · rcases f8 with f8 | f8
    · left; exact f8
    · right; exact f8.same fun j j1 j2 => h4 j (by omega)
theorem LM.same {L : LwS} {y y' : Nat → Int} {lw : Nat} (h : LM L y lw) (hs : ∀ j, lw ≤ j → j < lw + 900 → y' j = y j) : LM L y' lw := by
  obtain ⟨h1, h2, h3⟩ := h
  refine ⟨h1, by rw [hs _ (by omega) (by omega)]; exact h2, fun c hc => ?_⟩
  obtain ⟨g1, g2, p, t, q, w1, w2, k1, k2, k3, k4, k5, k6, k7, k8, k9, k10⟩ := h3 c hc
  refine ⟨by rw [hs _ (by omega) (by omega)]; exact g1, g2, p, t, q, w1, w2, by rw [hs _ (by omega) (by omega)]; exact k1, by rw [hs _ (by omega) (by omega)]; exact k2, by rw [hs _ (by omega) (by omega)]; exact k3, by rw [hs _ (by omega) (by omega)]; exact k4, k5, k6, k7, k8, k9.same fun j j1 j2 => ⟨?_, ?_⟩, ?_⟩
  · show i32 (y' _) = i32 (y _)
    rw [hs _ (by omega) (by omega)]
  · show i32 (y' _) = i32 (y _)
    rw [hs _ (by omega) (by omega)]
  · rcases k10 with k10 | k10
    · left; exact k10
    · right
      refine k10.same fun j j1 j2 => ⟨?_, ?_⟩
      · show i32 (y' _) = i32 (y _)
        rw [hs _ (by omega) (by omega)]
      · show i32 (y' _) = i32 (y _)
        rw [hs _ (by omega) (by omega)]
end STORE
section LAW
variable {Fu : Nat} {y : Nat → Int} {row : Nat → Int32} {beasts meals seats laws inForce cases : Int32} {tr mh te rs ju vo : Nat → Int32} {last status known th fp : Int32} {a78 refusals a t : Nat → Int32} {wds hws : Nat → Int64}
theorem WF.lw {y' : Nat → Int} (hW : WF y) (h : ∀ k, k ≠ 2 → k < 170 → y' k = y k) (h2 : y 2 ≤ y' 2 ∧ y' 2 ≤ 6) : WF y' := by
  obtain ⟨g1, g2, g3, g4, g5, g6, g7, g8, g9, g10⟩ := hW
  unfold WF
  rw [h 0 (by omega) (by omega), h 1 (by omega) (by omega), h 3 (by omega) (by omega), h 4 (by omega) (by omega), h 11 (by omega) (by omega)]
  refine ⟨g1, g2, by omega, by omega, g5, ?_, g7, ?_, ?_, ?_⟩
  · intro t ht; rw [h (5 + t) (by omega) (by omega)]; exact g6 t ht
  · intro k hk; rw [h (12 + k) (by omega) (by omega)]; exact g8 k hk
  · intro k hk
    rw [h (60 + 2 * k) (by omega) (by omega), h (61 + 2 * k) (by omega) (by omega)]; exact g9 k hk
  · intro k hk
    rw [h (110 + 3 * k) (by omega) (by omega), h (111 + 3 * k) (by omega) (by omega), h (112 + 3 * k) (by omega) (by omega)]; exact g10 k hk
theorem RX.lw {y' : Nat → Int} {laws' : Int32} (hW : WF y) (hX : RX y beasts meals seats laws inForce tr mh te cases rs ju vo) (h : ∀ k, k ≠ 2 → k < 170 → y' k = y k) (h2 : laws' = i32 (y' 2)) : RX y' beasts meals seats laws' inForce tr mh te cases rs ju vo := by
  have w1 := hW.2.1
  have w11 := hW.2.2.2.2.2.2.1
  obtain ⟨h1, h2', h3, h4, h5, h6, h7, h8, h9, h10⟩ := hX
  unfold RX
  rw [h 0 (by omega) (by omega), h 1 (by omega) (by omega), h 3 (by omega) (by omega), h 4 (by omega) (by omega), h 11 (by omega) (by omega)]
  refine ⟨h1, h2', h3, h2, h5, ?_, ?_, ?_, h9, ?_⟩
  · intro k hk; rw [h (12 + k) (by omega) (by omega)]; exact h6 k hk
  · intro t ht; rw [h (5 + t) (by omega) (by omega)]; exact h7 t ht
  · intro b hb
    obtain ⟨m, e1, e2, e3⟩ := h8 b hb
    refine ⟨m, e1, e2, fun hh hhh => (e3 hh hhh).trans ?_⟩
    constructor
    · rintro ⟨j, g1, g2, g3⟩
      exact ⟨j, g1, by rw [h (60 + 2 * j) (by omega) (by omega)]; exact g2, by rw [h (61 + 2 * j) (by omega) (by omega)]; exact g3⟩
    · rintro ⟨j, g1, g2, g3⟩
      rw [h (60 + 2 * j) (by omega) (by omega)] at g2
      rw [h (61 + 2 * j) (by omega) (by omega)] at g3
      exact ⟨j, g1, g2, g3⟩
  · intro k hk
    rw [h (110 + 3 * k) (by omega) (by omega), h (111 + 3 * k) (by omega) (by omega), h (112 + 3 * k) (by omega) (by omega)]; exact h10 k hk
theorem q_law (hFu : 6000 ≤ Fu) {b nn : Nat} {a5 : Nat → Option Nat} (hM : RM y row) (hW : WF y) (hX : RX y beasts meals seats laws inForce tr mh te cases rs ju vo) (hR : RR last a78 status refusals) {len taped : Int32} (hT : Tp len a t taped) (hw : WDS wds) (hh : HWS hws) {fm : Int32} (hF : fp = fm) {cl ln pa sta beh tok num good : Int32} {a33 a34 a35 a36 : Nat → Int32} {fr to so : Int32} {wo : Int64} {bd nc : Int32} {ncl : Nat → Int32} {ncd : Int32} {op ar : Nat → Int32} {nl : Int32} {pile at_ : Nat → Int32} {pi opn : Int32} :
    ∃ Rx Rm y', fX11_law Fu b nn fp last laws a5 len a cl ln pa sta beh tok num good a33 a34 a35 a36 known a78 = some Rx ∧ fX12_law Fu th status refusals row t taped fr to so wo fm bd nc ncl ncd op ar nl pile at_ pi opn wds hws = some Rm ∧ Rx.1 = Rm.1 ∧ Rx.2.2.1 = Rm.2.2.2.2.2.2.2.2.2.2.1 ∧ RR Rx.2.2.2.1 Rx.2.2.2.2.2.2.2.2.2.2.2.2.2.2.2.2.2.2.2.2 Rm.2.2.1 Rm.2.2.2.1 ∧ RM y' Rm.2.2.2.2.1 ∧ WF y' ∧ RX y' beasts meals seats Rx.2.2.2.2.1 inForce tr mh te cases rs ju vo ∧ Tp Rx.2.2.2.2.2.2.1 a t Rm.2.2.2.2.2.1 ∧
      ((Rx.2.1 = 0 ∧ y' = y ∧ Rx.2.2.2.2.2.1 = a5 ∧ Rx.2.2.2.2.2.2.2.2.2.2.2.2.2.2.2.2.2.2.2.1 = known) ∨
       (Rx.2.1 = 1 ∧ Rx.2.2.2.2.2.2.2.2.2.2.2.2.2.2.2.2.2.2.2.1 = 0 ∧ ∃ (l C n' : Nat) (LL : LwS), l < 6 ∧ y 2 = (l : Int) ∧ y' 2 = (l : Int) + 1 ∧ (∀ k, k ≠ 2 → k < 170 + 900 * l ∨ 170 + 900 * l + 900 ≤ k → y' k = y k) ∧ Rx.2.2.2.2.2.1 = va_up a5 l (some (b + nn)) ∧ Rx.2.2.2.2.2.2.2.1 = i32 (C : Int) ∧ Rx.2.2.2.2.2.2.2.2.1 = i32 (n' : Int) ∧ C ≤ 12 ∧ n' ≤ 400 ∧ LM LL y' (170 + 900 * l) ∧ LX LL C C C n' (e_cof 12 (i32 (C : Int)) Rx.2.2.2.2.2.2.2.2.2.2.2.2.2.2.2.1) (e_cof 12 (i32 (C : Int)) Rx.2.2.2.2.2.2.2.2.2.2.2.2.2.2.2.2.1) (e_cof 12 (i32 (C : Int)) Rx.2.2.2.2.2.2.2.2.2.2.2.2.2.2.2.2.2.1) (e_cof 400 (i32 (n' : Int)) Rx.2.2.2.2.2.2.2.2.2.2.2.2.2.2.2.2.2.2.1))) := by
  subst hF
  obtain ⟨⟨L, hL, rfl, rfl⟩, hat⟩ := hT
  have h2 := hW.2.2.1
  obtain ⟨l, el⟩ := Int.eq_ofNat_of_zero_le h2.1
  have e4 := hX.2.2.2.1
  rw [el] at e4
  subst e4
  have m2 : row 2 = i32 (l : Int) := by rw [hM 2 (by omega), el]
  have o1 : ¬ (1 : Int32) = 0 := by decide
  have T0 : Tp 0 a t 0 := ⟨⟨0, by omega, rfl, rfl⟩, hat⟩
  unfold fX11_law fX12_law
  rw [gd9 (by decide) (by decide), i32_nn9 (by decide), m2]
  by_cases c6 : l < 6
  case neg =>
    rw [if_neg (show ¬ i32 (l : Int) < 6 by rw [i32_litN 6, i32_ltN (by omega) (by omega)]; exact c6), if_pos (show i32 (l : Int) = 6 by rw [i32_litN 6, i32_eqN (by omega) (by omega)]; omega), show (-5 : Int32) = i32 (-5) from rfl, x_refuse (by omega) (by omega), v_tell_neg (by omega) (by omega)]
    exact ⟨_, _, y, rfl, rfl, rfl, rfl, hR.ref _ _, hM, hW, hX, T0, Or.inl ⟨rfl, rfl, rfl, rfl⟩⟩
  rw [if_pos (show i32 (l : Int) < 6 by rw [i32_litN 6, i32_ltN (by omega) (by omega)]; exact c6), if_neg (show ¬ i32 (l : Int) = 6 by rw [i32_litN 6, i32_eqN (by omega) (by omega)]; omega)]
  obtain ⟨s, e, tk, nu, wo1, q0, hT1, q1, q2⟩ := tok_go hFu hL hat (p := 0) (by omega) sta tok num fr so wo
  have q1' : fX6_advance Fu (i32 (L : Int)) a sta 0 tok num = some (i32 (s : Int), i32 (e : Int), i32 (tk.1 : Int), nu) := q1
  have q2' : fX12_next Fu t (i32 (L : Int)) fr 0 so wo = some (i32 (s : Int), i32 (e : Int), i32 (tk.1 : Int), wo1) := q2
  have lt := hT1.lt
  unfold fX6_read fX12_begin
  rw [q1', q2', Option.bind_some, Option.bind_some, Option.bind_some]
  obtain ⟨rx, rm, g1, g2, g3⟩ := c_clause (c := 0) (n := 0) (np := 0) (m := 0) (fl := -1) (st := a36) (op := op) (ar := ar) (hd := a33) (tf := a34) (en := a35) (ncl := ncl) (pile := pile) (at_ := at_) (PI := pi) (OPN := opn) (Lh := fun _ => 0) (Ls := fun _ _ => none) (Lt := fun _ _ => none) hFu hL hat hw hh hT1 (by omega) (by omega) (by omega) (by omega) ⟨Or.inl ⟨rfl, rfl⟩, fun i hi => by omega⟩
  have g1' : fX6_readClause Fu (i32 (L : Int)) a 0 0 0 (i32 (s : Int)) (i32 (e : Int)) (i32 (tk.1 : Int)) nu a33 a34 a35 a36 = some rx := g1
  have g2' : fX12_readClause Fu t (i32 (L : Int)) (i32 (s : Int)) (i32 (e : Int)) (i32 (tk.1 : Int)) wo1 (-1) 0 0 ncl 0 op ar 0 pile at_ pi opn wds hws = some rm := g2
  -- a fault, at s'
  have bad : ∀ (rr : RL13) (s' : Nat) (F T S : Int32) (W : Int64) (C' : Int32) (ncl' : Nat → Int32) (M' : Int32) (op' ar' : Nat → Int32) (NP' : Int32) (pile' at' : Nat → Int32) (PI' OPN' : Int32), rr.1 = 0 → rr.2.2.2.2.1 = i32 (s' : Int) → rr.2.2.2.2.2.2.2.2.1 = 0 → ∃ Rx Rm y', ((fun r1 : RL13 => (if (r1.1 : Int32) = 0 then ((fX6_place r1.2.2.2.2.1 r1.2.2.2.2.2.2.2.2.1).bind fun r2 => ((fX11_refuse last a78 (-6 : Int32)).bind fun r3 => (some (r3.1, (0 : Int32), r2, r3.2.1, i32 (l : Int), a5, (0 : Int32), r1.2.1, r1.2.2.1, r1.2.2.2.1, r1.2.2.2.2.1, r1.2.2.2.2.2.1, r1.2.2.2.2.2.2.1, r1.2.2.2.2.2.2.2.1, r1.2.2.2.2.2.2.2.2.1, r1.2.2.2.2.2.2.2.2.2.1, r1.2.2.2.2.2.2.2.2.2.2.1, r1.2.2.2.2.2.2.2.2.2.2.2.1, r1.2.2.2.2.2.2.2.2.2.2.2.2, known, r3.2.2)))) else ((fX6_place r1.2.2.2.2.1 r1.2.2.2.2.2.2.2.2.1).bind fun r4 => (gd (i32 (l : Int)) 6 ((fX11_accept last known ((i32 (l : Int) + 1) - 1)).bind fun r6 => (some (r6.1, (1 : Int32), r4, r6.2.1, (i32 (l : Int) + 1), (va_up a5 (i32 (l : Int) : Int32).toNatClampNeg (some (b + nn))), (0 : Int32), r1.2.1, r1.2.2.1, r1.2.2.2.1, r1.2.2.2.2.1, r1.2.2.2.2.2.1, r1.2.2.2.2.2.2.1, r1.2.2.2.2.2.2.2.1, r1.2.2.2.2.2.2.2.2.1, r1.2.2.2.2.2.2.2.2.2.1, r1.2.2.2.2.2.2.2.2.2.2.1, r1.2.2.2.2.2.2.2.2.2.2.2.1, r1.2.2.2.2.2.2.2.2.2.2.2.2, r6.2.2, a78))))))) rr) = some Rx ∧ fX12_law_L97 Fu 0 status refusals row t (i32 (L : Int)) F T S W (i32 (s' : Int)) 1 C' ncl' M' op' ar' NP' pile' at' PI' OPN' wds hws = some Rm ∧ Rx.1 = Rm.1 ∧ Rx.2.2.1 = Rm.2.2.2.2.2.2.2.2.2.2.1 ∧ RR Rx.2.2.2.1 Rx.2.2.2.2.2.2.2.2.2.2.2.2.2.2.2.2.2.2.2.2 Rm.2.2.1 Rm.2.2.2.1 ∧ RM y' Rm.2.2.2.2.1 ∧ WF y' ∧ RX y' beasts meals seats Rx.2.2.2.2.1 inForce tr mh te cases rs ju vo ∧ Tp Rx.2.2.2.2.2.2.1 a t Rm.2.2.2.2.2.1 ∧ (Rx.2.1 = 0 ∧ y' = y ∧ Rx.2.2.2.2.2.1 = a5 ∧ Rx.2.2.2.2.2.2.2.2.2.2.2.2.2.2.2.2.2.2.2.1 = known) := by
    intro rr s' F T S W C' ncl' M' op' ar' NP' pile' at' PI' OPN' h1 h2 h3
    unfold fX12_law_L97 fX6_place
    rw [if_neg o1]
    simp only [h1, h2, h3, if_true]
    rw [Option.bind_some, show (-6 : Int32) = i32 (-6) from rfl, x_refuse (by omega) (by omega), v_tell_neg (by omega) (by omega)]
    exact ⟨_, _, y, rfl, rfl, rfl, rfl, hR.ref _ _, hM, hW, hX, T0, rfl, rfl, rfl, rfl⟩
  have wrap : ∀ {A : Option (Int32 × Int32 × Int32 × Int32 × Int32 × (Nat → Option Nat) × Int32 × Int32 × Int32 × Int32 × Int32 × Int32 × Int32 × Int32 × Int32 × (Nat → Int32) × (Nat → Int32) × (Nat → Int32) × (Nat → Int32) × Int32 × (Nat → Int32))} {B : Option (Int32 × Int32 × Int32 × (Nat → Int32) × (Nat → Int32) × Int32 × Int32 × Int32 × Int32 × Int64 × Int32 × Int32 × Int32 × (Nat → Int32) × Int32 × (Nat → Int32) × (Nat → Int32) × Int32 × (Nat → Int32) × (Nat → Int32) × Int32 × Int32)} {Q : (Int32 × Int32 × Int32 × Int32 × Int32 × (Nat → Option Nat) × Int32 × Int32 × Int32 × Int32 × Int32 × Int32 × Int32 × Int32 × Int32 × (Nat → Int32) × (Nat → Int32) × (Nat → Int32) × (Nat → Int32) × Int32 × (Nat → Int32)) → (Nat → Int) → Prop}, (∃ Rx Rm y', A = some Rx ∧ B = some Rm ∧ Rx.1 = Rm.1 ∧ Rx.2.2.1 = Rm.2.2.2.2.2.2.2.2.2.2.1 ∧ RR Rx.2.2.2.1 Rx.2.2.2.2.2.2.2.2.2.2.2.2.2.2.2.2.2.2.2.2 Rm.2.2.1 Rm.2.2.2.1 ∧ RM y' Rm.2.2.2.2.1 ∧ WF y' ∧ RX y' beasts meals seats Rx.2.2.2.2.1 inForce tr mh te cases rs ju vo ∧ Tp Rx.2.2.2.2.2.2.1 a t Rm.2.2.2.2.2.1 ∧ (Rx.2.1 = 0 ∧ y' = y ∧ Rx.2.2.2.2.2.1 = a5 ∧ Rx.2.2.2.2.2.2.2.2.2.2.2.2.2.2.2.2.2.2.2.1 = known)) → ∃ Rx Rm y', A = some Rx ∧ B = some Rm ∧ Rx.1 = Rm.1 ∧ Rx.2.2.1 = Rm.2.2.2.2.2.2.2.2.2.2.1 ∧ RR Rx.2.2.2.1 Rx.2.2.2.2.2.2.2.2.2.2.2.2.2.2.2.2.2.2.2.2 Rm.2.2.1 Rm.2.2.2.1 ∧ RM y' Rm.2.2.2.2.1 ∧ WF y' ∧ RX y' beasts meals seats Rx.2.2.2.2.1 inForce tr mh te cases rs ju vo ∧ Tp Rx.2.2.2.2.2.2.1 a t Rm.2.2.2.2.2.1 ∧ ((Rx.2.1 = 0 ∧ y' = y ∧ Rx.2.2.2.2.2.1 = a5 ∧ Rx.2.2.2.2.2.2.2.2.2.2.2.2.2.2.2.2.2.2.2.1 = known) ∨ Q Rx y') := by
    rintro A B Q ⟨Rx, Rm, y', p1, p2, p3, p4, p5, p6, p7, p8, p9, p10⟩
    exact ⟨Rx, Rm, y', p1, p2, p3, p4, p5, p6, p7, p8, p9, Or.inl p10⟩
  have g1s : ∀ {β : Type} (k : RK12 → Option β), (fX6_readClause Fu (i32 (L : Int)) a 0 0 0 (i32 (s : Int), i32 (e : Int), i32 (tk.1 : Int), nu).1 (i32 (s : Int), i32 (e : Int), i32 (tk.1 : Int), nu).2.1 (i32 (s : Int), i32 (e : Int), i32 (tk.1 : Int), nu).2.2.1 (i32 (s : Int), i32 (e : Int), i32 (tk.1 : Int), nu).2.2.2 a33 a34 a35 a36).bind k = k rx := by
    intro β k
    show Option.bind (fX6_readClause Fu (i32 (L : Int)) a 0 0 0 (i32 (s : Int)) (i32 (e : Int)) (i32 (tk.1 : Int)) nu a33 a34 a35 a36) k = k rx
    rw [g1', Option.bind_some]
  have g2s : ∀ {β : Type} (k : RK16 → Option β), Option.bind (fX12_readClause Fu t (i32 (L : Int)) (i32 (s : Int)) (i32 (e : Int)) (i32 (tk.1 : Int)) wo1 (-1) 0 0 ncl 0 op ar 0 pile at_ pi opn wds hws) k = k rm := by
    intro β k
    rw [g2', Option.bind_some]
  rw [g1s]
  have g2t := fun {β : Type} (k : RK16 → Option β) => g2s (β := β) k
  simp only [g2t]
  rcases g3 with ⟨s', p1, p2, p3, p4, p5⟩ | ⟨n1, np1, s1, e1, tk1, nu1, wo2, hd1, tf1, en1, st1, m1, op1, ar1, ncl1, pile1, at1, pi1, opn1, Lh1, Ls1, Lt1, er, em, hT2, ⟨y1, y2, y3, y4, y5⟩, hA1⟩
  · obtain ⟨G, eG⟩ : ∃ G, Fu = G + 1 := ⟨Fu - 1, by omega⟩
    have l34 : ∀ g, g = G + 1 → fX6_read_L34 Fu g (i32 (L : Int)) a rx.2.1 rx.2.2.1 rx.2.2.2.1 rx.2.2.2.2.1 rx.2.2.2.2.2.1 rx.2.2.2.2.2.2.1 rx.2.2.2.2.2.2.2.1 0 rx.2.2.2.2.2.2.2.2.1 rx.2.2.2.2.2.2.2.2.2.1 rx.2.2.2.2.2.2.2.2.2.2.1 rx.2.2.2.2.2.2.2.2.2.2.2 0 = some (0, rx.2.1, rx.2.2.1, rx.2.2.2.1, rx.2.2.2.2.1, rx.2.2.2.2.2.1, rx.2.2.2.2.2.2.1, rx.2.2.2.2.2.2.2.1, 0, rx.2.2.2.2.2.2.2.2.1, rx.2.2.2.2.2.2.2.2.2.1, rx.2.2.2.2.2.2.2.2.2.2.1, rx.2.2.2.2.2.2.2.2.2.2.2) := by
      intro g hg
      subst hg
      rw [fX6_read_L34, if_neg (show ¬ (400 : Int32) ≤ 0 by decide), if_pos rfl]
      unfold fX6_read_L75 fX6_read_L94 fX6_read_L95
      rw [if_pos rfl, gb_0, if_pos rfl]
    have l51 : ∀ g, g = G + 1 → fX12_law_L51 Fu g 0 status refusals row t (i32 (L : Int)) rm.1 rm.2.1 rm.2.2.1 rm.2.2.2.1 (i32 (s' : Int)) 1 rm.2.2.2.2.2.2.1 rm.2.2.2.2.2.2.2.1 rm.2.2.2.2.2.2.2.2.1 rm.2.2.2.2.2.2.2.2.2.1 rm.2.2.2.2.2.2.2.2.2.2.1 rm.2.2.2.2.2.2.2.2.2.2.2.1 rm.2.2.2.2.2.2.2.2.2.2.2.2.1 rm.2.2.2.2.2.2.2.2.2.2.2.2.2.1 rm.2.2.2.2.2.2.2.2.2.2.2.2.2.2.1 rm.2.2.2.2.2.2.2.2.2.2.2.2.2.2.2 wds hws = fX12_law_L97 Fu 0 status refusals row t (i32 (L : Int)) rm.1 rm.2.1 rm.2.2.1 rm.2.2.2.1 (i32 (s' : Int)) 1 rm.2.2.2.2.2.2.1 rm.2.2.2.2.2.2.2.1 rm.2.2.2.2.2.2.2.2.1 rm.2.2.2.2.2.2.2.2.2.1 rm.2.2.2.2.2.2.2.2.2.2.1 rm.2.2.2.2.2.2.2.2.2.2.2.1 rm.2.2.2.2.2.2.2.2.2.2.2.2.1 rm.2.2.2.2.2.2.2.2.2.2.2.2.2.1 rm.2.2.2.2.2.2.2.2.2.2.2.2.2.2.1 rm.2.2.2.2.2.2.2.2.2.2.2.2.2.2.2 wds hws := by
      intro g hg
      subst hg
      rw [fX12_law_L51, if_neg o1]
      unfold fX12_law_L78
      rw [if_neg o1]
    rw [p1, p4, p5, gb_0, l34 Fu eG, l51 Fu eG, Option.bind_some]
    exact wrap (bad _ s' _ _ _ _ _ _ _ _ _ _ _ _ _ _ rfl p2 rfl)
  · subst er em
    obtain ⟨rr, r1, r2⟩ := q_rd (th := 0) (status := status) (refusals := refusals) (row := row) hFu hL hat hw hh (L + 1) Fu Fu 0 1 n1 np1 s1 e1 tk1 nu1 wo2 m1 st1 op1 ar1 hd1 tf1 en1 ncl1 pile1 at1 pi1 opn1 ⟨Lh1, Ls1, Lt1, hT2, ⟨y2, y3, y4, by omega⟩, hA1⟩ (by omega) (by omega) (by omega) (by omega)
    have r1' : gb 1 (fX6_read_L34 Fu Fu (i32 (L : Int)) a (i32 ((0 + 1 : Nat) : Int)) (i32 (n1 : Int)) (i32 (np1 : Int)) (i32 (s1 : Int)) (i32 (e1 : Int)) (i32 (tk1.1 : Int)) nu1 1 hd1 tf1 en1 st1 0) = some rr := by rw [gb_1]; exact r1
    have r1s : ∀ {β : Type} (k : RL13 → Option β), Option.bind (gb 1 (fX6_read_L34 Fu Fu (i32 (L : Int)) a (i32 ((0 + 1 : Nat) : Int)) (i32 (n1 : Int)) (i32 (np1 : Int)) (i32 (s1 : Int)) (i32 (e1 : Int)) (i32 (tk1.1 : Int)) nu1 1 hd1 tf1 en1 st1 0)) k = k rr := by
      intro β k
      rw [r1', Option.bind_some]
    rw [r1s]
    rcases r2 with ⟨s', p1, p2, p3, F, T, S, W, C', ncl', M', op', ar', NP', pile', at', PI', OPN', p4⟩ | ⟨C', n', np', s', e', tk', nu', wo', m', st', op', ar', hd', tf', en', ncl', pile', at', PI', OPN', ⟨Lh', Ls', Lt', hT3, ⟨b1, b2, b3, b4⟩, hA3⟩, er, p4⟩
    · have p4s : fX12_law_L51 Fu Fu 0 status refusals row t (i32 (L : Int)) (i32 (s1 : Int)) (i32 (e1 : Int)) (i32 (tk1.1 : Int)) wo2 (-1) 0 (i32 ((0 + 1 : Nat) : Int)) ncl1 (i32 (m1 : Int)) op1 ar1 (i32 (np1 : Int)) pile1 at1 pi1 opn1 wds hws = _ := p4
      rw [p4s]
      exact wrap (bad _ s' _ _ _ _ _ _ _ _ _ _ _ _ _ _ p1 p2 p3)
    · have p4s : fX12_law_L51 Fu Fu 0 status refusals row t (i32 (L : Int)) (i32 (s1 : Int)) (i32 (e1 : Int)) (i32 (tk1.1 : Int)) wo2 (-1) 0 (i32 ((0 + 1 : Nat) : Int)) ncl1 (i32 (m1 : Int)) op1 ar1 (i32 (np1 : Int)) pile1 at1 pi1 opn1 wds hws = _ := p4
      have lt3 := hT3.lt
      subst er
      obtain ⟨row', v1, v2⟩ := v_store (t := t) (wds := wds) (hws := hws) (th := 0) (status := status) (refusals := refusals) (ncl := ncl') (op := op') (ar := ar') (pile := pile') (at_ := at') (F := i32 (s' : Int)) (T := i32 (e' : Int)) (S := i32 (tk'.1 : Int)) (W := wo') (FL := -1) (NP := i32 (np' : Int)) (PI := PI') (OPN := OPN') (TL := i32 (L : Int)) hFu hM c6 b4 (show m' ≤ 400 by omega) el
      rw [p4s, v2]
      show ∃ Rx Rm y', (if (1 : Int32) = 0 then _ else (fX6_place (i32 (s' : Int)) 1).bind _) = some Rx ∧ _
      rw [if_neg o1]
      unfold fX6_place
      rw [if_neg o1, Option.bind_some, gd_ok (by omega) (by omega) (by omega), x_accept, Option.bind_some, i32_t (by omega), show i32 (l : Int) + 1 = i32 ((l : Int) + 1) from i32_add _ 1, show i32 ((l : Int) + 1) - 1 = i32 (l : Int) by rw [i32_litN 1, i32_sub]; exact congrArg i32 (by omega)]
      have k0 : ∀ k, k ≠ 2 → k < 170 + 900 * l ∨ 170 + 900 * l + 900 ≤ k → va_up (stG y (170 + 900 * l) C' ncl' op' ar' (8 * C') m') 2 ((l : Int) + 1) k = y k := fun k h1 h2 => by
        rw [va_up_ne _ _ h1, stG_n (by omega) (by omega) (by omega)]
      have cof : ∀ {M x k : Nat} {f : Nat → Int32}, x ≤ 400 → k < x → e_cof M (i32 (x : Int)) f k = f k := by
        intro M x k f hx hk
        unfold e_cof
        by_cases h : i32 (x : Int) = Int32.ofNat M
        · rw [if_pos h]
        · rw [if_neg h, i32_t (by omega)]; exact cpy0 k hk
      refine ⟨_, _, _, rfl, rfl, rfl, rfl, hR.acc, v1, hW.lw (fun k h1 h2 => k0 k h1 (by omega)) ?_, RX.lw hW hX (fun k h1 h2 => k0 k h1 (by omega)) ?_, T0, Or.inr ⟨rfl, rfl, l, C', n', (C', Lh', Ls', Lt'), c6, el, va_up_at _ _ _, k0, rfl, rfl, rfl, b4, by omega, hA3.LM c6 b4 (by omega), hA3.LX b4 (by omega) (fun k hk => cof (by omega) hk) (fun k hk => cof (by omega) hk) (fun k hk => cof (by omega) hk) (fun k hk => cof (by omega) hk)⟩⟩
      · rw [va_up_at]; omega
      · rw [va_up_at]
end LAW
