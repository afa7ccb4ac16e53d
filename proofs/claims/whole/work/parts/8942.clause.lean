/-! ===== clauses ===== -/
def ACC (c n m : Nat) (st op ar hd tf en ncl : Nat → Int32) (Lh : Nat → Int) (Ls Lt : Nat → Mn) : Prop :=
  (c = 0 ∧ n = 0 ∨ 0 < c ∧ en (c - 1) = i32 (n : Int)) ∧
  ∀ i, i < c → (hd i = i32 (Lh i) ∧ 0 ≤ Lh i ∧ Lh i ≤ 2) ∧
    (∃ p t q w1 w2 : Nat, (i = 0 ∧ p = 0 ∨ 0 < i ∧ en (i - 1) = i32 (p : Int)) ∧ tf i = i32 (t : Int) ∧ en i = i32 (q : Int) ∧ q ≤ n ∧ w1 ≤ 50 ∧ w2 ≤ 50 ∧ XC st p t w1 (Ls i) ∧ (t = q ∧ (∀ e, Lt i e = some 1) ∨ XC st t q w2 (Lt i))) ∧ ncl (8 * i) = i32 (Lh i) ∧
    (∃ p t q w1 w2 : Nat, ncl (8 * i + 3) = i32 (p : Int) ∧ ncl (8 * i + 4) = i32 (t : Int) ∧ ncl (8 * i + 5) = i32 (t : Int) ∧ ncl (8 * i + 6) = i32 (q : Int) ∧ q ≤ m ∧ t ≤ q ∧ w1 ≤ 50 ∧ w2 ≤ 50 ∧ MC op ar p t w1 (Ls i) ∧ (t = q ∧ (∀ e, Lt i e = some 1) ∨ MC op ar t q w2 (Lt i)))
def HWS (hws : Nat → Int64) : Prop := ∀ k, k < 3 → hws k = i64 (hsh k)
abbrev RK16 := Int32 × Int32 × Int32 × Int64 × Int32 × Int32 × Int32 × (Nat → Int32) × Int32 × (Nat → Int32) × (Nat → Int32) × Int32 × (Nat → Int32) × (Nat → Int32) × Int32 × Int32
abbrev RK12 := Int32 × Int32 × Int32 × Int32 × Int32 × Int32 × Int32 × Int32 × (Nat → Int32) × (Nat → Int32) × (Nat → Int32) × (Nat → Int32)
section CLAUSE
variable {Fu L s e c : Nat} {a t : Nat → Int32} {tk : Nat × Nat} {nu fl : Int32} {wo : Int64} {wds hws : Nat → Int64} {m np n : Nat} {st op ar pile at_ hd tf en ncl : Nat → Int32} {PI OPN : Int32} {Lh : Nat → Int} {Ls Lt : Nat → Mn}
theorem ACC.add (h : ACC c n m st op ar hd tf en ncl Lh Ls Lt) {t1 q w1 w2 t2 q2 hh : Nat} {st' op' ar' ncl' : Nat → Int32} {σ τ : Mn} (h1 : XC st' n t1 w1 σ) (h2 : t1 = q ∧ (∀ e, τ e = some 1) ∨ XC st' t1 q w2 τ) (h3 : ∀ j, j < n → st' j = st j) (h4 : MC op' ar' m t2 w1 σ) (h5 : t2 = q2 ∧ (∀ e, τ e = some 1) ∨ MC op' ar' t2 q2 w2 τ) (h6 : ∀ j, j < m → op' j = op j ∧ ar' j = ar j) (h7 : w1 ≤ 50 ∧ w2 ≤ 50) (h8 : hh < 3) (h9 : ∀ j, j < 8 * c → ncl' j = ncl j) (h10 : ncl' (8 * c) = i32 (hh : Int) ∧ ncl' (8 * c + 3) = i32 (m : Int) ∧ ncl' (8 * c + 4) = i32 (t2 : Int) ∧ ncl' (8 * c + 5) = i32 (t2 : Int) ∧ ncl' (8 * c + 6) = i32 (q2 : Int)) :
    ACC (c + 1) q q2 st' op' ar' (va_up hd c (i32 (hh : Int))) (va_up tf c (i32 (t1 : Int))) (va_up en c (i32 (q : Int))) ncl' (va_up Lh c (hh : Int)) (va_up Ls c σ) (va_up Lt c τ) := by
  have e1 := h1.1
  have e2 : t1 ≤ q := by
    rcases h2 with h2 | h2
    · omega
    · have := h2.1; omega
  have e3 := h4.1
  have e4 : t2 ≤ q2 := by
    rcases h5 with h5 | h5
    · omega
    · have := h5.1; omega
  refine ⟨Or.inr ⟨by omega, by rw [show c + 1 - 1 = c by omega, va_up_at]⟩, fun i hi => ?_⟩
  by_cases ci : i = c
  · subst ci
    rw [va_up_at, va_up_at, va_up_at, va_up_at, va_up_at, va_up_at]
    refine ⟨⟨rfl, by omega, by omega⟩, ⟨n, t1, q, w1, w2, ?_, rfl, rfl, by omega, h7.1, h7.2, h1, h2⟩, h10.1, ⟨m, t2, q2, w1, w2, h10.2.1, h10.2.2.1, h10.2.2.2.1, h10.2.2.2.2, by omega, e4, h7.1, h7.2, h4, h5⟩⟩
    rcases h.1 with g | g
    · left; exact g
    · right; exact ⟨g.1, by rw [va_up_ne _ _ (by omega)]; exact g.2⟩
  · rw [va_up_ne _ _ ci, va_up_ne _ _ ci, va_up_ne _ _ ci, va_up_ne _ _ ci, va_up_ne _ _ ci, va_up_ne _ _ ci]
    obtain ⟨g1, ⟨p, t0, q0, u1, u2, f1, f2, f3, f4, f5, f6, f7, f8⟩, g3, ⟨p', t', q', v1, v2, k1, k2, k3, k4, k5, k6, k7, k8, k9, k10⟩⟩ := h.2 i (by omega)
    have f7' := f7.1
    have k9' := k9.1
    have f8' : t0 ≤ q0 := by
      rcases f8 with f8 | f8
      · omega
      · have := f8.1; omega
    refine ⟨g1, ⟨p, t0, q0, u1, u2, ?_, f2, f3, by omega, f5, f6, f7.same fun j j1 j2 => h3 j (by omega), ?_⟩, ?_, ⟨p', t', q', v1, v2, ?_, ?_, ?_, ?_, by omega, k6, k7, k8, k9.same fun j j1 j2 => h6 j (by omega), ?_⟩⟩
    · rcases f1 with f1 | f1
      · left; exact f1
      · right; exact ⟨f1.1, by rw [va_up_ne _ _ (by omega)]; exact f1.2⟩
    · rcases f8 with f8 | f8
      · left; exact f8
      · right; exact f8.same fun j j1 j2 => h3 j (by omega)
    · rw [h9 _ (by omega)]; exact g3
    · rw [h9 _ (by omega)]; exact k1
    · rw [h9 _ (by omega)]; exact k2
    · rw [h9 _ (by omega)]; exact k3
    · rw [h9 _ (by omega)]; exact k4
    · rcases k10 with k10 | k10
      · left; exact k10
      · right; exact k10.same fun j j1 j2 => h6 j (by omega)
theorem x_head (hT : TKc Fu L a s e tk nu) : fX6_headRead Fu a (i32 (s : Int)) (i32 (e : Int)) (i32 (tk.1 : Int)) = some (i32 (if tk.1 = 1 ∧ tk.2 < 3 then (tk.2 : Int) else -1)) := by
  unfold fX6_headRead
  rw [hT.2.1 0 (by omega), hT.2.1 1 (by omega), hT.2.1 2 (by omega)]
  simp only [Option.bind_some, bI_z]
  by_cases c : tk.1 = 1 ∧ tk.2 < 3
  · rw [if_pos c]
    obtain ⟨k, v⟩ := tk
    obtain ⟨c1, c2⟩ := c
    have c1 : k = 1 := c1
    have c2 : v < 3 := c2
    subst c1
    have : v = 0 ∨ v = 1 ∨ v = 2 := by omega
    rcases this with rfl | rfl | rfl <;> rfl
  · rw [if_neg c]
    have n : ∀ i, i < 3 → ¬ tk = (1, i) := by
      intro i h2 h
      exact c (by rw [h]; exact ⟨rfl, h2⟩)
    rw [if_pos (n 0 (by omega)), if_pos (n 1 (by omega)), if_pos (n 2 (by omega))]
    rfl
theorem v_headL (hh : HWS hws) (hT : TKm tk wo) {F T C M NP : Int32} : ∀ (d f j : Nat), j + d = 3 → d < f → fX12_readClause_L4 Fu f t (i32 (L : Int)) F T (i32 (tk.1 : Int)) wo fl 0 C ncl M op ar NP pile at_ PI OPN wds hws (i32 (if tk.1 = 1 ∧ tk.2 < j then (tk.2 : Int) else -1)) (i32 (j : Int)) = (if i32 (if tk.1 = 1 ∧ tk.2 < 3 then (tk.2 : Int) else -1) = -1 then fX12_readClause_L54 Fu t (i32 (L : Int)) F T (i32 (tk.1 : Int)) wo fl 0 C ncl M op ar NP pile at_ PI OPN wds hws (i32 (if tk.1 = 1 ∧ tk.2 < 3 then (tk.2 : Int) else -1)) 0 else if (12 : Int32) ≤ C then fX12_readClause_L54 Fu t (i32 (L : Int)) F T (i32 (tk.1 : Int)) wo fl 0 C ncl M op ar NP pile at_ PI OPN wds hws (i32 (if tk.1 = 1 ∧ tk.2 < 3 then (tk.2 : Int) else -1)) 0 else fX12_readClause_L54 Fu t (i32 (L : Int)) F T (i32 (tk.1 : Int)) wo fl 0 C ncl M op ar NP pile at_ PI OPN wds hws (i32 (if tk.1 = 1 ∧ tk.2 < 3 then (tk.2 : Int) else -1)) 1) := by
  intro d
  induction d with
  | zero =>
    intro f j hj hf
    obtain ⟨f, rfl⟩ : ∃ f', f = f' + 1 := ⟨f - 1, by omega⟩
    obtain rfl : j = 3 := by omega
    rw [fX12_readClause_L4, if_pos (by decide)]
    rfl
  | succ d ih =>
    intro f j hj hf
    obtain ⟨f, rfl⟩ : ∃ f', f = f' + 1 := ⟨f - 1, by omega⟩
    rw [fX12_readClause_L4, if_neg (show ¬ (3 : Int32) ≤ i32 (j : Int) by rw [i32_litN 3, i32_leN (by omega) (by omega)]; omega), gd_ok (by omega) (by omega) (by omega), i32_t (by omega), hh j (by omega), hT.2.1 j (by omega), Option.bind_some, i32_p1, ← ih f (j + 1) (by omega) (by omega)]
    by_cases cc : tk = (1, j)
    · rw [bI_yes cc, if_neg (show ¬ (1 : Int32) = 0 by decide)]
      have : (if tk.1 = 1 ∧ tk.2 < j + 1 then (tk.2 : Int) else -1) = (j : Int) := by
        rw [cc, if_pos ⟨rfl, by show j < j + 1; omega⟩]
      rw [this]
    · rw [bI_no cc, if_pos rfl]
      have : (tk.1 = 1 ∧ tk.2 < j + 1) = (tk.1 = 1 ∧ tk.2 < j) := by
        apply propext
        constructor
        · rintro ⟨q1, q3⟩
          refine ⟨q1, ?_⟩
          rcases Nat.lt_or_ge tk.2 j with h | h
          · exact h
          · exact absurd (Prod.ext q1 (by show tk.2 = j; omega)) cc
        · rintro ⟨q1, q3⟩; exact ⟨q1, by omega⟩
      simp only [this]
theorem v_zero (hc : c < 12) {F T S : Int32} {W : Int64} {FL BD C M NP X : Int32} : ∀ (d f k : Nat) (ncl : Nat → Int32), k + d = 8 → d < f → ∃ (ncl' : Nat → Int32) (g : Nat), (∀ j, j < 8 * c → ncl' j = ncl j) ∧ fX12_readClause_L75 Fu f t (i32 (L : Int)) F T S W FL BD C ncl M op ar NP pile at_ PI OPN wds hws X (i32 ((8 * c : Nat) : Int)) (i32 (k : Int)) = fX12_readClause_L75 Fu (g + 1) t (i32 (L : Int)) F T S W FL BD C ncl' M op ar NP pile at_ PI OPN wds hws X (i32 ((8 * c : Nat) : Int)) 8 := by
  intro d
  induction d with
  | zero =>
    intro f k ncl hk hf
    obtain ⟨f, rfl⟩ : ∃ f', f = f' + 1 := ⟨f - 1, by omega⟩
    obtain rfl : k = 8 := by omega
    exact ⟨ncl, f, fun _ _ => rfl, rfl⟩
  | succ d ih =>
    intro f k ncl hk hf
    obtain ⟨f, rfl⟩ : ∃ f', f = f' + 1 := ⟨f - 1, by omega⟩
    obtain ⟨ncl', g, h1, h2⟩ := ih f (k + 1) (va_up ncl (8 * c + k) 0) (by omega) (by omega)
    refine ⟨ncl', g, fun j hj => ?_, ?_⟩
    · rw [h1 j hj, va_up_ne _ _ (by omega)]
    · rw [← h2, fX12_readClause_L75, if_neg (show ¬ (8 : Int32) ≤ i32 (k : Int) by rw [i32_litN 8, i32_leN (by omega) (by omega)]; omega), show i32 ((8 * c : Nat) : Int) + i32 (k : Int) = i32 ((8 * c + k : Nat) : Int) by rw [i32_add]; rfl, gd_ok (by omega) (by omega) (by omega), i32_t (by omega), i32_p1]
def CLO (Fu L : Nat) (a : Nat → Int32) (fl : Int32) (c s : Nat) (rx : RK12) (rm : RK16) : Prop :=
  (∃ s' : Nat, rx.1 = 0 ∧ rx.2.2.2.2.1 = i32 (s' : Int) ∧ s' ≤ L ∧ rm.2.2.2.2.1 = i32 (s' : Int) ∧ rm.2.2.2.2.2.1 = 1) ∨
  (∃ (n' np' s' e' : Nat) (tk' : Nat × Nat) (nu' : Int32) (wo' : Int64) (hd' tf' en' st' : Nat → Int32) (m' : Nat) (op' ar' ncl' pile' at' : Nat → Int32) (pi' opn' : Int32) (Lh' : Nat → Int) (Ls' Lt' : Nat → Mn), rx = (1, i32 ((c + 1 : Nat) : Int), i32 (n' : Int), i32 (np' : Int), i32 (s' : Int), i32 (e' : Int), i32 (tk'.1 : Int), nu', hd', tf', en', st') ∧ rm = (i32 (s' : Int), i32 (e' : Int), i32 (tk'.1 : Int), wo', fl, 0, i32 ((c + 1 : Nat) : Int), ncl', i32 (m' : Int), op', ar', i32 (np' : Int), pile', at', pi', opn') ∧ TKR Fu L a s' e' tk' nu' wo' ∧ (s < s' ∧ n' ≤ s' ∧ m' ≤ s' ∧ np' ≤ 50 ∧ c + 1 ≤ 12) ∧ ACC (c + 1) n' m' st' op' ar' hd' tf' en' ncl' Lh' Ls' Lt')
theorem c_clause (hFu : 6000 ≤ Fu) (hL : L ≤ 400) (hat : ∀ k, k < 400 → a k = t k) (hw : WDS wds) (hh : HWS hws) (hT : TKR Fu L a s e tk nu wo) (b1 : n ≤ s) (b2 : np ≤ 50) (b3 : m ≤ s) (hc : c ≤ 12) (hA : ACC c n m st op ar hd tf en ncl Lh Ls Lt) :
    ∃ rx rm, fX6_readClause Fu (i32 (L : Int)) a (i32 (c : Int)) (i32 (n : Int)) (i32 (np : Int)) (i32 (s : Int)) (i32 (e : Int)) (i32 (tk.1 : Int)) nu hd tf en st = some rx ∧ fX12_readClause Fu t (i32 (L : Int)) (i32 (s : Int)) (i32 (e : Int)) (i32 (tk.1 : Int)) wo fl 0 (i32 (c : Int)) ncl (i32 (m : Int)) op ar (i32 (np : Int)) pile at_ PI OPN wds hws = some rm ∧ CLO Fu L a fl c s rx rm := by
  have lt := hT.lt
  have o1 : ¬ (1 : Int32) = 0 := by decide
  unfold fX6_readClause fX12_readClause
  have hv := v_headL (Fu := Fu) (L := L) (t := t) (fl := fl) (ncl := ncl) (op := op) (ar := ar) (pile := pile) (at_ := at_) (PI := PI) (OPN := OPN) (wds := wds) (F := i32 (s : Int)) (T := i32 (e : Int)) (C := i32 (c : Int)) (M := i32 (m : Int)) (NP := i32 (np : Int)) hh hT.2.2.2.2 3 Fu 0 (by omega) (by omega)
  rw [if_neg (show ¬ (tk.1 = 1 ∧ tk.2 < 0) by omega)] at hv
  have hv' : fX12_readClause_L4 Fu Fu t (i32 (L : Int)) (i32 (s : Int)) (i32 (e : Int)) (i32 (tk.1 : Int)) wo fl 0 (i32 (c : Int)) ncl (i32 (m : Int)) op ar (i32 (np : Int)) pile at_ PI OPN wds hws (-1) 0 = _ := hv
  rw [x_head hT.2.2.2.1, Option.bind_some, hv']
  have bad : fX12_readClause_L54 Fu t (i32 (L : Int)) (i32 (s : Int)) (i32 (e : Int)) (i32 (tk.1 : Int)) wo fl 0 (i32 (c : Int)) ncl (i32 (m : Int)) op ar (i32 (np : Int)) pile at_ PI OPN wds hws (i32 (if tk.1 = 1 ∧ tk.2 < 3 then (tk.2 : Int) else -1)) 0 = some (i32 (s : Int), i32 (e : Int), i32 (tk.1 : Int), wo, i32 (s : Int), 1, i32 (c : Int), ncl, i32 (m : Int), op, ar, i32 (np : Int), pile, at_, PI, OPN) := by
    unfold fX12_readClause_L54
    rw [v_must0, Option.bind_some]
    show (if (1 : Int32) = 0 then _ else _) = _
    rw [if_neg o1]
  by_cases ch : tk.1 = 1 ∧ tk.2 < 3
  case neg =>
    rw [bad, if_neg ch, if_pos (show i32 (-1) = -1 from rfl), if_pos (show i32 (-1) = -1 from rfl)]
    exact ⟨_, _, rfl, rfl, Or.inl ⟨s, rfl, rfl, by omega, rfl, rfl⟩⟩
  have hh2 : ¬ i32 (tk.2 : Int) = -1 := by rw [show (-1 : Int32) = i32 (-1) from rfl, i32_eq (by omega) (by omega) (by omega) (by omega)]; omega
  by_cases cc : c < 12
  case neg =>
    rw [bad, if_pos ch, if_neg hh2, if_neg hh2, if_neg (show ¬ i32 (c : Int) < 12 by rw [i32_litN 12, i32_ltN (by omega) (by omega)]; exact cc), if_pos (show (12 : Int32) ≤ i32 (c : Int) by rw [i32_litN 12, i32_leN (by omega) (by omega)]; omega)]
    exact ⟨_, _, rfl, rfl, Or.inl ⟨s, rfl, rfl, by omega, rfl, rfl⟩⟩
  rw [if_pos ch, if_neg hh2, if_neg hh2, if_pos (show i32 (c : Int) < 12 by rw [i32_litN 12, i32_ltN (by omega) (by omega)]; exact cc), if_neg (show ¬ (12 : Int32) ≤ i32 (c : Int) by rw [i32_litN 12, i32_leN (by omega) (by omega)]; omega)]
  have se : s < e := hT.no (by omega)
  obtain ⟨s2, e2, tk2, nu2, wo2, q0, hT2, q1, q2⟩ := tok_go hFu hL hat (p := e) (by omega) (i32 (s : Int)) (i32 (tk.1 : Int)) nu (i32 (s : Int)) (i32 (tk.1 : Int)) wo
  have lt2 := hT2.lt
  rw [q1, Option.bind_some]
  unfold fX12_readClause_L54
  rw [v_must1 q2 o1, Option.bind_some]
  show ∃ rx rm, _ ∧ (if (0 : Int32) = 0 then fX12_readClause_L75 Fu Fu t (i32 (L : Int)) (i32 (s2 : Int)) (i32 (e2 : Int)) (i32 (tk2.1 : Int)) wo2 fl 0 (i32 (c : Int)) ncl (i32 (m : Int)) op ar (i32 (np : Int)) pile at_ PI OPN wds hws (i32 (tk.2 : Int)) (8 * i32 (c : Int)) 0 else _) = some rm ∧ _
  rw [if_pos rfl, show (8 : Int32) * i32 (c : Int) = i32 ((8 * c : Nat) : Int) by rw [i32_litN 8, i32_mul]; rfl]
  obtain ⟨ncl1, g, hz1, hz2⟩ := v_zero (Fu := Fu) (L := L) (t := t) (op := op) (ar := ar) (pile := pile) (at_ := at_) (PI := PI) (OPN := OPN) (wds := wds) (hws := hws) (F := i32 (s2 : Int)) (T := i32 (e2 : Int)) (S := i32 (tk2.1 : Int)) (W := wo2) (FL := fl) (BD := 0) (C := i32 (c : Int)) (M := i32 (m : Int)) (NP := i32 (np : Int)) (X := i32 (tk.2 : Int)) cc 8 Fu 0 ncl (by omega) (by omega)
  have hz2' : fX12_readClause_L75 Fu Fu t (i32 (L : Int)) (i32 (s2 : Int)) (i32 (e2 : Int)) (i32 (tk2.1 : Int)) wo2 fl 0 (i32 (c : Int)) ncl (i32 (m : Int)) op ar (i32 (np : Int)) pile at_ PI OPN wds hws (i32 (tk.2 : Int)) (i32 ((8 * c : Nat) : Int)) 0 = _ := hz2
  have p3 : i32 ((8 * c : Nat) : Int) + 3 = i32 ((8 * c + 3 : Nat) : Int) := i32_p3 _
  have p4 : i32 ((8 * c : Nat) : Int) + 4 = i32 ((8 * c + 4 : Nat) : Int) := by rw [i32_litN 4, i32_add]; rfl
  have p5 : i32 ((8 * c : Nat) : Int) + 5 = i32 ((8 * c + 5 : Nat) : Int) := by rw [i32_litN 5, i32_add]; rfl
  have p6 : i32 ((8 * c : Nat) : Int) + 6 = i32 ((8 * c + 6 : Nat) : Int) := by rw [i32_litN 6, i32_add]; rfl
  have gz : ∀ (k : Nat), k < 8 → ∀ {α : Type} (x : Option α), gd (i32 ((8 * c + k : Nat) : Int)) 96 x = x := fun k hk _ x => gd_ok (by omega) (by omega) (by omega)
  have tz : ∀ (k : Nat), k < 8 → (i32 ((8 * c + k : Nat) : Int)).toNatClampNeg = 8 * c + k := fun k hk => i32_t (by omega)
  rw [hz2', fX12_readClause_L75, if_pos (show (8 : Int32) ≤ 8 by decide)]
  unfold fX12_readClause_L180
  have gz0 : ∀ {α : Type} (x : Option α), gd (i32 ((8 * c : Nat) : Int)) 96 x = x := fun x => gd_ok (by omega) (by omega) (by omega)
  have tz0 : (i32 ((8 * c : Nat) : Int)).toNatClampNeg = 8 * c := i32_t (by omega)
  simp only [p3, p4, p5, p6, gz0, gz 3 (by omega), gz 4 (by omega), gz 5 (by omega), gz 6 (by omega), tz0, tz 3 (by omega), tz 4 (by omega), tz 5 (by omega), tz 6 (by omega)]
  obtain ⟨r, hr, hE⟩ := ex_sum (fl := fl) (wds := wds) (st := st) (op := op) (ar := ar) (pile := pile) (at_ := at_) (PI := PI) (OPN := OPN) (m := m) (np := np) (n := n) hFu hL hat hw hT2 (by omega) b2 (by omega)
  rw [hr, Option.bind_some]
  rcases hE with ⟨n', s', R, h0, h1, h2, h3, h4, h5, h6, h7⟩ | ⟨n1, w1, s1, e1, tk1, nu1, wo1, st1, m1, op1, ar1, pile1, at1, μ1, er, hT1, ⟨z1, z2, z3, z4⟩, hX1, hX2, hM1, hM2, -, h5⟩
  · rw [h5, Option.bind_some, if_pos h0, h7, if_neg o1]
    exact ⟨_, _, rfl, rfl, Or.inl ⟨s', rfl, h3, h4, h6, rfl⟩⟩
  · subst er
    rw [h5, Option.bind_some, if_neg o1]
    have lt1 := hT1.lt
    have x13 : fX6_isWord Fu 13 a (i32 (s1 : Int)) (i32 (e1 : Int)) (i32 (tk1.1 : Int)) = some (bI (tk1 = (1, 13))) := hT1.2.2.2.1.2.1 13 (by omega)
    have m13 : fX12_isWord (i32 (tk1.1 : Int)) wo1 294 = some (bI (tk1 = (1, 13))) := by rw [w13]; exact hT1.2.2.2.2.2.1 13 (by omega)
    show ∃ rx rm, (Option.bind (fX6_isWord Fu 13 a (i32 (s1 : Int)) (i32 (e1 : Int)) (i32 (tk1.1 : Int))) _ = some rx) ∧ (if (0 : Int32) = 0 then Option.bind (fX12_isWord (i32 (tk1.1 : Int)) wo1 294) _ else _) = some rm ∧ _
    rw [x13, Option.bind_some, if_pos rfl, m13, Option.bind_some]
    have g12 : ∀ {α : Type} (x : Option α), gd (i32 (c : Int)) 12 x = x := fun x => gd_ok (by omega) (by omega) (by omega)
    by_cases c13 : tk1 = (1, 13)
    case neg =>
      rw [bI_no c13, if_pos rfl, if_pos rfl]
      unfold fX6_readClause_L63
      rw [g12, g12, g12, i32_t (by omega), i32_p1]
      refine ⟨_, _, rfl, rfl, Or.inr ⟨n1, np + w1, s1, e1, tk1, nu1, wo1, _, _, _, st1, m1, op1, ar1, _, pile1, at1, 0, 0, _, _, _, rfl, rfl, hT1, ⟨by omega, by omega, by omega, z2, by omega⟩, hA.add (w2 := 1) (τ := fun _ => some 1) (hh := tk.2) hX1 (Or.inl ⟨rfl, fun _ => rfl⟩) hX2 hM1 (Or.inl ⟨rfl, fun _ => rfl⟩) hM2 ⟨by omega, by omega⟩ ch.2 (fun j hj => ?_) ⟨?_, ?_, ?_, ?_, ?_⟩⟩⟩
      · rw [va_up_ne _ _ (by omega), va_up_ne _ _ (by omega), va_up_ne _ _ (by omega), va_up_ne _ _ (by omega), va_up_ne _ _ (by omega)]; exact hz1 j hj
      · rw [va_up_ne _ _ (by omega), va_up_ne _ _ (by omega), va_up_ne _ _ (by omega), va_up_ne _ _ (by omega), va_up_at]
      · rw [va_up_ne _ _ (by omega), va_up_ne _ _ (by omega), va_up_ne _ _ (by omega), va_up_at]
      · rw [va_up_ne _ _ (by omega), va_up_ne _ _ (by omega), va_up_at]
      · rw [va_up_ne _ _ (by omega), va_up_at]
      · rw [va_up_at]
    · have se1 : s1 < e1 := hT1.no (by rw [c13]; show (1 : Nat) ≠ 0; omega)
      obtain ⟨s3, e3, tk3, nu3, wo3, p0, hT3, r1, r2⟩ := tok_go hFu hL hat (p := e1) (by omega) (i32 (s1 : Int)) (i32 (tk1.1 : Int)) nu1 (i32 (s1 : Int)) (i32 (tk1.1 : Int)) wo1
      have lt3 := hT3.lt
      rw [bI_yes c13, if_neg o1, if_neg o1]
      show ∃ rx rm, (Option.bind (fX6_advance Fu (i32 (L : Int)) a (i32 (s1 : Int)) (i32 (e1 : Int)) (i32 (tk1.1 : Int)) nu1) _ = some rx) ∧ (Option.bind (fX12_next Fu t (i32 (L : Int)) (i32 (s1 : Int)) (i32 (e1 : Int)) (i32 (tk1.1 : Int)) wo1) _ = some rm) ∧ _
      rw [r1, r2, Option.bind_some, Option.bind_some]
      obtain ⟨rr, hrr, hE⟩ := ex_test (fl := fl) (wds := wds) (st := st1) (op := op1) (ar := ar1) (pile := pile1) (at_ := at1) (PI := 0) (OPN := 0) (m := m1) (np := np + w1) (n := n1) hFu hL hat hw hT3 (by omega) z2 (by omega)
      show ∃ rx rm, (Option.bind (fX6_readTestK Fu (i32 (L : Int)) a (i32 (n1 : Int)) (i32 ((np + w1 : Nat) : Int)) (i32 (s3 : Int)) (i32 (e3 : Int)) (i32 (tk3.1 : Int)) nu3 st1 0) _ = some rx) ∧ (Option.bind (fX12_readExpression Fu t (i32 (L : Int)) (i32 (s3 : Int)) (i32 (e3 : Int)) (i32 (tk3.1 : Int)) wo3 fl 0 (i32 (m1 : Int)) op1 ar1 (i32 ((np + w1 : Nat) : Int)) pile1 at1 0 0 wds 1) _ = some rm) ∧ _
      rw [hrr, Option.bind_some]
      rcases hE with ⟨n', s', R, h0, h1, h2, h3, h4, h5, h6, h7⟩ | ⟨n4, w4, s4, e4, tk4, nu4, wo4, st4, m4, op4, ar4, pile4, at4, μ4, er, hT4, ⟨y1, y2, y3, y4⟩, hX4, hX5, hM4, hM5, -, h5⟩
      · rw [h5, Option.bind_some, if_pos h0]
        exact ⟨_, _, rfl, rfl, Or.inl ⟨s', rfl, h3, h4, h6, h7⟩⟩
      · subst er
        have lt4 := hT4.lt
        rw [h5, Option.bind_some, if_neg o1]
        unfold fX6_readClause_L63
        rw [g12, g12, g12, i32_t (by omega), i32_p1]
        have e1' := hX1.1
        have e2' := hM1.1
        refine ⟨_, _, rfl, rfl, Or.inr ⟨n4, np + w1 + w4, s4, e4, tk4, nu4, wo4, _, _, _, st4, m4, op4, ar4, _, pile4, at4, 0, 0, _, _, _, rfl, rfl, hT4, ⟨by omega, by omega, by omega, y2, by omega⟩, hA.add (w2 := w4) (τ := μ4) (hh := tk.2) (hX1.same fun j j1 j2 => hX5 j (by omega)) (Or.inr hX4) (fun j hj => (hX5 j (by omega)).trans (hX2 j hj)) (hM1.same fun j j1 j2 => hM5 j (by omega)) (Or.inr hM4) (fun j hj => ⟨(hM5 j (by omega)).1.trans (hM2 j hj).1, (hM5 j (by omega)).2.trans (hM2 j hj).2⟩) ⟨by omega, by omega⟩ ch.2 (fun j hj => ?_) ⟨?_, ?_, ?_, ?_, ?_⟩⟩⟩
        · rw [va_up_ne _ _ (by omega), va_up_ne _ _ (by omega), va_up_ne _ _ (by omega), va_up_ne _ _ (by omega), va_up_ne _ _ (by omega)]; exact hz1 j hj
        · rw [va_up_ne _ _ (by omega), va_up_ne _ _ (by omega), va_up_ne _ _ (by omega), va_up_ne _ _ (by omega), va_up_at]
        · rw [va_up_ne _ _ (by omega), va_up_ne _ _ (by omega), va_up_ne _ _ (by omega), va_up_at]
        · rw [va_up_ne _ _ (by omega), va_up_ne _ _ (by omega), va_up_at]
        · rw [va_up_ne _ _ (by omega), va_up_at]
        · rw [va_up_at]
end CLAUSE
