/-! ===== code put together ===== -/
section CODE
variable {n n1 n9 w1 w9 m m1 m9 : Nat} {st st1 st9 op ar op1 ar1 op9 ar9 : Nat → Int32} {ρ1 ρ9 : PLt} {μ1 μ9 : Mn}
theorem CODE.mono {l l2 : Nat} (h : CODE l n n1 w1 m m1 st st1 op ar op1 ar1 ρ1 μ1) (hl : l2 ≤ l) (h4 : l2 ≤ 4 → l ≤ 4) : CODE l2 n n1 w1 m m1 st st1 op ar op1 ar1 ρ1 μ1 := by
  obtain ⟨a1, a2, a3, a4, a5, a6, a7⟩ := h
  exact ⟨a1, a2, a3, fun x hx => Nat.le_trans hl (a4 x hx), a5, a6, fun h => a7 (h4 h)⟩
theorem CODE.bin {l l2 k o : Nat} (h1 : CODE l n n1 w1 m m1 st st1 op ar op1 ar1 ρ1 μ1) (h9 : CODE l2 n1 n9 w9 (flu ρ1 (m1, op1, ar1)).1 m9 st1 st9 (flu ρ1 (m1, op1, ar1)).2.1 (flu ρ1 (m1, op1, ar1)).2.2 op9 ar9 ρ9 μ9) (hk : 2 ≤ k) (hk2 : k ≤ 8) (ho : o = k + 18) (l' : Nat) (hl : l' ≤ bnd o) (hl2 : l' ≤ l2) (h4 : l' ≤ 4 → 6 ≤ k) :
    CODE l' n (n9 + 1) (w1 + w9) m m9 st (va_up st9 n9 (i32 ((1024 * k : Nat) : Int))) op ar op9 ar9 (ρ9 ++ [(o, 0)]) (mop k μ1 μ9) := by
  obtain ⟨a1, a2, a3, a4, a5, a6, a7⟩ := h1
  obtain ⟨b1, b2, b3, b4, b5, b6, b7⟩ := h9
  have e1 := a1.1
  have e2 := b1.1
  have e3 := a5.1
  have e4 := b5.1
  have hf : flu (ρ9 ++ [(o, 0)]) (m9, op9, ar9) = ((flu ρ9 (m9, op9, ar9)).1 + 1, va_up (flu ρ9 (m9, op9, ar9)).2.1 (flu ρ9 (m9, op9, ar9)).1 (i32 (o : Int)), va_up (flu ρ9 (m9, op9, ar9)).2.2 (flu ρ9 (m9, op9, ar9)).1 0) := by
    rw [flu_app]
    show flu1 (o, 0) (flu ρ9 (m9, op9, ar9)) = _
    unfold flu1
    rw [if_neg (show ¬ (o = 28 ∨ o = 29) by omega)]
  refine ⟨XC.op (a1.same fun j j1 j2 => ?_) (b1.same fun j j1 j2 => va_up_ne _ _ (by omega)) hk hk2 (va_up_at _ _ _), fun j hj => ?_, b3.app (OKP.cons ⟨by show 20 ≤ o; omega, by show o < 32; omega, by show 0 < 400; omega⟩ (fun x hx => by cases hx)), fun x hx => ?_, ?_, ?_, fun h => mop_01 (h4 h)⟩
  · rw [va_up_ne _ _ (by omega)]; exact b2 j j2
  · rw [va_up_ne _ _ (by omega), b2 j (by omega)]; exact a2 j hj
  · rcases List.mem_append.mp hx with hx | hx
    · exact Nat.le_trans hl2 (b4 x hx)
    · rcases List.mem_cons.mp hx with hx | hx
      · rw [hx]; exact hl
      · cases hx
  · rw [hf]
    refine MC.op (a5.same fun j j1 j2 => ?_) (b5.same fun j j1 j2 => ⟨va_up_ne _ _ (by omega), va_up_ne _ _ (by omega)⟩) hk hk2 (by rw [← ho]; exact va_up_at _ _ _)
    show va_up (flu ρ9 (m9, op9, ar9)).2.1 _ _ j = _ ∧ va_up (flu ρ9 (m9, op9, ar9)).2.2 _ _ j = _
    rw [va_up_ne _ _ (by omega), va_up_ne _ _ (by omega)]; exact b6 j j2
  · rw [hf]
    intro j hj
    show va_up (flu ρ9 (m9, op9, ar9)).2.1 _ _ j = _ ∧ va_up (flu ρ9 (m9, op9, ar9)).2.2 _ _ j = _
    rw [va_up_ne _ _ (by omega), va_up_ne _ _ (by omega), (b6 j (by omega)).1, (b6 j (by omega)).2]; exact a6 j hj
theorem CODE.jmp {l l2 k o : Nat} {X Y : Int32} (h1 : CODE l n n1 w1 m m1 st st1 op ar op1 ar1 ρ1 μ1) (h9 : CODE l2 (n1 + 1) n9 w9 ((flu ρ1 (m1, op1, ar1)).1 + 1) m9 (va_up st1 n1 X) st9 (va_up (flu ρ1 (m1, op1, ar1)).2.1 (flu ρ1 (m1, op1, ar1)).1 (i32 (o : Int))) (va_up (flu ρ1 (m1, op1, ar1)).2.2 (flu ρ1 (m1, op1, ar1)).1 Y) op9 ar9 ρ9 μ9) (hl4 : l ≤ 4) (hl24 : l2 ≤ 4) (hko : k = 10 ∧ o = 29 ∨ k = 11 ∧ o = 28) (l' : Nat) (hl : l' ≤ bnd o) (hl2 : l' ≤ l2) (hn : n9 ≤ 400) (hm : (flu ρ1 (m1, op1, ar1)).1 < 400) :
    CODE l' n n9 (w1 + w9) m m9 st (va_up st9 n1 (i32 ((1024 * k + n9 : Nat) : Int))) op ar op9 ar9 (ρ9 ++ [(o, (flu ρ1 (m1, op1, ar1)).1)]) (if k = 10 then mor μ1 μ9 else mand μ1 μ9) := by
  obtain ⟨a1, a2, a3, a4, a5, a6, a7⟩ := h1
  obtain ⟨b1, b2, b3, b4, b5, b6, b7⟩ := h9
  have e1 := a1.1
  have e2 := b1.1
  have e3 := a5.1
  have e4 := b5.1
  generalize hc1 : flu ρ1 (m1, op1, ar1) = c1 at *
  have hf : flu (ρ9 ++ [(o, c1.1)]) (m9, op9, ar9) = ((flu ρ9 (m9, op9, ar9)).1, (flu ρ9 (m9, op9, ar9)).2.1, va_up (flu ρ9 (m9, op9, ar9)).2.2 c1.1 (i32 ((flu ρ9 (m9, op9, ar9)).1 : Int))) := by
    rw [flu_app]
    show flu1 (o, c1.1) (flu ρ9 (m9, op9, ar9)) = _
    unfold flu1
    rw [if_pos (show (o = 28 ∨ o = 29) by omega)]
  generalize flu ρ9 (m9, op9, ar9) = c9 at *
  have hmn : (if k = 10 then mor μ1 μ9 else mand μ1 μ9) = if o = 29 then mor μ1 μ9 else mand μ1 μ9 := by
    rcases hko with ⟨rfl, rfl⟩ | ⟨rfl, rfl⟩ <;> rfl
  refine ⟨XC.jmp (a1.same fun j j1 j2 => ?_) (a7 hl4) (b1.same fun j j1 j2 => va_up_ne _ _ (by omega)) (b7 hl24) (by omega) hn (va_up_at _ _ _), fun j hj => ?_, b3.app (OKP.cons ⟨by show 20 ≤ o; omega, by show o < 32; omega, hm⟩ (fun x hx => by cases hx)), fun x hx => ?_, ?_, ?_, fun h => ?_⟩
  · rw [va_up_ne _ _ (by omega), b2 j (by omega), va_up_ne _ _ (by omega)]
  · rw [va_up_ne _ _ (by omega), b2 j (by omega), va_up_ne _ _ (by omega)]; exact a2 j hj
  · rcases List.mem_append.mp hx with hx | hx
    · exact Nat.le_trans hl2 (b4 x hx)
    · rcases List.mem_cons.mp hx with hx | hx
      · rw [hx]; exact hl
      · cases hx
  · rw [hf, hmn]
    refine MC.jmp (a5.same fun j j1 j2 => ?_) (a7 hl4) (b5.same fun j j1 j2 => ⟨rfl, va_up_ne _ _ (by omega)⟩) (b7 hl24) (by omega) ?_ (va_up_at _ _ _)
    · show c9.2.1 j = _ ∧ va_up c9.2.2 _ _ j = _
      rw [va_up_ne _ _ (by omega), (b6 j (by omega)).1, (b6 j (by omega)).2, va_up_ne _ _ (by omega), va_up_ne _ _ (by omega)]; exact ⟨rfl, rfl⟩
    · show c9.2.1 c1.1 = _
      rw [(b6 c1.1 (by omega)).1, va_up_at]
  · rw [hf]
    intro j hj
    show c9.2.1 j = _ ∧ va_up c9.2.2 _ _ j = _
    rw [va_up_ne _ _ (by omega), (b6 j (by omega)).1, (b6 j (by omega)).2, va_up_ne _ _ (by omega), va_up_ne _ _ (by omega)]; exact a6 j hj
  · by_cases c : k = 10
    · rw [if_pos c]; exact is01.or (b7 hl24)
    · rw [if_neg c]; exact is01.and (b7 hl24)
end CODE
section ARITH
variable {Fu L s e : Nat} {a t : Nat → Int32} {tk : Nat × Nat} {nu fl test : Int32} {wo : Int64} {wds : Nat → Int64} {m np dep n : Nat} {st op ar pile at_ : Nat → Int32} {π ρ : PLt} {kS : KFn}
theorem v_arith (hFu : 6000 ≤ Fu) (hm : TKm tk wo) {c o : Nat} (hco : c = 43 ∧ o = 20 ∨ c = 45 ∧ o = 21 ∨ c = 42 ∧ o = 22 ∨ c = 47 ∧ o = 23) (htk : tk = (3, c)) {s2 e2 k2 : Nat} {wo2 : Int64} (hN : fX12_next Fu t (i32 (L : Int)) (i32 (s : Int)) (i32 (e : Int)) (i32 (tk.1 : Int)) wo = some (i32 (s2 : Int), i32 (e2 : Int), i32 (k2 : Int), wo2)) (hp : hdB π (bnd o)) (h1 : OKP ρ) (h2 : OKP π) (h3 : PLr pile at_ (ρ ++ π)) (h4 : ∀ x, x ∈ ρ → bnd o ≤ bnd x.1) (h5 : m + (ρ ++ π).length ≤ 400) (h6 : π.length < 400) {Q : Int32} :
    fX12_behindSum Fu t (i32 (L : Int)) (i32 (s : Int)) (i32 (e : Int)) (i32 (tk.1 : Int)) wo fl 0 (i32 (m : Int)) op ar pile at_ (i32 (((ρ ++ π).length : Nat) : Int)) Q test = some (1, i32 (s2 : Int), i32 (e2 : Int), i32 (k2 : Int), wo2, fl, 0, i32 ((flu ρ (m, op, ar)).1 : Int), (flu ρ (m, op, ar)).2.1, (flu ρ (m, op, ar)).2.2, va_up pile π.length (i32 (o : Int)), va_up at_ π.length (i32 ((0 : Nat) : Int)), i32 ((π.length + 1 : Nat) : Int), Q) := by
  have g1 : fX12_isSign (i32 (tk.1 : Int)) wo 43 = some (bI (tk = (3, 43))) := hm.1 43 (by omega)
  have g2 : fX12_isSign (i32 (tk.1 : Int)) wo 45 = some (bI (tk = (3, 45))) := hm.1 45 (by omega)
  have g3 : fX12_isSign (i32 (tk.1 : Int)) wo 42 = some (bI (tk = (3, 42))) := hm.1 42 (by omega)
  have g4 : fX12_isSign (i32 (tk.1 : Int)) wo 47 = some (bI (tk = (3, 47))) := hm.1 47 (by omega)
  have z1 : ¬ (1 : Int32) = 0 := by decide
  have nq : ∀ d : Nat, d ≠ c → tk ≠ (3, d) := fun d hd h => hd (by rw [h] at htk; exact congrArg Prod.snd htk)
  have to57 : fX12_behindSum Fu t (i32 (L : Int)) (i32 (s : Int)) (i32 (e : Int)) (i32 (tk.1 : Int)) wo fl 0 (i32 (m : Int)) op ar pile at_ (i32 (((ρ ++ π).length : Nat) : Int)) Q test = fX12_behindSum_L57 Fu t (i32 (L : Int)) (i32 (s : Int)) (i32 (e : Int)) (i32 (tk.1 : Int)) wo fl 0 (i32 (m : Int)) op ar pile at_ (i32 (((ρ ++ π).length : Nat) : Int)) Q test (i32 (o : Int)) := by
    unfold fX12_behindSum
    rcases hco with ⟨rfl, rfl⟩ | ⟨rfl, rfl⟩ | ⟨rfl, rfl⟩ | ⟨rfl, rfl⟩
    · rw [g1, bI_yes htk, Option.bind_some, if_neg z1]; rfl
    · rw [g1, bI_no (nq 43 (by decide)), Option.bind_some, if_pos rfl, g2, bI_yes htk, Option.bind_some, if_neg z1]; rfl
    · rw [g1, bI_no (nq 43 (by decide)), Option.bind_some, if_pos rfl, g2, bI_no (nq 45 (by decide)), Option.bind_some, if_pos rfl, g3, bI_yes htk, Option.bind_some, if_neg z1]; rfl
    · rw [g1, bI_no (nq 43 (by decide)), Option.bind_some, if_pos rfl, g2, bI_no (nq 45 (by decide)), Option.bind_some, if_pos rfl, g3, bI_no (nq 42 (by decide)), Option.bind_some, if_pos rfl, g4, bI_yes htk, Option.bind_some, if_neg z1]; rfl
  have b6 := bnd_le o
  rw [to57]
  unfold fX12_behindSum_L57
  have no : ¬ i32 (o : Int) = -1 := by rw [show (-1 : Int32) = i32 (-1) from rfl, i32_eq (by omega) (by omega) (by omega) (by omega)]; omega
  rw [if_neg no, v_binds ⟨o, by omega⟩ (by show 20 ≤ o; omega), Option.bind_some, v_stl hFu b6 hp rfl h1 h2 h3 h4 h5, Option.bind_some]
  show (fX12_push pile at_ (i32 ((π.length : Nat) : Int)) (i32 (o : Int)) 0).bind _ = _
  rw [v_push h6, Option.bind_some, hN]
  rfl
theorem hdB_cons {x : Nat × Nat} {l : Nat} (h : bnd x.1 < l) : hdB (x :: π) l := h
theorem app_snoc {x : Nat × Nat} : ρ ++ x :: π = (ρ ++ [x]) ++ π := by rw [List.append_assoc]; rfl
theorem i32_1024 (k : Nat) : i32 (k : Int) * 1024 + 0 = i32 ((1024 * k : Nat) : Int) := by rw [i32_litN 1024, i32_litN 0, i32_mul, i32_add]; exact congrArg i32 (by omega)
end ARITH
