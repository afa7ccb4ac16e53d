section BRIBE
variable {y : Nat → Int} {row : Nat → Int32} {beasts meals seats laws inForce cases : Int32} {tr mh te rs ju vo : Nat → Int32} {Fu : Nat} {LO : Option LwS}
/-! paying a bribe -/
/-- what a verdict does to the refusals -/
def RF (v : Int) (a78 : Nat → Int32) (last' : Int32) (a78' : Nat → Int32) : Prop := (v < 0 ∧ last' = i32 v ∧ a78' = va_up a78 (-v).toNat (a78 (-v).toNat + 1)) ∨ (0 ≤ v ∧ last' = 0 ∧ a78' = a78)
theorem RF.rr {v : Int} {last l' st s' : Int32} {a a' r r' : Nat → Int32} (h : RR last a st r) (h1 : RF v a l' a') (h2 : RF v r s' r') : RR l' a' s' r' := by
  rcases h1 with ⟨c1, e1, e2⟩ | ⟨c1, e1, e2⟩ <;> rcases h2 with ⟨c2, e3, e4⟩ | ⟨c2, e3, e4⟩
  · rw [e1, e2, e3, e4]; exact h.ref _ _
  · omega
  · omega
  · rw [e1, e2, e3, e4]; exact h.acc
def fvr (sd set b : Nat) (y : Nat → Int) : Nat → Int := if set.testBit b then va_up y (12 + (6 * b + 5)) ((((y (12 + (6 * b + 5))).toNat ||| 2 ^ sd : Nat) : Nat) : Int) else y
def fvs (sd set : Nat) : Nat → Nat → (Nat → Int) → Nat → Int
  | 0, _, y => y
  | d + 1, b, y => fvs sd set d (b + 1) (fvr sd set b y)
theorem fvs_id {sd set : Nat} : ∀ (d b : Nat) (y : Nat → Int), (∀ k, b ≤ k → set.testBit k = false) → fvs sd set d b y = y := by
  intro d
  induction d with
  | zero => intro b y h; rfl
  | succ d ih =>
    intro b y h
    show fvs sd set d (b + 1) (fvr sd set b y) = y
    rw [show fvr sd set b y = y by unfold fvr; rw [h b (Nat.le_refl b)]; rfl]
    exact ih (b + 1) y (fun k hk => h k (by omega))
theorem fvs_split {sd set : Nat} : ∀ (d e b : Nat) (y : Nat → Int), fvs sd set (d + e) b y = fvs sd set e (b + d) (fvs sd set d b y) := by
  intro d
  induction d with
  | zero => intro e b y; rw [Nat.zero_add]; rfl
  | succ d ih =>
    intro e b y
    rw [show d + 1 + e = (d + e) + 1 by omega]
    show fvs sd set (d + e) (b + 1) (fvr sd set b y) = fvs sd set e (b + (d + 1)) (fvs sd set d (b + 1) (fvr sd set b y))
    rw [ih, show b + 1 + d = b + (d + 1) by omega]
theorem fv_val {a sd : Nat} (ha : a < 4) (hs : sd < 2) : a ||| 2 ^ sd < 4 := Nat.or_lt_two_pow (n := 2) ha (by rcases (show sd = 0 ∨ sd = 1 by omega) with e | e <;> subst e <;> decide)
theorem WF_fav (hW : WF y) {b : Nat} (hb : b < 8) : 0 ≤ y (12 + (6 * b + 5)) ∧ y (12 + (6 * b + 5)) ≤ 3 := by
  have := hW.2.2.2.2.2.2.2.1 (6 * b + 5) (by omega)
  rw [show ((((6 * b + 5) % 6 : Nat) : Nat) : Int) = 5 by omega] at this
  exact this
theorem WF_fvr (hW : WF y) {sd set b : Nat} (hs : sd < 2) (hb : b < 8) : WF (fvr sd set b y) := by
  unfold fvr
  have hf := WF_fav hW hb
  split
  · refine hW.tr' (k := 6 * b + 5) (by omega) (by omega) ?_
    rw [show ((((6 * b + 5) % 6 : Nat) : Nat) : Int) = 5 by omega]
    have := fv_val (a := (y (12 + (6 * b + 5))).toNat) (sd := sd) (by omega) hs
    show _ ≤ (3 : Int)
    omega
  · exact hW
theorem EqL_fvr {y' : Nat → Int} (h : EqL y y') {sd set b : Nat} (hb : b < 8) : EqL y (fvr sd set b y') := by
  unfold fvr
  split
  · exact ⟨by rw [va_up_ne _ _ (by omega)]; exact h.1, fun k hk => by rw [va_up_ne _ _ (by omega)]; exact h.2 k hk⟩
  · exact h
theorem WF_fvs {sd set : Nat} (hs : sd < 2) : ∀ (d b : Nat) (y : Nat → Int), WF y → b + d ≤ 8 → WF (fvs sd set d b y) := by
  intro d
  induction d with
  | zero => intro b y h _; exact h
  | succ d ih => intro b y h hb; exact ih (b + 1) _ (WF_fvr h hs (by omega)) (by omega)
theorem EqL_fvs {sd set : Nat} : ∀ (d b : Nat) (y' : Nat → Int), EqL y y' → b + d ≤ 8 → EqL y (fvs sd set d b y') := by
  intro d
  induction d with
  | zero => intro b y h _; exact h
  | succ d ih => intro b y h hb; exact ih (b + 1) _ (EqL_fvr h (by omega)) (by omega)
/-- the verdict, and the yard behind it -/
def brV (y : Nat → Int) (LO : Option LwS) (sd s : Int) : Int := if (0 ≤ sd ∧ sd ≤ 1) ∧ (0 ≤ s ∧ s.toNat &&& (y 4).toNat = s.toNat) then (if cst y LO sd.toNat s.toNat ≤ y (8 + sd.toNat) then cst y LO sd.toNat s.toNat else -3) else -1
def brY (y : Nat → Int) (LO : Option LwS) (sd s : Int) : Nat → Int := if 0 ≤ brV y LO sd s then fvs sd.toNat s.toNat 8 0 (va_up y (5 + (3 + sd.toNat)) (y (8 + sd.toNat) - brV y LO sd s)) else y
theorem br_ok (hW : WF y) (sd s : Int) : WF (brY y LO sd s) ∧ EqL y (brY y LO sd s) := by
  unfold brY
  split
  · rename_i h
    have hv : (0 ≤ sd ∧ sd ≤ 1) ∧ (0 ≤ s ∧ s.toNat &&& (y 4).toNat = s.toNat) ∧ cst y LO sd.toNat s.toNat ≤ y (8 + sd.toNat) ∧ brV y LO sd s = cst y LO sd.toNat s.toNat := by
      unfold brV at h ⊢
      split at h
      · rename_i c
        split at h
        · rename_i c2
          exact ⟨c.1, c.2, c2, by rw [if_pos c, if_pos c2]⟩
        · omega
      · omega
    have hp := hW.purse (sd := sd.toNat) (by omega)
    have hc := cst_rng (LO := LO) hW (sd := sd.toNat) (s := s.toNat)
    have h1 : loP (3 + sd.toNat) = 0 := if_neg (by omega)
    have h2 : hiP (3 + sd.toNat) = 999 := by unfold hiP; rw [if_neg (by omega), if_neg (by omega), if_neg (by omega), if_neg (by omega)]
    refine ⟨WF_fvs (by omega) 8 0 _ (hW.trm (t := 3 + sd.toNat) (by omega) ?_ ?_) (by omega), EqL_fvs 8 0 _ (EqL.up (by omega) (by omega)) (by omega)⟩
    · rw [h1, hv.2.2.2]; omega
    · rw [h2, hv.2.2.2]; omega
  · exact ⟨hW, EqL.rfl⟩
theorem v_brL (hFu : 6000 ≤ Fu) {th st : Int32} {ref : Nat → Int32} {lw : Int32} {set rs : Nat → Int64} {br : Int32} {val sum : Int64} {co pc : Nat → Int32} {sd s : Nat} (hsd : sd < 2) (hs : s < 256) {v : Int} (v1 : 0 ≤ v) (v2 : v ≤ 7992) :
    ∀ (d f b : Nat) (y : Nat → Int) (row : Nat → Int32), b + d = 8 → d < f → RM y row → WF y → Rt (fX12_bribe_L96 Fu f th st ref row lw set rs br val sum co pc (i32 (sd : Int)) (i32 (s : Int)) (i32 v) (i32 (b : Int))) (fun r => r.1 = i32 v ∧ r.2.2.1 = 0 ∧ r.2.2.2.1 = ref ∧ RM (fvs sd s d b y) r.2.2.2.2.1) := by
  intro d
  induction d with
  | zero =>
    intro f b y row hb hf hM hW
    obtain ⟨f, rfl⟩ : ∃ g, f = g + 1 := ⟨f - 1, by omega⟩
    unfold fX12_bribe_L96
    refine Rt.ift (by rw [i32_litN 8, i32_le (by omega) (by omega) (by omega) (by omega)]; omega) ?_
    rw [v_tell v1 (by omega)]
    exact Rt.eqb rfl (Rt.ret ⟨rfl, rfl, rfl, hM⟩)
  | succ d ih =>
    intro f b y row hb hf hM hW
    obtain ⟨f, rfl⟩ : ∃ g, f = g + 1 := ⟨f - 1, by omega⟩
    have hfv := WF_fav (b := b) hW (by omega)
    have e0 := hM (12 + (6 * b + 5)) (by omega)
    have ei : (12 : Int32) + 6 * i32 (b : Int) + 5 = i32 ((12 + (6 * b + 5) : Nat) : Int) := by
      rw [i32_litN 12, i32_litN 6, i32_litN 5, i32_mul, i32_add, i32_add]; congr 1 <;> omega
    have eb : i32 (b : Int) + 1 = i32 ((b + 1 : Nat) : Int) := by rw [i32_litN 1, i32_add]; congr 1
    unfold fX12_bribe_L96
    refine Rt.iff (by rw [i32_litN 8, i32_le (by omega) (by omega) (by omega) (by omega)]; omega) ?_
    rw [ei, v_is (s := s) (k := b) (by omega) (by omega)]
    refine Rt.gd (by omega) (by omega) (by omega) (Rt.eqb rfl ?_)
    rw [i32_nat (by omega) (by omega), Int.toNat_natCast, e0]
    obtain ⟨a, ha⟩ := Int.eq_ofNat_of_zero_le hfv.1
    by_cases ht : s.testBit b = true
    · refine Rt.iff (by rw [bI_0]; exact fun q => q ht) ?_
      unfold fX12_bribe_L135
      rw [eb]
      refine Rt.gd (by omega) (by omega) (by omega) ?_
      have en : fvr sd s b y = va_up y (12 + (6 * b + 5)) ((a ||| 2 ^ sd : Nat) : Int) := by
        unfold fvr; rw [if_pos ht, ha, Int.toNat_natCast]
      rw [i32_31 (k := sd) (by omega), show (1 : Int32) = i32 ((1 : Nat) : Int) from rfl, i32_shl (by omega), ha, i32_or, i32_nat (by omega) (by omega), Int.toNat_natCast, Nat.one_mul]
      refine ih f (b + 1) (fvr sd s b y) _ (by omega) (by omega) ?_ (WF_fvr hW hsd (by omega))
      rw [en]; exact hM.up _ _
    · refine Rt.ift (by rw [bI_0]; exact ht) ?_
      unfold fX12_bribe_L135
      rw [eb]
      refine Rt.gd (by omega) (by omega) (by omega) ?_
      have en : fvr sd s b y = y := by unfold fvr; rw [if_neg ht]
      have eo : i32 (y (12 + (6 * b + 5))) ||| (0 : Int32) = i32 (y (12 + (6 * b + 5))) := by
        rw [ha, show (0 : Int32) = i32 ((0 : Nat) : Int) from rfl, i32_or, Nat.or_zero]
      rw [eo, i32_nat (by omega) (by omega), Int.toNat_natCast]
      have hM2 : RM y (va_up row (12 + (6 * b + 5)) (i32 (y (12 + (6 * b + 5))))) := by
        intro k hk
        by_cases e : k = 12 + (6 * b + 5)
        · rw [e, va_up_at]
        · rw [va_up_ne _ _ e]; exact hM k hk
      have := ih f (b + 1) y _ (by omega) (by omega) hM2 hW
      show Rt _ (fun r => _ ∧ _ ∧ _ ∧ RM (fvs sd s d (b + 1) (fvr sd s b y)) _)
      rw [en]; exact this
theorem m_bribe (hFu : 6000 ≤ Fu) (hM : RM y row) (hW : WF y) (hO : MO y LO) {th st : Int32} {ref : Nat → Int32} {lw : Int32} {set rs : Nat → Int64} {br : Int32} {val sum : Int64} {co pc : Nat → Int32} {sd s : Int} (s1 : -2147483648 ≤ sd) (s2 : sd ≤ 2147483647) (o1 : -2147483648 ≤ s) (o2 : s ≤ 2147483647) :
    Rt (fX12_bribe Fu th st ref row lw set rs br val sum co pc (i32 sd) (i32 s)) (fun r => r.1 = i32 (brV y LO sd s) ∧ RF (brV y LO sd s) ref r.2.2.1 r.2.2.2.1 ∧ RM (brY y LO sd s) r.2.2.2.2.1) := by
  have eN : ¬ ((0 ≤ sd ∧ sd ≤ 1) ∧ (0 ≤ s ∧ s.toNat &&& (y 4).toNat = s.toNat)) → brV y LO sd s = -1 := fun q => if_neg q
  have eM : (0 ≤ sd ∧ sd ≤ 1) ∧ (0 ≤ s ∧ s.toNat &&& (y 4).toNat = s.toNat) → ¬ cst y LO sd.toNat s.toNat ≤ y (8 + sd.toNat) → brV y LO sd s = -3 := fun q1 q2 => by unfold brV; rw [if_pos q1, if_neg q2]
  have eY : (0 ≤ sd ∧ sd ≤ 1) ∧ (0 ≤ s ∧ s.toNat &&& (y 4).toNat = s.toNat) → cst y LO sd.toNat s.toNat ≤ y (8 + sd.toNat) → brV y LO sd s = cst y LO sd.toNat s.toNat := fun q1 q2 => by unfold brV; rw [if_pos q1, if_pos q2]
  have yN : brV y LO sd s < 0 → brY y LO sd s = y := fun q => if_neg (by omega)
  have yY : 0 ≤ brV y LO sd s → brY y LO sd s = fvs sd.toNat s.toNat 8 0 (va_up y (5 + (3 + sd.toNat)) (y (8 + sd.toNat) - brV y LO sd s)) := fun q => if_pos q
  have g37 : ∀ {lw : Int32} {set rs : Nat → Int64} {br : Int32} {val sum : Int64} {co pc : Nat → Int32}, brV y LO sd s = -1 → Rt (fX12_bribe_L37 Fu 0 st ref row lw set rs br val sum co pc) (fun r => r.1 = i32 (brV y LO sd s) ∧ RF (brV y LO sd s) ref r.2.2.1 r.2.2.2.1 ∧ RM (brY y LO sd s) r.2.2.2.2.1) := by
    intro lw set rs br val sum co pc e
    unfold fX12_bribe_L37
    rw [yN (by omega), e, show (-1 : Int32) = i32 (-1) from rfl, v_tell_neg (by omega) (by omega)]
    exact Rt.eqb rfl (Rt.ret ⟨rfl, Or.inl ⟨by omega, rfl, rfl⟩, hM⟩)
  obtain ⟨t, n, e4, e0, hn, hs1, hs, hb⟩ := hW.seats
  unfold fX12_bribe
  rw [v_isSide sd s1 s2, i32_64 o1 o2, show (0 : Int64) = i64 0 from rfl, show (255 : Int64) = i64 255 from rfl, v_in (by omega) (by omega) (by omega) (by omega) (by omega) (by omega)]
  refine Rt.eqb rfl ?_
  by_cases cs : 0 ≤ sd ∧ sd ≤ 1
  · refine Rt.iff (by rw [bI_0]; exact fun q => q cs) (Rt.eqb rfl ?_)
    by_cases cw : 0 ≤ s ∧ s ≤ 255
    · refine Rt.iff (by rw [bI_0]; exact fun q => q cw) ?_
      obtain ⟨sd, rfl⟩ := Int.eq_ofNat_of_zero_le cs.1
      obtain ⟨s, rfl⟩ := Int.eq_ofNat_of_zero_le cw.1
      simp only [Int.toNat_natCast] at eN eM eY yN yY
      rw [gd9 (by decide) (by decide), i32_nn9 (by decide), hM 4 (by omega), e4]
      rw [e4, Int.toNat_natCast] at eN eM eY
      by_cases cc : s &&& t = s
      · refine Rt.ift ((i32_andn s t (by omega) (by omega)).2 cc) (Rt.bind (v_layPrices hFu hM hW hO) (fun r hr => ?_))
        have hp := hW.purse (sd := sd) (by omega)
        have hc := cst_rng (LO := LO) hW (sd := sd) (s := s)
        have hq := hr sd s (by omega) (by omega)
        have em := hM (8 + sd) (by omega)
        rw [show (256 : Int32) * i32 (sd : Int) + i32 (s : Int) = i32 ((256 * sd + s : Nat) : Int) by rw [i32_litN 256, i32_mul, i32_add]; congr 1 <;> omega, show (8 : Int32) + i32 (sd : Int) = i32 ((8 + sd : Nat) : Int) by rw [i32_litN 8, i32_add]; congr 1 <;> omega]
        refine Rt.gd (by omega) (by omega) (by omega) (Rt.gd (by omega) (by omega) (by omega) ?_)
        rw [i32_nat (by omega) (by omega), i32_nat (by omega) (by omega), Int.toNat_natCast, Int.toNat_natCast, hq, em]
        by_cases cp : cst y LO sd s ≤ y (8 + sd)
        · refine Rt.ift (by rw [i32_le (by omega) (by omega) (by omega) (by omega)]; exact cp) (Rt.gd (by omega) (by omega) (by omega) (Rt.gd (by omega) (by omega) (by omega) ?_))
          have ev := eY ⟨cs, by omega, cc⟩ cp
          rw [yY (by omega), ev, i32_sub]
          have hok := (br_ok (LO := LO) hW (sd : Int) (s : Int)).1
          have hW2 : WF (va_up y (5 + (3 + sd)) (y (8 + sd) - cst y LO sd s)) := by
            have h1 : loP (3 + sd) = 0 := if_neg (by omega)
            have h2 : hiP (3 + sd) = 999 := by unfold hiP; rw [if_neg (by omega), if_neg (by omega), if_neg (by omega), if_neg (by omega)]
            exact hW.trm (t := 3 + sd) (by omega) (by rw [h1]; omega) (by rw [h2]; omega)
          refine Rt.mono (v_brL hFu (sd := sd) (s := s) (by omega) (by omega) hc.1 hc.2 8 Fu 0 (va_up y (5 + (3 + sd)) (y (8 + sd) - cst y LO sd s)) _ (by omega) (by omega) ?_ hW2) (fun r2 h2 => ⟨h2.1, Or.inr ⟨hc.1, h2.2.1, h2.2.2.1⟩, h2.2.2.2⟩)
          rw [show 5 + (3 + sd) = 8 + sd by omega]; exact hM.up _ _
        · refine Rt.iff (by rw [i32_le (by omega) (by omega) (by omega) (by omega)]; exact cp) ?_
          have ev := eM ⟨cs, by omega, cc⟩ cp
          rw [yN (by omega), ev, show (-3 : Int32) = i32 (-3) from rfl, v_tell_neg (by omega) (by omega)]
          exact Rt.eqb rfl (Rt.ret ⟨rfl, Or.inl ⟨by omega, rfl, rfl⟩, hM⟩)
      · refine Rt.iff (fun q => cc ((i32_andn s t (by omega) (by omega)).1 q)) (g37 (eN (fun q => cc q.2.2)))
    · refine Rt.ift (by rw [bI_0]; exact cw) (g37 (eN (fun q => cw ⟨q.2.1, ?_⟩)))
      have := Nat.and_le_right (n := s.toNat) (m := (y 4).toNat)
      omega
  · exact Rt.ift (by rw [bI_0]; exact cs) (g37 (eN (fun q => cs q.1)))
theorem x_brL_N (hFu : 6000 ≤ Fu) {a5 : Nat → Option Nat} {last : Int32} {vb vs vsd vq kn sv : Int32} {a43 a44 a45 a46 a47 a49 a78 : Nat → Int32} {a48 : Nat → Int64} (a38 : Nat → Int32) {sd s n : Nat} (hsd : sd < 2) (hs : s < 256) (hn : n ≤ 8) {v : Int} (v1 : 0 ≤ v) (v2 : v ≤ 7992) :
    ∀ (d f b : Nat) (y : Nat → Int) (tr : Nat → Int32), b + d = n → d < f → WF y → RX y (i32 (n : Int)) meals seats laws inForce tr mh te cases rs ju vo → Rt (fX11_bribe_N_L90 Fu f last (i32 (n : Int)) seats laws inForce tr mh te a5 a38 vb vs vsd vq kn sv a43 a44 a45 a46 a47 a49 a78 (i32 (sd : Int)) (i32 (s : Int)) (i32 v) (i32 (b : Int))) (fun r => r.1 = i32 v ∧ r.2.1 = 0 ∧ r.2.2.2.2.2.2.2.2.2.2.2.2.2.2.2.2.2 = a78 ∧ RX (fvs sd s d b y) (i32 (n : Int)) meals seats laws inForce r.2.2.1 mh r.2.2.2.1 cases rs ju vo ∧ CI (fvs sd s d b y) LO r.2.2.2.2.2.1 r.2.2.2.2.2.2.1 r.2.2.2.2.2.2.2.1 r.2.2.2.2.2.2.2.2.1 r.2.2.2.2.2.2.2.2.2.1 r.2.2.2.2.2.2.2.2.2.2.1 r.2.2.2.2.2.2.2.2.2.2.2.1 r.2.2.2.2.2.2.2.2.2.2.2.2.1 r.2.2.2.2.2.2.2.2.2.2.2.2.2.2.1 r.2.2.2.2.2.2.2.2.2.2.2.2.2.2.2.1 a48 r.2.2.2.2.2.2.2.2.2.2.2.2.2.2.2.2.1) := by
  intro d
  induction d with
  | zero =>
    intro f b y tr hb hf hW hX
    obtain ⟨f, rfl⟩ : ∃ g, f = g + 1 := ⟨f - 1, by omega⟩
    unfold fX11_bribe_N_L90
    refine Rt.ift (by rw [i32_le (by omega) (by omega) (by omega) (by omega)]; omega) ?_
    rw [x_accept]
    exact Rt.eqb rfl (Rt.ret ⟨rfl, rfl, rfl, hX, Or.inl rfl⟩)
  | succ d ih =>
    intro f b y tr hb hf hW hX
    obtain ⟨f, rfl⟩ : ∃ g, f = g + 1 := ⟨f - 1, by omega⟩
    have hfv := WF_fav (b := b) hW (by omega)
    have eb : i32 (b : Int) + 1 = i32 ((b + 1 : Nat) : Int) := by rw [i32_litN 1, i32_add]; congr 1
    have et := hX.2.2.2.2.2.1 (6 * b + 5) (by omega)
    obtain ⟨a, ha⟩ := Int.eq_ofNat_of_zero_le hfv.1
    unfold fX11_bribe_N_L90
    refine Rt.iff (by rw [i32_le (by omega) (by omega) (by omega) (by omega)]; omega) ?_
    rw [i32_bit (s := s) (k := b) (by omega) (by omega), eb]
    by_cases ht : s.testBit b = true
    · have en : fvr sd s b y = va_up y (12 + (6 * b + 5)) ((a ||| 2 ^ sd : Nat) : Int) := by
        unfold fvr; rw [if_pos ht, ha, Int.toNat_natCast]
      refine Rt.ift (by rw [if_pos ht]; rfl) ?_
      rw [show (5 : Int32) = i32 5 from rfl, x_trait (b := (b : Int)) (w := 5) (by omega) (by omega) (by omega) (by omega), show (6 * (b : Int) + 5).toNat = 6 * b + 5 by omega, et]
      refine Rt.eqb rfl ?_
      rw [i32_31 (k := sd) (by omega), show (1 : Int32) = i32 ((1 : Nat) : Int) from rfl, i32_shl (by omega), ha, i32_or, Nat.one_mul, x_setTrait (b := (b : Int)) (w := 5) (by omega) (by omega) (by omega) (by omega), show (6 * (b : Int) + 5).toNat = 6 * b + 5 by omega]
      refine Rt.eqb rfl ?_
      refine ih f (b + 1) (fvr sd s b y) _ (by omega) (by omega) (WF_fvr hW hsd (by omega)) ?_
      rw [en]; exact hX.tr' (k := 6 * b + 5) (by omega) _
    · have en : fvr sd s b y = y := by unfold fvr; rw [if_neg ht]
      refine Rt.iff (by rw [if_neg ht]; decide) ?_
      have := ih f (b + 1) y _ (by omega) (by omega) hW hX
      show Rt _ (fun r => _ ∧ _ ∧ _ ∧ RX (fvs sd s d (b + 1) (fvr sd s b y)) _ _ _ _ _ _ _ _ _ _ _ _ ∧ CI (fvs sd s d (b + 1) (fvr sd s b y)) LO _ _ _ _ _ _ _ _ _ _ _ _)
      rw [en]; exact this
theorem c_bribe_N (hFu : 6000 ≤ Fu) {a5 : Nat → Option Nat} (hW : WF y) (hX : RX y beasts meals seats laws inForce tr mh te cases rs ju vo) (hH : HN y LO) {vb vs vsd vq kn sv : Int32} {a43 a44 a45 a46 a47 a49 a78 : Nat → Int32} {last : Int32} {a48 : Nat → Int64} (hC : CI y LO vb vs vsd vq kn sv a43 a44 a46 a47 a48 a49) (a38 : Nat → Int32) {sd s : Int} (s1 : -2147483648 ≤ sd) (s2 : sd ≤ 2147483647) (o1 : -2147483648 ≤ s) (o2 : s ≤ 2147483647) :
    Rt (fX11_bribe_N Fu last beasts seats laws inForce tr mh te a5 a38 vb vs vsd vq kn sv a43 a44 a45 a46 a47 a49 a78 (i32 sd) (i32 s)) (fun r => r.1 = i32 (brV y LO sd s) ∧ RF (brV y LO sd s) a78 r.2.1 (r.2.2.2.2.2.2.2.2.2.2.2.2.2.2.2.2.2) ∧ RX (brY y LO sd s) beasts meals seats laws inForce r.2.2.1 mh r.2.2.2.1 cases rs ju vo ∧ CI (brY y LO sd s) LO r.2.2.2.2.2.1 r.2.2.2.2.2.2.1 r.2.2.2.2.2.2.2.1 r.2.2.2.2.2.2.2.2.1 r.2.2.2.2.2.2.2.2.2.1 r.2.2.2.2.2.2.2.2.2.2.1 r.2.2.2.2.2.2.2.2.2.2.2.1 r.2.2.2.2.2.2.2.2.2.2.2.2.1 r.2.2.2.2.2.2.2.2.2.2.2.2.2.2.1 r.2.2.2.2.2.2.2.2.2.2.2.2.2.2.2.1 a48 r.2.2.2.2.2.2.2.2.2.2.2.2.2.2.2.2.1) := by
  have eN : ¬ ((0 ≤ sd ∧ sd ≤ 1) ∧ (0 ≤ s ∧ s.toNat &&& (y 4).toNat = s.toNat)) → brV y LO sd s = -1 := fun q => if_neg q
  have eM : (0 ≤ sd ∧ sd ≤ 1) ∧ (0 ≤ s ∧ s.toNat &&& (y 4).toNat = s.toNat) → ¬ cst y LO sd.toNat s.toNat ≤ y (8 + sd.toNat) → brV y LO sd s = -3 := fun q1 q2 => by unfold brV; rw [if_pos q1, if_neg q2]
  have eY : (0 ≤ sd ∧ sd ≤ 1) ∧ (0 ≤ s ∧ s.toNat &&& (y 4).toNat = s.toNat) → cst y LO sd.toNat s.toNat ≤ y (8 + sd.toNat) → brV y LO sd s = cst y LO sd.toNat s.toNat := fun q1 q2 => by unfold brV; rw [if_pos q1, if_pos q2]
  have yN : brV y LO sd s < 0 → brY y LO sd s = y := fun q => if_neg (by omega)
  have yY : 0 ≤ brV y LO sd s → brY y LO sd s = fvs sd.toNat s.toNat 8 0 (va_up y (5 + (3 + sd.toNat)) (y (8 + sd.toNat) - brV y LO sd s)) := fun q => if_pos q
  have g21 : brV y LO sd s = -1 → Rt (fX11_bribe_N_L21 Fu last beasts seats laws inForce tr mh te a5 a38 vb vs vsd vq kn sv a43 a44 a45 a46 a47 a49 a78 ) (fun r => r.1 = i32 (brV y LO sd s) ∧ RF (brV y LO sd s) a78 r.2.1 (r.2.2.2.2.2.2.2.2.2.2.2.2.2.2.2.2.2) ∧ RX (brY y LO sd s) beasts meals seats laws inForce r.2.2.1 mh r.2.2.2.1 cases rs ju vo ∧ CI (brY y LO sd s) LO r.2.2.2.2.2.1 r.2.2.2.2.2.2.1 r.2.2.2.2.2.2.2.1 r.2.2.2.2.2.2.2.2.1 r.2.2.2.2.2.2.2.2.2.1 r.2.2.2.2.2.2.2.2.2.2.1 r.2.2.2.2.2.2.2.2.2.2.2.1 r.2.2.2.2.2.2.2.2.2.2.2.2.1 r.2.2.2.2.2.2.2.2.2.2.2.2.2.2.1 r.2.2.2.2.2.2.2.2.2.2.2.2.2.2.2.1 a48 r.2.2.2.2.2.2.2.2.2.2.2.2.2.2.2.2.1) := by
    intro e
    unfold fX11_bribe_N_L21
    rw [yN (by omega), e, show (-1 : Int32) = i32 (-1) from rfl, x_refuse (by omega) (by omega)]
    exact Rt.eqb rfl (Rt.ret ⟨rfl, Or.inl ⟨by omega, rfl, rfl⟩, hX, hC⟩)
  obtain ⟨t, n, e4, e0, hn, hs1, hs, hb⟩ := hW.seats
  unfold fX11_bribe_N
  rw [x_isSide sd s1 s2]
  refine Rt.eqb rfl ?_
  by_cases cs : 0 ≤ sd ∧ sd ≤ 1
  · refine Rt.iff (by rw [bI_0]; exact fun q => q cs) ?_
    have eS : seats = i32 (t : Int) := by rw [hX.2.2.1, e4]
    by_cases cc : i32 s &&& (i32 (t : Int) ^^^ (-1 : Int32)) = 0
    · refine Rt.ift (by rw [eS]; exact cc) ?_
      obtain ⟨a, a1, a2, a3⟩ := i32_sub_of (by omega) ((i32_nn _ _).1 cc)
      have es : s = (a : Int) := by
        have := a3; rw [i32_eq o1 o2 (by omega) (by omega)] at this; exact this
      subst es
      obtain ⟨sd, rfl⟩ := Int.eq_ofNat_of_zero_le cs.1
      simp only [Int.toNat_natCast] at eN eM eY yN yY
      rw [e4, Int.toNat_natCast] at eN eM eY
      refine Rt.bind (x_learnB_N (Q := fun sv => sv = 0 ∨ sv = 1 ∧ SV y LO a48) hFu hW hX hH a38 hC (Or.inl rfl)) (fun r hr => ?_)
      obtain ⟨g1, g2, g3⟩ := hr
      have hlt : a < 2 ^ (y 0).toNat := by
        have h4 := hW.2.2.2.2.1
        have : ((2 ^ (y 0).toNat : Nat) : Int) = 2 ^ (y 0).toNat := by simp
        omega
      rw [x_canN hW g3 (sd := sd) (s := a) (by omega) (by omega)]
      refine Rt.eqb rfl ?_
      have hp := hW.purse (sd := sd) (by omega)
      have hc := cst_rng (LO := LO) hW (sd := sd) (s := a)
      by_cases cp : cst y LO sd a ≤ y (8 + sd)
      · refine Rt.iff (by rw [bI_0]; exact fun q => q ⟨by rw [e4, Int.toNat_natCast]; exact a2, cp⟩) ?_
        have e2 : ((2 ^ (y 0).toNat : Nat) : Int) = 2 ^ (y 0).toNat := by simp
        rw [show (1 : Int32) = i32 1 from rfl, x_toldB hW g3 (sd := sd) (s := (a : Int)) (w := 1) (by omega) (by omega) (by omega) (by omega), if_neg (by omega), Int.toNat_natCast]
        refine Rt.eqb rfl ?_
        have ev := eY ⟨cs, by omega, a2⟩ cp
        rw [yY (by omega), ev]
        rw [show (3 : Int32) + i32 (sd : Int) = i32 ((3 + sd : Nat) : Int) by rw [i32_litN 3, i32_add]; congr 1 <;> omega]
        refine Rt.gd (by omega) (by omega) (by omega) (Rt.gd (by omega) (by omega) (by omega) ?_)
        rw [i32_nat (by omega) (by omega), Int.toNat_natCast, hX.2.2.2.2.2.2.1 (3 + sd) (by omega), show 5 + (3 + sd) = 8 + sd by omega, i32_sub]
        have hW2 : WF (va_up y (5 + (3 + sd)) (y (8 + sd) - cst y LO sd a)) := by
          have h1 : loP (3 + sd) = 0 := if_neg (by omega)
          have h2 : hiP (3 + sd) = 999 := by unfold hiP; rw [if_neg (by omega), if_neg (by omega), if_neg (by omega), if_neg (by omega)]
          exact hW.trm (t := 3 + sd) (by omega) (by rw [h1]; omega) (by rw [h2]; omega)
        have hX2 := hX.trm (t := 3 + sd) (by omega) (y (8 + sd) - cst y LO sd a)
        rw [show 5 + (3 + sd) = 8 + sd by omega] at hW2 hX2
        have eB : beasts = i32 (n : Int) := by rw [hX.1, e0]
        subst eB
        have hfs : fvs sd a 8 0 (va_up y (8 + sd) (y (8 + sd) - cst y LO sd a)) = fvs sd a n 0 (va_up y (8 + sd) (y (8 + sd) - cst y LO sd a)) := by
          rw [show (8 : Nat) = n + (8 - n) by omega, fvs_split, fvs_id]
          · intro k hk
            rw [e0, Int.toNat_natCast] at hlt
            exact Nat.testBit_lt_two_pow (Nat.lt_of_lt_of_le hlt (Nat.pow_le_pow_right (by omega) (by omega)))
        rw [hfs]
        refine Rt.mono (x_brL_N (LO := LO) (a48 := a48) hFu r.1 (sd := sd) (s := a) (n := n) (by omega) (by omega) hn hc.1 hc.2 n Fu 0 _ _ (by omega) (by omega) hW2 hX2) (fun r2 h2 => ⟨h2.1, Or.inr ⟨hc.1, h2.2.1, h2.2.2.1⟩, h2.2.2.2.1, h2.2.2.2.2⟩)
      · refine Rt.ift (by rw [bI_0]; exact fun q => cp q.2) ?_
        have ev := eM ⟨cs, by omega, a2⟩ cp
        rw [yN (by omega), ev, show (-3 : Int32) = i32 (-3) from rfl, x_refuse (by omega) (by omega)]
        exact Rt.eqb rfl (Rt.ret ⟨rfl, Or.inl ⟨by omega, rfl, rfl⟩, hX, Or.inr ⟨g1, g3, g2⟩⟩)
    · refine Rt.iff (by rw [eS]; exact cc) (g21 (eN (fun q => cc ?_)))
      obtain ⟨a, rfl⟩ := Int.eq_ofNat_of_zero_le q.2.1
      have h := q.2.2
      rw [e4, Int.toNat_natCast, Int.toNat_natCast] at h
      have := Nat.and_le_right (n := a) (m := t)
      exact (i32_andn a t (by omega) (by omega)).2 h
  · exact Rt.ift (by rw [bI_0]; exact cs) (g21 (eN (fun q => cs q.1)))
theorem x_brL_L (hFu : 6000 ≤ Fu) {nh nt ne ns bb q : Nat} {a5 : Nat → Option Nat} {aL1 aL2 aL3 aL4 : Nat → Int32} {last : Int32} {vb vs vsd vq kn sv : Int32} {a43 a44 a45 a46 a47 a49 a78 : Nat → Int32} {a48 : Nat → Int64} (ht : Int32) (an : Int64) (a38 : Nat → Int32) (a39 : Nat → Int64) {sd s n : Nat} (hsd : sd < 2) (hs : s < 256) (hn : n ≤ 8) {v : Int} (v1 : 0 ≤ v) (v2 : v ≤ 7992) :
    ∀ (d f b : Nat) (y : Nat → Int) (tr : Nat → Int32), b + d = n → d < f → WF y → RX y (i32 (n : Int)) meals seats laws inForce tr mh te cases rs ju vo → Rt (fX11_bribe_L_L90 Fu nh nt ne ns bb q f last (i32 (n : Int)) seats laws inForce tr mh te a5 ht an a38 a39 vb vs vsd vq kn sv a43 a44 a45 a46 a47 a49 a78 aL1 aL2 aL3 aL4 (i32 (sd : Int)) (i32 (s : Int)) (i32 v) (i32 (b : Int))) (fun r => r.1 = i32 v ∧ r.2.1 = 0 ∧ r.2.2.2.2.2.2.2.2.2.2.2.2.2.2.2.2.2.2.2.2 = a78 ∧ RX (fvs sd s d b y) (i32 (n : Int)) meals seats laws inForce r.2.2.1 mh r.2.2.2.1 cases rs ju vo ∧ CI (fvs sd s d b y) LO r.2.2.2.2.2.2.2.2.1 r.2.2.2.2.2.2.2.2.2.1 r.2.2.2.2.2.2.2.2.2.2.1 r.2.2.2.2.2.2.2.2.2.2.2.1 r.2.2.2.2.2.2.2.2.2.2.2.2.1 r.2.2.2.2.2.2.2.2.2.2.2.2.2.1 r.2.2.2.2.2.2.2.2.2.2.2.2.2.2.1 r.2.2.2.2.2.2.2.2.2.2.2.2.2.2.2.1 r.2.2.2.2.2.2.2.2.2.2.2.2.2.2.2.2.2.1 r.2.2.2.2.2.2.2.2.2.2.2.2.2.2.2.2.2.2.1 a48 r.2.2.2.2.2.2.2.2.2.2.2.2.2.2.2.2.2.2.2.1) := by
  intro d
  induction d with
  | zero =>
    intro f b y tr hb hf hW hX
    obtain ⟨f, rfl⟩ : ∃ g, f = g + 1 := ⟨f - 1, by omega⟩
    unfold fX11_bribe_L_L90
    refine Rt.ift (by rw [i32_le (by omega) (by omega) (by omega) (by omega)]; omega) ?_
    rw [x_accept]
    exact Rt.eqb rfl (Rt.ret ⟨rfl, rfl, rfl, hX, Or.inl rfl⟩)
  | succ d ih =>
    intro f b y tr hb hf hW hX
    obtain ⟨f, rfl⟩ : ∃ g, f = g + 1 := ⟨f - 1, by omega⟩
    have hfv := WF_fav (b := b) hW (by omega)
    have eb : i32 (b : Int) + 1 = i32 ((b + 1 : Nat) : Int) := by rw [i32_litN 1, i32_add]; congr 1
    have et := hX.2.2.2.2.2.1 (6 * b + 5) (by omega)
    obtain ⟨a, ha⟩ := Int.eq_ofNat_of_zero_le hfv.1
    unfold fX11_bribe_L_L90
    refine Rt.iff (by rw [i32_le (by omega) (by omega) (by omega) (by omega)]; omega) ?_
    rw [i32_bit (s := s) (k := b) (by omega) (by omega), eb]
    by_cases ht : s.testBit b = true
    · have en : fvr sd s b y = va_up y (12 + (6 * b + 5)) ((a ||| 2 ^ sd : Nat) : Int) := by
        unfold fvr; rw [if_pos ht, ha, Int.toNat_natCast]
      refine Rt.ift (by rw [if_pos ht]; rfl) ?_
      rw [show (5 : Int32) = i32 5 from rfl, x_trait (b := (b : Int)) (w := 5) (by omega) (by omega) (by omega) (by omega), show (6 * (b : Int) + 5).toNat = 6 * b + 5 by omega, et]
      refine Rt.eqb rfl ?_
      rw [i32_31 (k := sd) (by omega), show (1 : Int32) = i32 ((1 : Nat) : Int) from rfl, i32_shl (by omega), ha, i32_or, Nat.one_mul, x_setTrait (b := (b : Int)) (w := 5) (by omega) (by omega) (by omega) (by omega), show (6 * (b : Int) + 5).toNat = 6 * b + 5 by omega]
      refine Rt.eqb rfl ?_
      refine ih f (b + 1) (fvr sd s b y) _ (by omega) (by omega) (WF_fvr hW hsd (by omega)) ?_
      rw [en]; exact hX.tr' (k := 6 * b + 5) (by omega) _
    · have en : fvr sd s b y = y := by unfold fvr; rw [if_neg ht]
      refine Rt.iff (by rw [if_neg ht]; decide) ?_
      have := ih f (b + 1) y _ (by omega) (by omega) hW hX
      show Rt _ (fun r => _ ∧ _ ∧ _ ∧ RX (fvs sd s d (b + 1) (fvr sd s b y)) _ _ _ _ _ _ _ _ _ _ _ _ ∧ CI (fvs sd s d (b + 1) (fvr sd s b y)) LO _ _ _ _ _ _ _ _ _ _ _ _)
      rw [en]; exact this
theorem c_bribe_L (hFu : 6000 ≤ Fu) {nh nt ne ns bb q : Nat} {a5 : Nat → Option Nat} {aL1 aL2 aL3 aL4 : Nat → Int32} (hW : WF y) (hX : RX y beasts meals seats laws inForce tr mh te cases rs ju vo) (hH : HL y LO nh nt ne ns bb q a5 aL1 aL2 aL3 aL4) {vb vs vsd vq kn sv : Int32} {a43 a44 a45 a46 a47 a49 a78 : Nat → Int32} {last : Int32} {a48 : Nat → Int64} (hC : CI y LO vb vs vsd vq kn sv a43 a44 a46 a47 a48 a49) (ht : Int32) (an : Int64) (a38 : Nat → Int32) (a39 : Nat → Int64) {sd s : Int} (s1 : -2147483648 ≤ sd) (s2 : sd ≤ 2147483647) (o1 : -2147483648 ≤ s) (o2 : s ≤ 2147483647) :
    Rt (fX11_bribe_L Fu nh nt ne ns bb q last beasts seats laws inForce tr mh te a5 ht an a38 a39 vb vs vsd vq kn sv a43 a44 a45 a46 a47 a49 a78 aL1 aL2 aL3 aL4 (i32 sd) (i32 s)) (fun r => r.1 = i32 (brV y LO sd s) ∧ RF (brV y LO sd s) a78 r.2.1 (r.2.2.2.2.2.2.2.2.2.2.2.2.2.2.2.2.2.2.2.2) ∧ RX (brY y LO sd s) beasts meals seats laws inForce r.2.2.1 mh r.2.2.2.1 cases rs ju vo ∧ CI (brY y LO sd s) LO r.2.2.2.2.2.2.2.2.1 r.2.2.2.2.2.2.2.2.2.1 r.2.2.2.2.2.2.2.2.2.2.1 r.2.2.2.2.2.2.2.2.2.2.2.1 r.2.2.2.2.2.2.2.2.2.2.2.2.1 r.2.2.2.2.2.2.2.2.2.2.2.2.2.1 r.2.2.2.2.2.2.2.2.2.2.2.2.2.2.1 r.2.2.2.2.2.2.2.2.2.2.2.2.2.2.2.1 r.2.2.2.2.2.2.2.2.2.2.2.2.2.2.2.2.2.1 r.2.2.2.2.2.2.2.2.2.2.2.2.2.2.2.2.2.2.1 a48 r.2.2.2.2.2.2.2.2.2.2.2.2.2.2.2.2.2.2.2.1) := by
  have eN : ¬ ((0 ≤ sd ∧ sd ≤ 1) ∧ (0 ≤ s ∧ s.toNat &&& (y 4).toNat = s.toNat)) → brV y LO sd s = -1 := fun q => if_neg q
  have eM : (0 ≤ sd ∧ sd ≤ 1) ∧ (0 ≤ s ∧ s.toNat &&& (y 4).toNat = s.toNat) → ¬ cst y LO sd.toNat s.toNat ≤ y (8 + sd.toNat) → brV y LO sd s = -3 := fun q1 q2 => by unfold brV; rw [if_pos q1, if_neg q2]
  have eY : (0 ≤ sd ∧ sd ≤ 1) ∧ (0 ≤ s ∧ s.toNat &&& (y 4).toNat = s.toNat) → cst y LO sd.toNat s.toNat ≤ y (8 + sd.toNat) → brV y LO sd s = cst y LO sd.toNat s.toNat := fun q1 q2 => by unfold brV; rw [if_pos q1, if_pos q2]
  have yN : brV y LO sd s < 0 → brY y LO sd s = y := fun q => if_neg (by omega)
  have yY : 0 ≤ brV y LO sd s → brY y LO sd s = fvs sd.toNat s.toNat 8 0 (va_up y (5 + (3 + sd.toNat)) (y (8 + sd.toNat) - brV y LO sd s)) := fun q => if_pos q
  have g21 : brV y LO sd s = -1 → Rt (fX11_bribe_L_L21 Fu nh nt ne ns bb q last beasts seats laws inForce tr mh te a5 ht an a38 a39 vb vs vsd vq kn sv a43 a44 a45 a46 a47 a49 a78 aL1 aL2 aL3 aL4) (fun r => r.1 = i32 (brV y LO sd s) ∧ RF (brV y LO sd s) a78 r.2.1 (r.2.2.2.2.2.2.2.2.2.2.2.2.2.2.2.2.2.2.2.2) ∧ RX (brY y LO sd s) beasts meals seats laws inForce r.2.2.1 mh r.2.2.2.1 cases rs ju vo ∧ CI (brY y LO sd s) LO r.2.2.2.2.2.2.2.2.1 r.2.2.2.2.2.2.2.2.2.1 r.2.2.2.2.2.2.2.2.2.2.1 r.2.2.2.2.2.2.2.2.2.2.2.1 r.2.2.2.2.2.2.2.2.2.2.2.2.1 r.2.2.2.2.2.2.2.2.2.2.2.2.2.1 r.2.2.2.2.2.2.2.2.2.2.2.2.2.2.1 r.2.2.2.2.2.2.2.2.2.2.2.2.2.2.2.1 r.2.2.2.2.2.2.2.2.2.2.2.2.2.2.2.2.2.1 r.2.2.2.2.2.2.2.2.2.2.2.2.2.2.2.2.2.2.1 a48 r.2.2.2.2.2.2.2.2.2.2.2.2.2.2.2.2.2.2.2.1) := by
    intro e
    unfold fX11_bribe_L_L21
    rw [yN (by omega), e, show (-1 : Int32) = i32 (-1) from rfl, x_refuse (by omega) (by omega)]
    exact Rt.eqb rfl (Rt.ret ⟨rfl, Or.inl ⟨by omega, rfl, rfl⟩, hX, hC⟩)
  obtain ⟨t, n, e4, e0, hn, hs1, hs, hb⟩ := hW.seats
  unfold fX11_bribe_L
  rw [x_isSide sd s1 s2]
  refine Rt.eqb rfl ?_
  by_cases cs : 0 ≤ sd ∧ sd ≤ 1
  · refine Rt.iff (by rw [bI_0]; exact fun q => q cs) ?_
    have eS : seats = i32 (t : Int) := by rw [hX.2.2.1, e4]
    by_cases cc : i32 s &&& (i32 (t : Int) ^^^ (-1 : Int32)) = 0
    · refine Rt.ift (by rw [eS]; exact cc) ?_
      obtain ⟨a, a1, a2, a3⟩ := i32_sub_of (by omega) ((i32_nn _ _).1 cc)
      have es : s = (a : Int) := by
        have := a3; rw [i32_eq o1 o2 (by omega) (by omega)] at this; exact this
      subst es
      obtain ⟨sd, rfl⟩ := Int.eq_ofNat_of_zero_le cs.1
      simp only [Int.toNat_natCast] at eN eM eY yN yY
      rw [e4, Int.toNat_natCast] at eN eM eY
      refine Rt.bind (x_learnB_L (Q := fun sv => sv = 0 ∨ sv = 1 ∧ SV y LO a48) hFu hW hX hH ht an a38 a39 hC (Or.inl rfl)) (fun r hr => ?_)
      obtain ⟨g1, g2, g3⟩ := hr
      have hlt : a < 2 ^ (y 0).toNat := by
        have h4 := hW.2.2.2.2.1
        have : ((2 ^ (y 0).toNat : Nat) : Int) = 2 ^ (y 0).toNat := by simp
        omega
      rw [x_canN hW g3 (sd := sd) (s := a) (by omega) (by omega)]
      refine Rt.eqb rfl ?_
      have hp := hW.purse (sd := sd) (by omega)
      have hc := cst_rng (LO := LO) hW (sd := sd) (s := a)
      by_cases cp : cst y LO sd a ≤ y (8 + sd)
      · refine Rt.iff (by rw [bI_0]; exact fun q => q ⟨by rw [e4, Int.toNat_natCast]; exact a2, cp⟩) ?_
        have e2 : ((2 ^ (y 0).toNat : Nat) : Int) = 2 ^ (y 0).toNat := by simp
        rw [show (1 : Int32) = i32 1 from rfl, x_toldB hW g3 (sd := sd) (s := (a : Int)) (w := 1) (by omega) (by omega) (by omega) (by omega), if_neg (by omega), Int.toNat_natCast]
        refine Rt.eqb rfl ?_
        have ev := eY ⟨cs, by omega, a2⟩ cp
        rw [yY (by omega), ev]
        rw [show (3 : Int32) + i32 (sd : Int) = i32 ((3 + sd : Nat) : Int) by rw [i32_litN 3, i32_add]; congr 1 <;> omega]
        refine Rt.gd (by omega) (by omega) (by omega) (Rt.gd (by omega) (by omega) (by omega) ?_)
        rw [i32_nat (by omega) (by omega), Int.toNat_natCast, hX.2.2.2.2.2.2.1 (3 + sd) (by omega), show 5 + (3 + sd) = 8 + sd by omega, i32_sub]
        have hW2 : WF (va_up y (5 + (3 + sd)) (y (8 + sd) - cst y LO sd a)) := by
          have h1 : loP (3 + sd) = 0 := if_neg (by omega)
          have h2 : hiP (3 + sd) = 999 := by unfold hiP; rw [if_neg (by omega), if_neg (by omega), if_neg (by omega), if_neg (by omega)]
          exact hW.trm (t := 3 + sd) (by omega) (by rw [h1]; omega) (by rw [h2]; omega)
        have hX2 := hX.trm (t := 3 + sd) (by omega) (y (8 + sd) - cst y LO sd a)
        rw [show 5 + (3 + sd) = 8 + sd by omega] at hW2 hX2
        have eB : beasts = i32 (n : Int) := by rw [hX.1, e0]
        subst eB
        have hfs : fvs sd a 8 0 (va_up y (8 + sd) (y (8 + sd) - cst y LO sd a)) = fvs sd a n 0 (va_up y (8 + sd) (y (8 + sd) - cst y LO sd a)) := by
          rw [show (8 : Nat) = n + (8 - n) by omega, fvs_split, fvs_id]
          · intro k hk
            rw [e0, Int.toNat_natCast] at hlt
            exact Nat.testBit_lt_two_pow (Nat.lt_of_lt_of_le hlt (Nat.pow_le_pow_right (by omega) (by omega)))
        rw [hfs]
        refine Rt.mono (x_brL_L (LO := LO) (a48 := a48) hFu r.1 r.2.1 r.2.2.1 r.2.2.2.1 (sd := sd) (s := a) (n := n) (by omega) (by omega) hn hc.1 hc.2 n Fu 0 _ _ (by omega) (by omega) hW2 hX2) (fun r2 h2 => ⟨h2.1, Or.inr ⟨hc.1, h2.2.1, h2.2.2.1⟩, h2.2.2.2.1, h2.2.2.2.2⟩)
      · refine Rt.ift (by rw [bI_0]; exact fun q => cp q.2) ?_
        have ev := eM ⟨cs, by omega, a2⟩ cp
        rw [yN (by omega), ev, show (-3 : Int32) = i32 (-3) from rfl, x_refuse (by omega) (by omega)]
        exact Rt.eqb rfl (Rt.ret ⟨rfl, Or.inl ⟨by omega, rfl, rfl⟩, hX, Or.inr ⟨g1, g3, g2⟩⟩)
    · refine Rt.iff (by rw [eS]; exact cc) (g21 (eN (fun q => cc ?_)))
      obtain ⟨a, rfl⟩ := Int.eq_ofNat_of_zero_le q.2.1
      have h := q.2.2
      rw [e4, Int.toNat_natCast, Int.toNat_natCast] at h
      have := Nat.and_le_right (n := a) (m := t)
      exact (i32_andn a t (by omega) (by omega)).2 h
  · exact Rt.ift (by rw [bI_0]; exact cs) (g21 (eN (fun q => cs q.1)))
end BRIBE
