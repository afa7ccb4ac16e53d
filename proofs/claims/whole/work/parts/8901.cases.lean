/-! ===== cases known ===== -/
def jb (y : Nat → Int) (k : Nat) : Nat := (y (111 + 3 * k)).toNat
def vb (y : Nat → Int) (k : Nat) : Nat := (y (112 + 3 * k)).toNat
def rtB (y : Nat → Int) (k : Nat) : Nat := if y (110 + 3 * k) = 0 then vb y k else ndiff (jb y k) (vb y k)
def thB (y : Nat → Int) (w k : Nat) : Nat := if w = 0 then rtB y k else ndiff (jb y k) (rtB y k)
def tms (y : Nat → Int) (w b : Nat) (but : Int) : Nat → Nat
  | 0 => 0
  | k + 1 => tms y w b but k + (if (k : Int) ≠ but ∧ (thB y w k).testBit b = true then 1 else 0)
theorem tms_le (y : Nat → Int) (w b : Nat) (but : Int) : ∀ n, tms y w b but n ≤ n := by
  intro n
  induction n with
  | zero => exact Nat.le_refl 0
  | succ n ih => show tms y w b but n + (if (n : Int) ≠ but ∧ (thB y w n).testBit b = true then 1 else 0) ≤ n + 1; split <;> omega
def msr (y : Nat → Int) : Nat → Nat
  | 0 => 0
  | k + 1 => msr y k + (if bcn (jb y k) 8 < 2 * bcn (rtB y k) 8 then 1 else 0)
def tgt (y : Nat → Int) (a b : Nat) (w : Int) : Nat → Nat
  | 0 => 0
  | k + 1 => tgt y a b w k + (if ((jb y k).testBit a = true ∧ (jb y k).testBit b = true) ∧ (w = 0 ∨ (vb y k).testBit a = (vb y k).testBit b) then 1 else 0)
section CASES
variable {y : Nat → Int} {row : Nat → Int32} {beasts meals seats laws inForce cases : Int32} {tr mh te rs ju vo : Nat → Int32} {Fu : Nat}
theorem WF.case (hW : WF y) {k : Nat} (hk : (k : Int) < y 11) : (0 ≤ y (110 + 3 * k) ∧ y (110 + 3 * k) ≤ 1) ∧ y (111 + 3 * k) = (jb y k : Int) ∧ y (112 + 3 * k) = (vb y k : Int) ∧ jb y k < 256 ∧ vb y k ≤ jb y k ∧ vb y k &&& jb y k = vb y k := by
  have h := hW.2.2.2.2.2.2.2.2.2 k hk
  have e1 : y (111 + 3 * k) = (jb y k : Int) := by unfold jb; omega
  have e2 : y (112 + 3 * k) = (vb y k : Int) := by unfold vb; omega
  have e3 : vb y k &&& jb y k = vb y k := h.2.2.2
  refine ⟨h.1, e1, e2, by omega, ?_, e3⟩
  rw [← e3]; exact Nat.and_le_right
theorem rtB_le (hW : WF y) {k : Nat} (hk : (k : Int) < y 11) : rtB y k ≤ jb y k := by
  have h := hW.case hk
  unfold rtB
  split
  · exact h.2.2.2.2.1
  · exact ndiff_le _ _
theorem thB_lt (hW : WF y) {k : Nat} (hk : (k : Int) < y 11) {w : Nat} : thB y w k < 256 := by
  have h := hW.case hk
  have r := rtB_le hW hk
  unfold thB
  split
  · omega
  · have := ndiff_le (jb y k) (rtB y k); omega
theorem v_rightIn (hM : RM y row) (hW : WF y) {k : Nat} (hk : (k : Int) < y 11) : fX12_rightIn row (i32 (k : Int)) = some (i32 ((rtB y k : Nat) : Int)) := by
  have h11 := hW.2.2.2.2.2.2.1
  have h := hW.case hk
  unfold fX12_rightIn
  rw [show (110 : Int32) + 3 * i32 (k : Int) = i32 ((110 + 3 * k : Nat) : Int) by rw [i32_litN 110, i32_litN 3, i32_mul, i32_add]; congr 1 <;> omega]
  rw [show i32 ((110 + 3 * k : Nat) : Int) + 1 = i32 ((111 + 3 * k : Nat) : Int) by rw [i32_litN 1, i32_add]; congr 1; omega, show i32 ((110 + 3 * k : Nat) : Int) + 2 = i32 ((112 + 3 * k : Nat) : Int) by rw [i32_litN 2, i32_add]; congr 1; omega]
  rw [gd_ok (by omega) (by omega) (by omega), gd_ok (by omega) (by omega) (by omega), gd_ok (by omega) (by omega) (by omega), i32_nat (by omega) (by omega), i32_nat (by omega) (by omega), i32_nat (by omega) (by omega), Int.toNat_natCast, Int.toNat_natCast, Int.toNat_natCast, hM _ (by omega), hM _ (by omega), hM _ (by omega), h.2.1, h.2.2.1]
  unfold rtB
  by_cases c : y (110 + 3 * k) = 0
  · rw [if_pos c, if_pos (by rw [c]; rfl)]
  · rw [if_neg c, if_neg (by rw [i32_litN 0, i32_eq (by omega) (by omega) (by omega) (by omega)]; exact c), i32_diff (by omega) (by omega)]
theorem x_votedRight (hW : WF y) (hX : RX y beasts meals seats laws inForce tr mh te cases rs ju vo) {k : Nat} (hk : (k : Int) < y 11) : fX2_votedRight rs ju vo (i32 (k : Int)) = some (i32 ((rtB y k : Nat) : Int)) := by
  have h11 := hW.2.2.2.2.2.2.1
  have h := hW.case hk
  obtain ⟨c1, c2, c3⟩ := hX.2.2.2.2.2.2.2.2.2 k hk
  unfold fX2_votedRight
  rw [gd_ok (by omega) (by omega) (by omega), gd_ok (by omega) (by omega) (by omega), gd_ok (by omega) (by omega) (by omega), i32_nat (by omega) (by omega), Int.toNat_natCast, c1, c2, c3, h.2.1, h.2.2.1]
  unfold rtB
  by_cases c : y (110 + 3 * k) = 0
  · rw [if_pos c, if_pos (by rw [c]; rfl)]
  · rw [if_neg c, if_neg (by rw [i32_litN 0, i32_eq (by omega) (by omega) (by omega) (by omega)]; exact c), i32_diff (by omega) (by omega), gd_ok (by omega) (by omega) (by omega)]
theorem x_timesL (hW : WF y) (hX : RX y beasts meals seats laws inForce tr mh te cases rs ju vo) {w b : Nat} (hw : w ≤ 1) (hb : b < 8) {but : Int} (b1 : -1 ≤ but) (b2 : but ≤ 20) : ∀ (d f k : Nat), (k : Int) + d = y 11 → d < f → fX2_times_L6 Fu f cases rs ju vo (i32 (b : Int)) (i32 (w : Int)) (i32 but) (i32 ((tms y w b but k : Nat) : Int)) (i32 (k : Int)) = some (i32 ((tms y w b but (y 11).toNat : Nat) : Int)) := by
  have h11 := hW.2.2.2.2.2.2.1
  have ec := hX.2.2.2.2.2.2.2.2.1
  intro d
  induction d with
  | zero =>
    intro f k hk hf
    obtain ⟨f, rfl⟩ : ∃ f', f = f' + 1 := ⟨f - 1, by omega⟩
    rw [fX2_times_L6, if_pos (by rw [ec, i32_le (by omega) (by omega) (by omega) (by omega)]; omega), show (y 11).toNat = k by omega]
  | succ d ih =>
    intro f k hk hf
    obtain ⟨f, rfl⟩ : ∃ f', f = f' + 1 := ⟨f - 1, by omega⟩
    have h := hW.case (k := k) (by omega)
    have tl := thB_lt hW (k := k) (by omega) (w := w)
    have r := rtB_le hW (k := k) (by omega)
    obtain ⟨c1, c2, c3⟩ := hX.2.2.2.2.2.2.2.2.2 k (by omega)
    have h44 : fX2_times_L44 Fu (fX2_times_L6 Fu f) cases rs ju vo (i32 (b : Int)) (i32 (w : Int)) (i32 but) (i32 ((tms y w b but k : Nat) : Int)) (i32 (k : Int)) (i32 ((thB y w k : Nat) : Int)) = some (i32 ((tms y w b but (y 11).toNat : Nat) : Int)) := by
      unfold fX2_times_L44
      have go := ih f (k + 1) (by omega) (by omega)
      have et : tms y w b but (k + 1) = tms y w b but k + (if (k : Int) ≠ but ∧ (thB y w k).testBit b = true then 1 else 0) := rfl
      rw [i32_bit (by omega) (by omega), i32_p1, i32_p1]
      by_cases cb : (k : Int) = but
      · rw [if_neg (fun q => q.1 cb)] at et
        rw [et] at go
        rw [if_pos (by rw [cb])]; exact go
      · rw [if_neg (by rw [i32_eq (by omega) (by omega) (by omega) (by omega)]; exact cb)]
        by_cases ct : (thB y w k).testBit b = true
        · rw [if_pos ⟨cb, ct⟩] at et
          rw [et] at go
          rw [if_pos ct, if_pos (show i32 1 = 1 from rfl)]; exact go
        · rw [if_neg (fun q => ct q.2)] at et
          rw [et] at go
          rw [if_neg ct, if_neg (by decide)]; exact go
    rw [fX2_times_L6, if_neg (by rw [ec, i32_le (by omega) (by omega) (by omega) (by omega)]; omega), x_votedRight hW hX (by omega)]
    by_cases cw : w = 0
    · subst cw
      rw [if_pos (show i32 ((0 : Nat) : Int) = 0 from rfl)]
      exact h44
    · rw [if_neg (by rw [i32_litN 0, i32_eq (by omega) (by omega) (by omega) (by omega)]; omega), gd_ok (by omega) (by omega) (by omega), i32_nat (by omega) (by omega), Int.toNat_natCast, c2, h.2.1]
      rw [Option.bind_some, i32_diff (by omega) (by omega)]
      have : ndiff (jb y k) (rtB y k) = thB y w k := by unfold thB; rw [if_neg cw]
      rw [this]; exact h44
theorem x_times (hFu : 6000 ≤ Fu) (hW : WF y) (hX : RX y beasts meals seats laws inForce tr mh te cases rs ju vo) {w b : Nat} (hw : w ≤ 1) (hb : b < 8) {but : Int} (b1 : -1 ≤ but) (b2 : but ≤ 20) : fX2_times Fu cases rs ju vo (i32 (b : Int)) (i32 (w : Int)) (i32 but) = some (i32 ((tms y w b but (y 11).toNat : Nat) : Int)) := by
  have h11 := hW.2.2.2.2.2.2.1
  exact x_timesL hW hX hw hb b1 b2 (y 11).toNat Fu 0 (by omega) (by omega)
theorem v_rightsL (hM : RM y row) (hW : WF y) {b : Nat} (hb : b < 8) {but : Int} (b1 : -1 ≤ but) (b2 : but ≤ 20) : ∀ (d f k : Nat), (k : Int) + d = y 11 → d < f → fX12_rights_L4 Fu f row (i32 but) (i32 (b : Int)) (i32 ((tms y 0 b but k : Nat) : Int)) (i32 (k : Int)) = some (i32 ((tms y 0 b but (y 11).toNat : Nat) : Int)) := by
  have h11 := hW.2.2.2.2.2.2.1
  intro d
  induction d with
  | zero =>
    intro f k hk hf
    obtain ⟨f, rfl⟩ : ∃ f', f = f' + 1 := ⟨f - 1, by omega⟩
    rw [fX12_rights_L4, gd9 (by decide) (by decide), i32_nn9 (by decide), hM 11 (by omega), if_pos (by rw [i32_le (by omega) (by omega) (by omega) (by omega)]; omega), show (y 11).toNat = k by omega]
  | succ d ih =>
    intro f k hk hf
    obtain ⟨f, rfl⟩ : ∃ f', f = f' + 1 := ⟨f - 1, by omega⟩
    have tl := thB_lt hW (k := k) (by omega) (w := 0)
    have e0 : thB y 0 k = rtB y k := rfl
    rw [fX12_rights_L4, gd9 (by decide) (by decide), i32_nn9 (by decide), hM 11 (by omega), if_neg (by rw [i32_le (by omega) (by omega) (by omega) (by omega)]; omega), v_rightIn hM hW (by omega), ← e0, i32_p1]
    have go := ih f (k + 1) (by omega) (by omega)
    have et : tms y 0 b but (k + 1) = tms y 0 b but k + (if (k : Int) ≠ but ∧ (thB y 0 k).testBit b = true then 1 else 0) := rfl
    by_cases cb : (k : Int) = but
    · rw [if_neg (fun q => q.1 cb)] at et
      rw [et] at go
      rw [if_pos (by rw [cb])]
      rw [i32_litN 0, i32_add]; exact go
    · rw [if_neg (by rw [i32_eq (by omega) (by omega) (by omega) (by omega)]; exact cb)]
      show fX12_rights_L4 Fu f row (i32 but) (i32 (b : Int)) (i32 ((tms y 0 b but k : Nat) : Int) + (i32 ((thB y 0 k : Nat) : Int) >>> (i32 (b : Int) &&& 31) &&& 1)) (i32 ((k + 1 : Nat) : Int)) = _
      rw [i32_bit (by omega) (by omega), i32_add]
      by_cases ct : (thB y 0 k).testBit b = true
      · rw [if_pos ⟨cb, ct⟩] at et
        rw [et] at go
        rw [if_pos ct]; exact go
      · rw [if_neg (fun q => ct q.2)] at et
        rw [et] at go
        rw [if_neg ct]; exact go
theorem v_wrongsL (hM : RM y row) (hW : WF y) {b : Nat} (hb : b < 8) {but : Int} (b1 : -1 ≤ but) (b2 : but ≤ 20) : ∀ (d f k : Nat), (k : Int) + d = y 11 → d < f → fX12_wrongs_L4 Fu f row (i32 but) (i32 (b : Int)) (i32 ((tms y 1 b but k : Nat) : Int)) (i32 (k : Int)) = some (i32 ((tms y 1 b but (y 11).toNat : Nat) : Int)) := by
  have h11 := hW.2.2.2.2.2.2.1
  intro d
  induction d with
  | zero =>
    intro f k hk hf
    obtain ⟨f, rfl⟩ : ∃ f', f = f' + 1 := ⟨f - 1, by omega⟩
    rw [fX12_wrongs_L4, gd9 (by decide) (by decide), i32_nn9 (by decide), hM 11 (by omega), if_pos (by rw [i32_le (by omega) (by omega) (by omega) (by omega)]; omega), show (y 11).toNat = k by omega]
  | succ d ih =>
    intro f k hk hf
    obtain ⟨f, rfl⟩ : ∃ f', f = f' + 1 := ⟨f - 1, by omega⟩
    have h := hW.case (k := k) (by omega)
    have r := rtB_le hW (k := k) (by omega)
    have tl := thB_lt hW (k := k) (by omega) (w := 1)
    have e0 : thB y 1 k = ndiff (jb y k) (rtB y k) := rfl
    rw [fX12_wrongs_L4, gd9 (by decide) (by decide), i32_nn9 (by decide), hM 11 (by omega), if_neg (by rw [i32_le (by omega) (by omega) (by omega) (by omega)]; omega), v_rightIn hM hW (by omega)]
    rw [show (110 : Int32) + 3 * i32 (k : Int) + 1 = i32 ((111 + 3 * k : Nat) : Int) by rw [i32_litN 110, i32_litN 3, i32_litN 1, i32_mul, i32_add, i32_add]; congr 1; omega]
    rw [gd_ok (by omega) (by omega) (by omega), i32_nat (by omega) (by omega), Int.toNat_natCast, hM _ (by omega), h.2.1, i32_p1]
    have go := ih f (k + 1) (by omega) (by omega)
    have et : tms y 1 b but (k + 1) = tms y 1 b but k + (if (k : Int) ≠ but ∧ (thB y 1 k).testBit b = true then 1 else 0) := rfl
    by_cases cb : (k : Int) = but
    · rw [if_neg (fun q => q.1 cb)] at et
      rw [et] at go
      rw [if_pos (by rw [cb])]
      rw [i32_litN 0, i32_add]; exact go
    · rw [if_neg (by rw [i32_eq (by omega) (by omega) (by omega) (by omega)]; exact cb)]
      show fX12_wrongs_L4 Fu f row (i32 but) (i32 (b : Int)) (i32 ((tms y 1 b but k : Nat) : Int) + ((i32 (jb y k : Int) &&& (i32 ((rtB y k : Nat) : Int) ^^^ (-1 : Int32))) >>> (i32 (b : Int) &&& 31) &&& 1)) (i32 ((k + 1 : Nat) : Int)) = _
      rw [i32_diff (by omega) (by omega), ← e0, i32_bit (by omega) (by omega), i32_add]
      by_cases ct : (thB y 1 k).testBit b = true
      · rw [if_pos ⟨cb, ct⟩] at et
        rw [et] at go
        rw [if_pos ct]; exact go
      · rw [if_neg (fun q => ct q.2)] at et
        rw [et] at go
        rw [if_neg ct]; exact go
theorem v_rights (hFu : 6000 ≤ Fu) (hM : RM y row) (hW : WF y) {b : Nat} (hb : b < 8) {but : Int} (b1 : -1 ≤ but) (b2 : but ≤ 20) : fX12_rights Fu row (i32 but) (i32 (b : Int)) = some (i32 ((tms y 0 b but (y 11).toNat : Nat) : Int)) := by
  have h11 := hW.2.2.2.2.2.2.1
  exact v_rightsL hM hW hb b1 b2 (y 11).toNat Fu 0 (by omega) (by omega)
theorem v_wrongs (hFu : 6000 ≤ Fu) (hM : RM y row) (hW : WF y) {b : Nat} (hb : b < 8) {but : Int} (b1 : -1 ≤ but) (b2 : but ≤ 20) : fX12_wrongs Fu row (i32 but) (i32 (b : Int)) = some (i32 ((tms y 1 b but (y 11).toNat : Nat) : Int)) := by
  have h11 := hW.2.2.2.2.2.2.1
  exact v_wrongsL hM hW hb b1 b2 (y 11).toNat Fu 0 (by omega) (by omega)
/-! most right -/
theorem x_mostL (hW : WF y) (hX : RX y beasts meals seats laws inForce tr mh te cases rs ju vo) : ∀ (d f k : Nat), (k : Int) + d = y 11 → d < f → fX2_mostRight_L4 Fu f cases rs ju vo (i32 ((msr y k : Nat) : Int)) (i32 (k : Int)) = some (i32 ((msr y (y 11).toNat : Nat) : Int)) := by
  have h11 := hW.2.2.2.2.2.2.1
  have ec := hX.2.2.2.2.2.2.2.2.1
  intro d
  induction d with
  | zero =>
    intro f k hk hf
    obtain ⟨f, rfl⟩ : ∃ f', f = f' + 1 := ⟨f - 1, by omega⟩
    rw [fX2_mostRight_L4, if_pos (by rw [ec, i32_le (by omega) (by omega) (by omega) (by omega)]; omega), show (y 11).toNat = k by omega]
  | succ d ih =>
    intro f k hk hf
    obtain ⟨f, rfl⟩ : ∃ f', f = f' + 1 := ⟨f - 1, by omega⟩
    have h := hW.case (k := k) (by omega)
    have r := rtB_le hW (k := k) (by omega)
    obtain ⟨c1, c2, c3⟩ := hX.2.2.2.2.2.2.2.2.2 k (by omega)
    have b1 := bcn_le (rtB y k) 8
    have b2 := bcn_le (jb y k) 8
    have e1 : fJ6_bitCount_0f7a4 (i32 ((rtB y k : Nat) : Int)) = some (i32 ((bcn (rtB y k) 8 : Nat) : Int)) := x_bitCount ⟨rtB y k, by omega⟩
    have e2 : fJ6_bitCount_0f7a4 (i32 ((jb y k : Nat) : Int)) = some (i32 ((bcn (jb y k) 8 : Nat) : Int)) := x_bitCount ⟨jb y k, by omega⟩
    rw [fX2_mostRight_L4, if_neg (by rw [ec, i32_le (by omega) (by omega) (by omega) (by omega)]; omega), x_votedRight hW hX (by omega)]
    rw [Option.bind_some, e1, Option.bind_some, gd_ok (by omega) (by omega) (by omega), i32_nat (by omega) (by omega), Int.toNat_natCast, c2, h.2.1, e2, Option.bind_some, i32_p1, i32_p1]
    have go := ih f (k + 1) (by omega) (by omega)
    have et : msr y (k + 1) = msr y k + (if bcn (jb y k) 8 < 2 * bcn (rtB y k) 8 then 1 else 0) := rfl
    by_cases c : bcn (jb y k) 8 < 2 * bcn (rtB y k) 8
    · rw [if_pos c] at et
      rw [et] at go
      rw [if_neg (by rw [i32_litN 2, i32_mul, i32_le (by omega) (by omega) (by omega) (by omega)]; omega)]; exact go
    · rw [if_neg c] at et
      rw [et] at go
      rw [if_pos (by rw [i32_litN 2, i32_mul, i32_le (by omega) (by omega) (by omega) (by omega)]; omega)]; exact go
theorem v_mostL (hFu : 6000 ≤ Fu) (hM : RM y row) (hW : WF y) {th but : Int32} : ∀ (d f k : Nat), (k : Int) + d = y 11 → d < f → fX12_right_L19 Fu f th row but (i32 ((msr y k : Nat) : Int)) (i32 (k : Int)) = some (i32 ((msr y (y 11).toNat : Nat) : Int), th) := by
  have h11 := hW.2.2.2.2.2.2.1
  intro d
  induction d with
  | zero =>
    intro f k hk hf
    obtain ⟨f, rfl⟩ : ∃ f', f = f' + 1 := ⟨f - 1, by omega⟩
    rw [fX12_right_L19, gd9 (by decide) (by decide), i32_nn9 (by decide), hM 11 (by omega), if_pos (by rw [i32_le (by omega) (by omega) (by omega) (by omega)]; omega), show (y 11).toNat = k by omega]
  | succ d ih =>
    intro f k hk hf
    obtain ⟨f, rfl⟩ : ∃ f', f = f' + 1 := ⟨f - 1, by omega⟩
    have h := hW.case (k := k) (by omega)
    have r := rtB_le hW (k := k) (by omega)
    have b1 := bcn_le (rtB y k) 8
    have b2 := bcn_le (jb y k) 8
    rw [fX12_right_L19, gd9 (by decide) (by decide), i32_nn9 (by decide), hM 11 (by omega), if_neg (by rw [i32_le (by omega) (by omega) (by omega) (by omega)]; omega), v_rightIn hM hW (by omega)]
    rw [Option.bind_some, v_bits hFu (by omega), Option.bind_some]
    rw [show (110 : Int32) + 3 * i32 (k : Int) + 1 = i32 ((111 + 3 * k : Nat) : Int) by rw [i32_litN 110, i32_litN 3, i32_litN 1, i32_mul, i32_add, i32_add]; congr 1; omega]
    rw [gd_ok (by omega) (by omega) (by omega), i32_nat (by omega) (by omega), Int.toNat_natCast, hM _ (by omega), h.2.1, v_bits hFu (by omega), Option.bind_some, i32_p1, i32_p1]
    have go := ih f (k + 1) (by omega) (by omega)
    have et : msr y (k + 1) = msr y k + (if bcn (jb y k) 8 < 2 * bcn (rtB y k) 8 then 1 else 0) := rfl
    by_cases c : bcn (jb y k) 8 < 2 * bcn (rtB y k) 8
    · rw [if_pos c] at et
      rw [et] at go
      rw [if_neg (by rw [i32_litN 2, i32_mul, i32_le (by omega) (by omega) (by omega) (by omega)]; omega)]; exact go
    · rw [if_neg c] at et
      rw [et] at go
      rw [if_pos (by rw [i32_litN 2, i32_mul, i32_le (by omega) (by omega) (by omega) (by omega)]; omega)]
      rw [i32_litN 0, i32_add]; exact go
def rightS (y : Nat → Int) (b w : Int) : Int := if b = -1 ∧ w = 0 then (msr y (y 11).toNat : Int) else if (0 ≤ b ∧ b ≤ 7) ∧ (0 ≤ w ∧ w ≤ 1) then (tms y w.toNat b.toNat (-1) (y 11).toNat : Int) else -1
theorem m_right (hFu : 6000 ≤ Fu) (hM : RM y row) (hW : WF y) {th : Int32} {b w : Int} (b1 : -2147483648 ≤ b) (b2 : b ≤ 2147483647) (w1 : -2147483648 ≤ w) (w2 : w ≤ 2147483647) :
    Rt (fX12_right Fu th row (-1 : Int32) (i32 b) (i32 w)) (fun r => r.1 = i32 (rightS y b w)) := by
  have h11 := hW.2.2.2.2.2.2.1
  have h78 : ¬ (b = -1 ∧ w = 0) → Rt (fX12_right_L78 Fu 0 row (-1 : Int32) (i32 b) (i32 w)) (fun r => r.1 = i32 (rightS y b w)) := by
    intro hn
    have eN : ¬ ((0 ≤ b ∧ b ≤ 7) ∧ (0 ≤ w ∧ w ≤ 1)) → rightS y b w = -1 := fun q => by unfold rightS; rw [if_neg hn, if_neg q]
    have eY : ((0 ≤ b ∧ b ≤ 7) ∧ (0 ≤ w ∧ w ≤ 1)) → rightS y b w = (tms y w.toNat b.toNat (-1) (y 11).toNat : Int) := fun q => by unfold rightS; rw [if_neg hn, if_pos q]
    unfold fX12_right_L78
    simp (disch := omega) only [i32_64, i64_lit, v_in]
    refine Rt.eqb rfl ?_
    by_cases cb : 0 ≤ b ∧ b ≤ 7
    · refine Rt.iff (by rw [bI_0]; exact fun q => q cb) (Rt.eqb rfl ?_)
      by_cases cw : 0 ≤ w ∧ w ≤ 1
      · refine Rt.iff (by rw [bI_0]; exact fun q => q cw) ?_
        rw [eY ⟨cb, cw⟩]
        obtain ⟨b, rfl⟩ := Int.eq_ofNat_of_zero_le cb.1
        by_cases c0 : w = 0
        · subst c0
          refine Rt.ift rfl ?_
          have := v_rights hFu hM hW (b := b) (by omega) (but := -1) (by omega) (by omega)
          rw [show (-1 : Int32) = i32 (-1) from rfl, this]
          exact Rt.ret rfl
        · obtain rfl : w = 1 := by omega
          refine Rt.iff (by decide) ?_
          have := v_wrongs hFu hM hW (b := b) (by omega) (but := -1) (by omega) (by omega)
          rw [show (-1 : Int32) = i32 (-1) from rfl, this]
          exact Rt.ret rfl
      · refine Rt.ift (by rw [bI_0]; exact cw) ?_
        rw [eN (fun q => cw q.2)]; exact Rt.ret rfl
    · refine Rt.ift (by rw [bI_0]; exact cb) ?_
      rw [eN (fun q => cb q.1)]; exact Rt.ret rfl
  unfold fX12_right
  by_cases c1 : b = -1
  · refine Rt.ift (by rw [c1]; rfl) ?_
    by_cases c2 : w = 0
    · refine Rt.ift (by rw [c2]; rfl) ?_
      unfold rightS
      rw [if_pos ⟨c1, c2⟩]
      exact Rt.of (v_mostL hFu hM hW (y 11).toNat Fu 0 (by omega) (by omega)) rfl
    · exact Rt.iff (by rw [i32_litN 0, i32_eq (by omega) (by omega) (by omega) (by omega)]; exact c2) (h78 (fun q => c2 q.2))
  · exact Rt.iff (by rw [i32_m1, i32_eq (by omega) (by omega) (by omega) (by omega)]; exact c1) (h78 (fun q => c1 q.1))
theorem c_right (hFu : 6000 ≤ Fu) (hW : WF y) (hX : RX y beasts meals seats laws inForce tr mh te cases rs ju vo) {b w : Int} (b1 : -2147483648 ≤ b) (b2 : b ≤ 2147483647) (w1 : -2147483648 ≤ w) (w2 : w ≤ 2147483647) :
    Rt (fX11_right Fu cases rs ju vo (i32 b) (i32 w)) (fun r => r = i32 (rightS y b w)) := by
  have h11 := hW.2.2.2.2.2.2.1
  have h78 : ¬ (b = -1 ∧ w = 0) → Rt (fX11_right_L20 Fu cases rs ju vo (i32 b) (i32 w)) (fun r => r = i32 (rightS y b w)) := by
    intro hn
    have eN : ¬ ((0 ≤ b ∧ b ≤ 7) ∧ (0 ≤ w ∧ w ≤ 1)) → rightS y b w = -1 := fun q => by unfold rightS; rw [if_neg hn, if_neg q]
    have eY : ((0 ≤ b ∧ b ≤ 7) ∧ (0 ≤ w ∧ w ≤ 1)) → rightS y b w = (tms y w.toNat b.toNat (-1) (y 11).toNat : Int) := fun q => by unfold rightS; rw [if_neg hn, if_pos q]
    unfold fX11_right_L20
    rw [x_isEither w w1 w2]
    by_cases cb : 0 ≤ b ∧ b ≤ 7
    · refine Rt.iff (by rw [i32_litN 0, i32_lt (by omega) (by omega) (by omega) (by omega)]; omega) (Rt.iff (by rw [i32_litN 8, i32_le (by omega) (by omega) (by omega) (by omega)]; omega) (Rt.eqb rfl ?_))
      by_cases cw : 0 ≤ w ∧ w ≤ 1
      · refine Rt.iff (by rw [bI_0]; exact fun q => q cw) ?_
        rw [eY ⟨cb, cw⟩]
        obtain ⟨b, rfl⟩ := Int.eq_ofNat_of_zero_le cb.1
        obtain ⟨w, rfl⟩ := Int.eq_ofNat_of_zero_le cw.1
        have := x_times hFu hW hX (w := w) (b := b) (by omega) (by omega) (but := -1) (by omega) (by omega)
        rw [show (-1 : Int32) = i32 (-1) from rfl, this]
        exact Rt.ret rfl
      · refine Rt.ift (by rw [bI_0]; exact cw) ?_
        rw [eN (fun q => cw q.2)]; exact Rt.ret rfl
    · rw [eN (fun q => cb q.1)]
      refine Rt.ite (fun _ => Rt.ret rfl) (fun c => Rt.ift ?_ (Rt.ret rfl))
      rw [i32_litN 0, i32_lt (by omega) (by omega) (by omega) (by omega)] at c
      rw [i32_litN 8, i32_le (by omega) (by omega) (by omega) (by omega)]
      omega
  unfold fX11_right
  by_cases c1 : b = -1
  · refine Rt.ift (by rw [c1]; rfl) ?_
    by_cases c2 : w = 0
    · refine Rt.ift (by rw [c2]; rfl) ?_
      unfold rightS
      rw [if_pos ⟨c1, c2⟩]
      have : fX2_mostRight Fu cases rs ju vo = some (i32 ((msr y (y 11).toNat : Nat) : Int)) := x_mostL hW hX (y 11).toNat Fu 0 (by omega) (by omega)
      rw [this]; exact Rt.ret rfl
    · exact Rt.iff (by rw [i32_litN 0, i32_eq (by omega) (by omega) (by omega) (by omega)]; exact c2) (h78 (fun q => c2 q.2))
  · exact Rt.iff (by rw [i32_m1, i32_eq (by omega) (by omega) (by omega) (by omega)]; exact c1) (h78 (fun q => c1 q.1))
end CASES
