/-! ===== bits of words that are naturals ===== -/
theorem i32_bv (a : Nat) : (i32 (a : Int)).toBitVec = BitVec.ofNat 32 a := by
  show (Int32.ofInt (a : Int)).toBitVec = _
  rw [Int32.toBitVec_ofInt, BitVec.ofInt_natCast]
theorem i32_and (a b : Nat) : i32 (a : Int) &&& i32 (b : Int) = i32 ((a &&& b : Nat) : Int) := by
  rw [← Int32.toBitVec_inj, Int32.toBitVec_and, i32_bv, i32_bv, i32_bv, BitVec.ofNat_and]
theorem i32_or (a b : Nat) : i32 (a : Int) ||| i32 (b : Int) = i32 ((a ||| b : Nat) : Int) := by
  rw [← Int32.toBitVec_inj, Int32.toBitVec_or, i32_bv, i32_bv, i32_bv, BitVec.ofNat_or]
theorem i32_smod {k : Nat} (h : k < 32) : (BitVec.ofNat 32 k).smod 32 = BitVec.ofNat 32 k := by
  have : ∀ k : Fin 32, (BitVec.ofNat 32 k.val).smod 32 = BitVec.ofNat 32 k.val := by decide
  exact this ⟨k, h⟩
theorem i32_shr {a k : Nat} (ha : a < 2147483648) (h : k < 32) : i32 (a : Int) >>> i32 (k : Int) = i32 ((a >>> k : Nat) : Int) := by
  rw [← Int32.toBitVec_inj, Int32.toBitVec_shiftRight, i32_bv, i32_bv, i32_bv, i32_smod h]
  show (BitVec.ofNat 32 a).sshiftRight (BitVec.ofNat 32 k).toNat = _
  rw [BitVec.sshiftRight_eq_of_msb_false]
  · apply BitVec.eq_of_toNat_eq
    rw [BitVec.toNat_ushiftRight]
    simp only [BitVec.toNat_ofNat]
    rw [Nat.mod_eq_of_lt (a := k) (by omega), Nat.mod_eq_of_lt (a := a) (by omega), Nat.mod_eq_of_lt]
    exact Nat.lt_of_le_of_lt (Nat.shiftRight_le a k) (by omega)
  · rw [BitVec.msb_eq_decide]
    simp only [BitVec.toNat_ofNat]
    rw [Nat.mod_eq_of_lt (a := a) (by omega)]
    simp; omega
theorem i32_shl {a k : Nat} (h : k < 32) : i32 (a : Int) <<< i32 (k : Int) = i32 ((a * 2 ^ k : Nat) : Int) := by
  rw [← Int32.toBitVec_inj, Int32.toBitVec_shiftLeft, i32_bv, i32_bv, i32_bv, i32_smod h]
  show (BitVec.ofNat 32 a) <<< (BitVec.ofNat 32 k).toNat = _
  apply BitVec.eq_of_toNat_eq
  rw [BitVec.toNat_shiftLeft]
  simp only [BitVec.toNat_ofNat]
  rw [Nat.mod_eq_of_lt (a := k) (by omega), Nat.shiftLeft_eq]
  simp
theorem i32_31 {k : Nat} (h : k < 32) : i32 (k : Int) &&& 31 = i32 (k : Int) := by
  rw [i32_litN 31, i32_and, show (31 : Nat) = 2 ^ 5 - 1 from rfl, Nat.and_two_pow_sub_one_eq_mod, Nat.mod_eq_of_lt h]
/-- the bit of a set, as the programs ask it -/
theorem i32_bit {s k : Nat} (ha : s < 2147483648) (h : k < 32) : (i32 (s : Int) >>> (i32 (k : Int) &&& 31)) &&& 1 = i32 (if s.testBit k then 1 else 0) := by
  rw [i32_31 h, i32_shr ha h, i32_litN 1, i32_and, Nat.and_one_is_mod]
  congr 1
  rw [Nat.testBit_eq_decide_div_mod_eq, Nat.shiftRight_eq_div_pow]
  by_cases e : s / 2 ^ k % 2 = 1
  · simp [e]
  · have : s / 2 ^ k % 2 = 0 := by omega
    simp [this]
theorem i32_nn (x s : Int32) : (x &&& (s ^^^ (-1 : Int32)) = 0) ↔ x &&& s = x := by
  rw [← Int32.toBitVec_inj, ← Int32.toBitVec_inj, Int32.toBitVec_and, Int32.toBitVec_and, Int32.toBitVec_xor]
  have e1 : (-1 : Int32).toBitVec = BitVec.allOnes 32 := by decide
  have e0 : (0 : Int32).toBitVec = 0#32 := rfl
  rw [e1, e0, BitVec.xor_allOnes]
  constructor
  · intro h
    apply BitVec.eq_of_getLsbD_eq
    intro i hi
    have := congrArg (fun v => v.getLsbD i) h
    simp [hi] at this
    simp only [BitVec.getLsbD_and]
    rw [BitVec.getLsbD_eq_getElem hi, BitVec.getLsbD_eq_getElem hi]
    cases hx : x.toBitVec[i]
    · rfl
    · simp [this hx]
  · intro h
    apply BitVec.eq_of_getLsbD_eq
    intro i hi
    have := congrArg (fun v => v.getLsbD i) h
    simp at this
    simp [hi]
    exact this
theorem i32_sub_of {x : Int32} {s : Nat} (hs : s < 2147483648) (h : x &&& i32 (s : Int) = x) : ∃ a : Nat, a ≤ s ∧ a &&& s = a ∧ x = i32 (a : Int) := by
  rw [← Int32.toBitVec_inj, Int32.toBitVec_and, i32_bv] at h
  have h2 := congrArg BitVec.toNat h
  rw [BitVec.toNat_and, BitVec.toNat_ofNat, Nat.mod_eq_of_lt (by omega)] at h2
  refine ⟨x.toBitVec.toNat, ?_, h2, ?_⟩
  · rw [← h2]; exact Nat.and_le_right
  · rw [← Int32.toBitVec_inj, i32_bv]
    simp
theorem i32_andn (a s : Nat) (ha : a < 2147483648) (hs : s < 2147483648) : (i32 (a : Int) &&& (i32 (s : Int) ^^^ (-1 : Int32)) = 0) ↔ a &&& s = a := by
  rw [i32_nn, i32_and, i32_eq]
  · omega
  · omega
  · have : a &&& s ≤ a := Nat.and_le_left
    omega
  · omega
  · omega
/-- one set without another -/
def ndiff (a s : Nat) : Nat := a ^^^ (a &&& s)
theorem ndiff_bit (a s k : Nat) : (ndiff a s).testBit k = (a.testBit k && !s.testBit k) := by
  unfold ndiff
  rw [Nat.testBit_xor, Nat.testBit_and]
  cases a.testBit k <;> cases s.testBit k <;> rfl
theorem ndiff_le (a s : Nat) : ndiff a s ≤ a := by
  apply Nat.le_of_testBit
  intro i h
  rw [ndiff_bit] at h
  simp at h
  exact h.1
theorem i32_diff {a s : Nat} (ha : a < 2147483648) (hs : s < 2147483648) : i32 (a : Int) &&& (i32 (s : Int) ^^^ (-1 : Int32)) = i32 (ndiff a s : Nat) := by
  rw [← Int32.toBitVec_inj, Int32.toBitVec_and, Int32.toBitVec_xor]
  have e1 : (-1 : Int32).toBitVec = BitVec.allOnes 32 := by decide
  rw [e1, BitVec.xor_allOnes, i32_bv, i32_bv, i32_bv]
  apply BitVec.eq_of_getLsbD_eq
  intro i hi
  rw [BitVec.getLsbD_and, BitVec.getLsbD_not]
  simp only [BitVec.getLsbD_ofNat, ndiff_bit, hi, decide_true, Bool.true_and]
