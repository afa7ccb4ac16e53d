/-! ===== what the functions of the class are made of besides ===== -/
def gq {α : Type} (x v : Option Nat) (k : Option α) : Option α := if x = v then k else none
theorem gq_some {α : Type} {x v : Option Nat} {k : Option α} {r : α} (h : gq x v k = some r) : x = v ∧ k = some r := by
  unfold gq at h
  by_cases h1 : x = v
  · rw [if_pos h1] at h; exact ⟨h1, h⟩
  · rw [if_neg h1] at h; cases h
theorem gq_in {α : Type} {x v : Option Nat} {k : Option α} (h : x = v) : gq x v k = k := if_pos h
/-- a law stands there, outside a world -/
def e_Lw (b n : Nat) (kz : List Nat) (c0 : Hp) (a : Nat) : Prop := ∃ (q : Nat) (fs : List Value), a = b + q ∧ q < n ∧ q ∉ kz ∧ c0 q = .inr (5, fs)
theorem e_Lw.is {b n : Nat} {kz : List Nat} {es : List va_E} {c0 : Hp} {a : Nat} (h : e_Lw b n kz c0 a) : e_is b n (e_ov kz es c0) 5 a := by
  obtain ⟨q, fs, h1, h2, h3, h4⟩ := h
  exact ⟨q, fs, h1, h2, by rw [e_ov_out h3]; exact h4⟩
def e_Qs (b n : Nat) (kz : List Nat) (c0 : Hp) (f : Nat → Option Nat) : Prop := ∀ j a, f j = some a → e_Lw b n kz c0 a
theorem e_Qs.pick {b n : Nat} {kz ks0 : List Nat} {es : List va_E} {c0 : Hp} {f : Nat → Option Nat} (h : e_Qs b n kz c0 f) (ps : List Nat) (hks : ps.map (fun i => kz[i]?) = ks0.map some) : e_Qs b n ks0 (e_ov kz es c0) f := by
  intro j a hj
  obtain ⟨q, fs, h1, h2, h3, h4⟩ := h j a hj
  refine ⟨q, fs, h1, h2, fun hq => h3 ?_, by rw [e_ov_out h3]; exact h4⟩
  have : some q ∈ ps.map (fun i => kz[i]?) := by rw [hks]; exact List.mem_map.mpr ⟨q, hq, rfl⟩
  obtain ⟨i, -, hi⟩ := List.mem_map.mp this
  exact List.mem_of_getElem? hi
def e_imQ (b : Nat) : Nat → Option Nat := va_up (va_up (fun _ => none) 0 (some (b + 11))) 1 (some (b + 20))
def e_tlQ (b : Nat) : Nat → Option Nat := va_up (va_up (va_up (va_up (va_up (va_up (va_up (va_up (fun _ => none) 0 (some (b + 51))) 1 (some (b + 53))) 2 (some (b + 55))) 3 (some (b + 57))) 4 (some (b + 59))) 5 (some (b + 61))) 6 (some (b + 63))) 7 (some (b + 65))
/-! Math -/
def e_mm (own : String) (index : Nat) (x : MethodName) (cc : ByteArray) (nl : Nat) (ret : Option FieldType) : Prop := Cond.methodLink own index x ∈ gT ∧ Cond.static x ∈ gT ∧ Cond.initialized "java/lang/Math" ∈ gT ∧ Cond.code x cc nl ret ∈ gT
section EMM
variable {G : GT} {b : Nat} {y : MethodName} {cc : ByteArray} {nL : Nat} {ret : Option FieldType} {R : Room} {Ex : e_XT} {Z : e_ZT} {pc pc' : Nat} {lv : List (Nat × Value)} {st : List Value} {c : Hp} {n index : Nat} {kc ks : Nat}
theorem E.mmax {x z : Int32} (hd : decode cc pc = .ok (.invokestatic index, 3) ∧ pc + 3 = pc') (hm : e_mm y.cls index Lib.Math.max.name Lib.Math.max.code 2 (some .int)) (hR : 1 ≤ R.frames ∧ (st.map fun v => v.category).sum + 13 ≤ R.locals) (hf : kc ≤ R.cells ∧ ks ≤ R.slots) (k : E G b y cc nL ret R Ex Z pc' lv (.int (if x < z then z else x) :: st) c n kc ks) : E G b y cc nL ret R Ex Z pc lv (.int z :: .int x :: st) c n kc ks := by
  intro p l e s m args below meth cd H locs ls hc hS hH hl
  obtain ⟨hd, rfl⟩ := hd
  have hts := hc.2.2.2.2.2.1
  exact va_mmax hc.1 hc.2.1 (by rw [hc.2.2.2.1]; exact hl.1.symm) hc.2.2.2.2.1 (hts _ hm.1) (hts _ hm.2.1) (hts _ hm.2.2.1) (hts _ hm.2.2.2) hR.1 hR.2 hf.1 hf.2 hd (k p l e s m args below meth cd H locs ls hc hS hH hl)
theorem E.mmin {x z : Int32} (hd : decode cc pc = .ok (.invokestatic index, 3) ∧ pc + 3 = pc') (hm : e_mm y.cls index Lib.Math.min.name Lib.Math.min.code 2 (some .int)) (hR : 1 ≤ R.frames ∧ (st.map fun v => v.category).sum + 13 ≤ R.locals) (hf : kc ≤ R.cells ∧ ks ≤ R.slots) (k : E G b y cc nL ret R Ex Z pc' lv (.int (if z < x then z else x) :: st) c n kc ks) : E G b y cc nL ret R Ex Z pc lv (.int z :: .int x :: st) c n kc ks := by
  intro p l e s m args below meth cd H locs ls hc hS hH hl
  obtain ⟨hd, rfl⟩ := hd
  have hts := hc.2.2.2.2.2.1
  exact va_mmin hc.1 hc.2.1 (by rw [hc.2.2.2.1]; exact hl.1.symm) hc.2.2.2.2.1 (hts _ hm.1) (hts _ hm.2.1) (hts _ hm.2.2.1) (hts _ hm.2.2.2) hR.1 hR.2 hf.1 hf.2 hd (k p l e s m args below meth cd H locs ls hc hS hH hl)
theorem E.mmax_long {x z : Int64} (hd : decode cc pc = .ok (.invokestatic index, 3) ∧ pc + 3 = pc') (hm : e_mm y.cls index Lib.MathLoose.max_long.x Lib.MathLoose.max_long.code 4 (some .long)) (hR : 1 ≤ R.frames ∧ (st.map fun v => v.category).sum + 15 ≤ R.locals) (hf : kc ≤ R.cells ∧ ks ≤ R.slots) (k : E G b y cc nL ret R Ex Z pc' lv (.long (if z < x then x else z) :: st) c n kc ks) : E G b y cc nL ret R Ex Z pc lv (.long z :: .long x :: st) c n kc ks := by
  intro p l e s m args below meth cd H locs ls hc hS hH hl
  obtain ⟨hd, rfl⟩ := hd
  have hts := hc.2.2.2.2.2.1
  exact va_mmax_long hc.1 hc.2.1 (by rw [hc.2.2.2.1]; exact hl.1.symm) hc.2.2.2.2.1 (hts _ hm.1) (hts _ hm.2.1) (hts _ hm.2.2.1) (hts _ hm.2.2.2) hR.1 hR.2 hf.1 hf.2 hd (k p l e s m args below meth cd H locs ls hc hS hH hl)
theorem E.mmin_long {x z : Int64} (hd : decode cc pc = .ok (.invokestatic index, 3) ∧ pc + 3 = pc') (hm : e_mm y.cls index Lib.MathLoose.min_long.x Lib.MathLoose.min_long.code 4 (some .long)) (hR : 1 ≤ R.frames ∧ (st.map fun v => v.category).sum + 15 ≤ R.locals) (hf : kc ≤ R.cells ∧ ks ≤ R.slots) (k : E G b y cc nL ret R Ex Z pc' lv (.long (if z < x then z else x) :: st) c n kc ks) : E G b y cc nL ret R Ex Z pc lv (.long z :: .long x :: st) c n kc ks := by
  intro p l e s m args below meth cd H locs ls hc hS hH hl
  obtain ⟨hd, rfl⟩ := hd
  have hts := hc.2.2.2.2.2.1
  exact va_mmin_long hc.1 hc.2.1 (by rw [hc.2.2.2.1]; exact hl.1.symm) hc.2.2.2.2.1 (hts _ hm.1) (hts _ hm.2.1) (hts _ hm.2.2.1) (hts _ hm.2.2.2) hR.1 hR.2 hf.1 hf.2 hd (k p l e s m args below meth cd H locs ls hc hS hH hl)
theorem E.mabs_long {x : Int64} (hd : decode cc pc = .ok (.invokestatic index, 3) ∧ pc + 3 = pc') (hm : e_mm y.cls index Lib.MathLoose.abs_long.x Lib.MathLoose.abs_long.code 2 (some .long)) (hR : 1 ≤ R.frames ∧ (st.map fun v => v.category).sum + 13 ≤ R.locals) (hf : kc ≤ R.cells ∧ ks ≤ R.slots) (k : E G b y cc nL ret R Ex Z pc' lv (.long (if 0 < x then x else -x) :: st) c n kc ks) : E G b y cc nL ret R Ex Z pc lv (.long x :: st) c n kc ks := by
  intro p l e s m args below meth cd H locs ls hc hS hH hl
  obtain ⟨hd, rfl⟩ := hd
  have hts := hc.2.2.2.2.2.1
  exact va_mabs_long hc.1 hc.2.1 (by rw [hc.2.2.2.1]; exact hl.1.symm) hc.2.2.2.2.1 (hts _ hm.1) (hts _ hm.2.1) (hts _ hm.2.2.1) (hts _ hm.2.2.2) hR.1 hR.2 hf.1 hf.2 hd (k p l e s m args below meth cd H locs ls hc hS hH hl)
end EMM
