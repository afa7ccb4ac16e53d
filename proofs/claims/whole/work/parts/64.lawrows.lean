/-! THE CLAIM OUT OF ONE WALK OF THE LAW'S BODY. Your part is whole_start (and what it stands on); all else here is the same for every law, but numbers. -/
def R_law : String := "YardCourtLaw"
def lw_P (b : Addr) (xs : List Int32) (args : Array Value) (s : State) : Prop := args = #[.ref b] ∧ s.IntsAt b xs ∧ xs.length ≤ 3072 ∧ (Jvm.Cond.and given_1 narrow_1).before args s = true
def lw_Q (_ : Array Value) (s : State) (o : Outcome) (t : State) : Prop := o = .returned (some (.int 1)) ∧ Framed s o t [] 600000 7302250
def lw_Z (below : List Frame) (a : Array Value) (s : State) : State → Prop := fun t => ∃ o, t.status = .running ∧ Ended t below o ∧ lw_Q a s o t
/-- the law's own end, with 1 on the stack, nothing written that was there before, its room as the claim has it -/
theorem lw_ret {p : Program} {l : Launch} {e : Env} {s : State} {m : MethodId} {below : List Frame} {meth : Method} {c : Code} {b : Nat} (hx : p.tables.exec = Jvm.exec) (hb : c.code = code) (hr : meth.sig.returnType = ret) (hlocks : meth.locks = false) {pc : Nat} {H : Heap} {ls : Array Slot} (hdg : decode code pc = .ok (.ireturn, 1)) : W p l e room_1 s m #[Value.ref b] below meth c H [] 600000 7302250 (lw_Z below #[Value.ref b] s) (F0 m pc ls [.int 1]) := by
  intro T hT X
  obtain ⟨fs, hret, hrun, hended, hW, hframe⟩ := X.leave (v := some (.int 1)) (hlocks := hlocks) (fun h => by rw [hr] at h; cases h)
  have hmeth' : T.vm.method? m = some meth := X.method'
  refine ⟨T.setFrames fs, ?_, .returned (some (.int 1)), hrun, hended, rfl, ⟨_, rfl⟩, hW, hframe⟩
  jvm_step X.here [X.here.top, hx, hb, hdg, hmeth', hr, ret, narrow_b1]
  (try refine ⟨rfl, ?_⟩); (try refine ⟨rfl, ?_⟩)
  first | (intro acts; rw [hret _ acts rfl rfl rfl]) | rw [hret _ _ rfl rfl rfl]
  exact Steps.refl _
/-- what holds at the law's entry: the machine, the code, the tables' words (any of lw_tbl by 'hts w (by decide +kernel)'), the script of L ints xs at the cell b, what the Statement gives of the start (any of its parts by flat_of_before) -/
def lw_At (p : Program) (s : State) (m : MethodId) (meth : Method) (c : Code) (b L : Nat) (xs : Nat → Int32) : Prop :=
  p.tables.exec = Jvm.exec ∧ c.code = code ∧ meth.sig.returnType = ret ∧ c.maxLocals = 4 ∧ s.vm.findClass R_law = some m.cls ∧ (∀ w ∈ lw_tbl, w.before #[Value.ref b] s = true) ∧ va_X b L xs s s.heap ∧ b < s.heap.size ∧ meth.locks = false ∧ (Jvm.Cond.and given_1 narrow_1).before #[Value.ref b] s = true
/-! rows for the law's own script and its end -/
def e_XL (b bs L : Nat) (xs : Nat → Int32) : e_XT := fun args s => args = #[Value.ref bs] ∧ va_X bs L xs s s.heap ∧ bs < b ∧ b = s.heap.size
def e_ZL : e_ZT := fun below args s => lw_Z below args s
section ELAW
variable {G : GT} {b bs L : Nat} {xs : Nat → Int32} {y : MethodName} {cc : ByteArray} {nL : Nat} {ret0 : Option FieldType} {R : Room} {Z : e_ZT} {pc pc' : Nat} {lv : List (Nat × Value)} {st : List Value} {c : Hp} {n kc ks : Nat}
theorem E.sld {i : Int32} (hd : decode cc pc = .ok (.iaload, 1) ∧ pc + 1 = pc') (hin : vp_in i L) (k : E G b y cc nL ret0 R (e_XL b bs L xs) Z pc' lv (.int (xs i.toNatClampNeg) :: st) c n kc ks) : E G b y cc nL ret0 R (e_XL b bs L xs) Z pc lv (.int i :: .ref bs :: st) c n kc ks := by
  intro p l e s m args below meth cd H locs ls hc hS hH hl
  obtain ⟨hd, rfl⟩ := hd
  obtain ⟨h1, h2, h3, h4⟩ := hc.2.2.2.2.2.2.2.2.2.2
  exact va_sld hc.1 hc.2.1 h2 (by rw [← h4]; exact h3) (Nat.not_le.mpr h3) hS hin hd (k p l e s m args below meth cd H locs ls hc hS hH hl)
theorem E.slenL (hd : decode cc pc = .ok (.arraylength, 1) ∧ pc + 1 = pc') (k : E G b y cc nL ret0 R (e_XL b bs L xs) Z pc' lv (.int (Int32.ofNat L) :: st) c n kc ks) : E G b y cc nL ret0 R (e_XL b bs L xs) Z pc lv (.ref bs :: st) c n kc ks := by
  intro p l e s m args below meth cd H locs ls hc hS hH hl
  obtain ⟨hd, rfl⟩ := hd
  obtain ⟨h1, h2, h3, h4⟩ := hc.2.2.2.2.2.2.2.2.2.2
  exact va_slen hc.1 hc.2.1 h2 (by rw [← h4]; exact h3) (Nat.not_le.mpr h3) hS hd (k p l e s m args below meth cd H locs ls hc hS hH hl)
theorem E.done (hd : decode code pc = .ok (.ireturn, 1)) (h1 : kc ≤ 600000) (h2 : ks ≤ 7302250) : E G b x code 4 ret room_1 (e_XL b bs L xs) e_ZL pc lv [.int 1] c n kc ks := by
  intro p l e s m args below meth cd H locs ls hc hS hH hl
  obtain ⟨rfl, h3, h4, h5⟩ := hc.2.2.2.2.2.2.2.2.2.2
  refine va_forget (fun q hq => by rw [← h5]; exact hS.2.2 q hq) ?_
  refine W.widen (k := 600000) (n := 7302250) h1 h2 ?_
  exact lw_ret hc.1 hc.2.1 hc.2.2.1 hc.2.2.2.2.2.2.1 hd
end ELAW
