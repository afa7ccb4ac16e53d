/-! ===== what the cells hold ===== -/
def HAS (ks : List Nat) (es : List va_E) (c : Hp) : Prop := ∀ (p k : Nat) (e : va_E), ks[p]? = some k → es[p]? = some e → c k = e
theorem HAS.ov {ks : List Nat} : ∀ {es : List va_E} {c : Hp}, HAS ks es c → e_ov ks es c = c := by
  induction ks with
  | nil => intro es c _; rfl
  | cons k ks ih =>
    intro es c h
    cases es with
    | nil => rfl
    | cons e es =>
      have ht : HAS ks es c := fun p k' e' h1 h2 => h (p + 1) k' e' h1 h2
      have h0 : c k = e := h 0 k e rfl rfl
      funext j
      show e_up (e_ov ks es c) k e j = c j
      rw [ih ht]
      by_cases hj : j = k
      · subst hj; rw [e_up_self, h0]
      · rw [e_up_ne hj]
theorem HAS.of {ks : List Nat} {es : List va_E} {c : Hp} (hn : ks.Nodup) : HAS ks es (e_ov ks es c) := fun _ _ _ h1 h2 => e_ov_get hn h1 h2
theorem HAS.out {ks ks' : List Nat} {es es' : List va_E} {c : Hp} (h : HAS ks es c) (hd : ∀ k, k ∈ ks → k ∉ ks') : HAS ks es (e_ov ks' es' c) := fun p k e h1 h2 => by
  rw [e_ov_out (hd k (List.mem_of_getElem? h1))]; exact h p k e h1 h2
theorem e_ov_cat {ks ks' : List Nat} {es' : List va_E} {c : Hp} : ∀ {es : List va_E}, es.length = ks.length → e_ov (ks ++ ks') (es ++ es') c = e_ov ks es (e_ov ks' es' c) := by
  induction ks with
  | nil =>
    intro es h
    cases es with
    | nil => rfl
    | cons e es => cases h
  | cons k ks ih =>
    intro es h
    cases es with
    | nil => cases h
    | cons e es =>
      show e_up (e_ov (ks ++ ks') (es ++ es') c) k e = e_up (e_ov ks es (e_ov ks' es' c)) k e
      rw [ih (Nat.succ.inj h)]
theorem HAS.app {ks ks' : List Nat} {es es' : List va_E} {c : Hp} (h1 : HAS ks es c) (h2 : HAS ks' es' c) (hl : es.length = ks.length) : HAS (ks ++ ks') (es ++ es') c := by
  intro p k e g1 g2
  by_cases h : p < ks.length
  · rw [List.getElem?_append_left h] at g1
    rw [List.getElem?_append_left (by omega)] at g2
    exact h1 p k e g1 g2
  · rw [List.getElem?_append_right (by omega)] at g1
    rw [List.getElem?_append_right (by omega), hl] at g2
    exact h2 _ k e g1 g2
theorem HAS.sub {kF : List Nat} {wF : List va_E} {c : Hp} (hc : HAS kF wF c) (hn : kF.Nodup) (ps : List Nat) {ks0 : List Nat} {es0 : List va_E} (hks : ps.map (fun i => kF[i]?) = ks0.map some) (hes : ps.map (fun i => wF[i]?) = es0.map some) : e_ov ks0 es0 c = c := by
  have := e_ov_sub (c := c) hn ps hks hes
  rw [hc.ov] at this; exact this
theorem HAS.back {kF : List Nat} {wF wF' : List va_E} {c : Hp} (hc : HAS kF wF c) (hn : kF.Nodup) (hl : wF.length = kF.length) (ps : List Nat) {ks0 : List Nat} {es1 : List va_E} (hks : ps.map (fun i => kF[i]?) = ks0.map some) (hes : e_mix 0 wF ps es1 = wF') : e_ov ks0 es1 c = e_ov kF wF' c := by
  have := e_ov_back (c := c) hn hl ps (ks0 := ks0) (es1 := es1) hks
  rw [hc.ov, e_sets_mix, hes] at this; exact this
theorem pick_nodup {ks ks0 : List Nat} (hn : ks.Nodup) (ps : List Nat) (hp : ps.Nodup) (hks : ps.map (fun i => ks[i]?) = ks0.map some) : ks0.Nodup := by
  have h1 : (ps.map (fun i => ks[i]?)).Pairwise (· ≠ ·) := by
    rw [List.pairwise_map]
    refine List.Pairwise.imp_of_mem ?_ hp
    intro i j hi hj hij h
    have hi2 : ks[i]? ∈ ks0.map some := by rw [← hks]; exact List.mem_map_of_mem (f := fun i => ks[i]?) hi
    obtain ⟨v, _, hv⟩ := List.mem_map.mp hi2
    have e1 : ks[i]? = some v := hv.symm
    have e2 : ks[j]? = some v := by rw [← h]; exact e1
    obtain ⟨l1, g1⟩ := List.getElem?_eq_some_iff.mp e1
    obtain ⟨l2, g2⟩ := List.getElem?_eq_some_iff.mp e2
    have hne := List.pairwise_iff_getElem.mp hn
    rcases Nat.lt_trichotomy i j with h3 | h3 | h3
    · exact hne i j l1 l2 h3 (g1.trans g2.symm)
    · exact hij h3
    · exact hne j i l2 l1 h3 (g2.trans g1.symm)
  rw [hks, List.pairwise_map] at h1
  exact h1.imp (fun h e => h (congrArg some e))
