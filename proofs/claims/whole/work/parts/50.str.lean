/-! ===== the JDK's String over the class's constants ===== -/
set_option maxRecDepth 100000 in
theorem m_coder {G : GT} {b : Nat} {c : Hp} {n i : Nat} (hs : i < 17) : e_C G b yJ0_coder_7d493 cJ0_coder_7d493 1 (some .byte) 0 0 0 [.ref (G.2.2.2.1 i)] c n (pD (some (.int 0)) c n) := e_C.of (by decide) (Nat.le_of_ble_eq_true rfl) (by
  refine E.getsC dJ0_coder_7d493_0 (gT_in 643 (by decide +kernel) rfl) ?_
  refine E.if_eq dJ0_coder_7d493_3 (fun h => absurd h (by decide)) (fun h => ?_)
  refine E.aload_n 0 dJ0_coder_7d493_6 rfl ?_
  refine E.sgetC i hs dJ0_coder_7d493_7 (gT_in 1879 (by decide +kernel) rfl) ?_
  refine E.goto dJ0_coder_7d493_10 ?_
  exact E.zret dJ0_coder_7d493_14 rfl (Nat.le_refl _) (Nat.le_refl _) (pD_rf _ _ _))
set_option maxRecDepth 100000 in
theorem m_isLatin1 {G : GT} {b : Nat} {c : Hp} {n i : Nat} (hs : i < 17) : e_C G b yJ0_isLatin1_aae02 cJ0_isLatin1_aae02 1 (some .boolean) 0 0 0 [.ref (G.2.2.2.1 i)] c n (pD (some (.int 1)) c n) := e_C.of (by decide) (Nat.le_of_ble_eq_true rfl) (by
  refine E.getsC dJ0_isLatin1_aae02_0 (gT_in 643 (by decide +kernel) rfl) ?_
  refine E.if_eq dJ0_isLatin1_aae02_3 (fun h => absurd h (by decide)) (fun h => ?_)
  refine E.aload_n 0 dJ0_isLatin1_aae02_6 rfl ?_
  refine E.sgetC i hs dJ0_isLatin1_aae02_7 (gT_in 1879 (by decide +kernel) rfl) ?_
  refine E.if_ne dJ0_isLatin1_aae02_10 (fun h => absurd rfl h) (fun h => ?_)
  refine E.iconst (v := 1) dJ0_isLatin1_aae02_13 (by decide) ?_
  refine E.goto dJ0_isLatin1_aae02_14 ?_
  exact E.zret dJ0_isLatin1_aae02_18 rfl (Nat.le_refl _) (Nat.le_refl _) (pD_rf _ _ _))
theorem e_kL_sh : ∀ i, i < 17 → (Int32.ofNat (e_kL.getD i 0) >>> ((0 : Int32) &&& 31)) = Int32.ofNat (e_kL.getD i 0) := by decide
set_option maxRecDepth 100000 in
theorem m_length {G : GT} {b : Nat} {c : Hp} {n i : Nat} (hs : i < 17) : e_C G b yJ0_length_8abf5 cJ0_length_8abf5 1 (some .int) 1 0 0 [.ref (G.2.2.2.1 i)] c n (pD (some (.int (Int32.ofNat (e_kL.getD i 0)))) c n) := e_C.of (by decide) (Nat.le_of_ble_eq_true rfl) (by
  refine E.aload_n 0 dJ0_length_8abf5_0 rfl ?_
  refine E.sgetV i hs dJ0_length_8abf5_1 (gT_in 1878 (by decide +kernel) rfl) ?_
  refine E.slen i hs dJ0_length_8abf5_4 ?_
  refine E.aload_n 0 dJ0_length_8abf5_5 rfl ?_
  refine E.callSt [.int (Int32.ofNat (e_kL.getD i 0))] i hs dJ0_length_8abf5_6 mlJ0_335 rfl (m_coder hs) ⟨Nat.le_of_ble_eq_true rfl, Nat.le_of_ble_eq_true rfl⟩ rfl rfl (Nat.le_of_ble_eq_true rfl) ⟨Nat.le_refl _, Nat.le_refl _⟩ rfl ?_
  refine E.ishr dJ0_length_8abf5_9 ?_
  refine E.fold (e_kL_sh i hs) ?_
  exact E.iret dJ0_length_8abf5_10 (Nat.le_refl _) (Nat.le_refl _) (pD_rf _ _ _))
set_option maxRecDepth 100000 in
theorem m_pci {G : GT} {b : Nat} {c : Hp} {n : Nat} {x z : Int32} {v : Value} (hv : v = .null ∨ ∃ t, v = .ref t) (h1 : ¬ x < 0) (h2 : x < z) : e_C G b yJ3_checkIndex_8e157 cJ3_checkIndex_8e157 3 (some .int) 0 0 0 [.int x, .int z, v] c n (pD (some (.int x)) c n) := by
  rcases hv with rfl | ⟨t, rfl⟩ <;> exact e_C.of (by decide) (Nat.le_of_ble_eq_true rfl) (by
    refine E.iload_n 0 dJ3_checkIndex_8e157_0 rfl ?_
    refine E.if_lt dJ3_checkIndex_8e157_1 (fun h => absurd h h1) (fun h => ?_)
    refine E.iload_n 0 dJ3_checkIndex_8e157_4 rfl ?_
    refine E.iload_n 1 dJ3_checkIndex_8e157_5 rfl ?_
    refine E.icmp_lt dJ3_checkIndex_8e157_6 (fun h => ?_) (fun h => absurd h2 h)
    refine E.iload_n 0 dJ3_checkIndex_8e157_16 rfl ?_
    exact E.iret dJ3_checkIndex_8e157_17 (Nat.le_refl _) (Nat.le_refl _) (pD_rf _ _ _))
set_option maxRecDepth 100000 in
theorem m_ci {G : GT} {b : Nat} {c : Hp} {n : Nat} {x z : Int32} (h1 : ¬ x < 0) (h2 : x < z) : e_C G b yJ0_checkIndex_df160 cJ0_checkIndex_df160 2 none 1 0 0 [.int x, .int z] c n (pD none c n) := e_C.of (by decide) (Nat.le_of_ble_eq_true rfl) (by
  refine E.iload_n 0 dJ0_checkIndex_df160_0 rfl ?_
  refine E.iload_n 1 dJ0_checkIndex_df160_1 rfl ?_
  refine E.getsF dJ0_checkIndex_df160_2 (gT_in 659 (by decide +kernel) rfl) (fun v hv => ?_)
  refine E.callSD [] dJ0_checkIndex_df160_5 mlJ0_1059 (m_pci hv h1 h2) ⟨Nat.le_of_ble_eq_true rfl, Nat.le_of_ble_eq_true rfl⟩ rfl rfl (Nat.le_of_ble_eq_true rfl) ⟨Nat.le_refl _, Nat.le_refl _⟩ rfl ?_
  refine E.pop dJ0_checkIndex_df160_8 rfl ?_
  exact E.vret dJ0_checkIndex_df160_9 (Nat.le_refl _) (Nat.le_refl _) (pD_rf _ _ _))
/-- the char at a place -/
def e_ch (i : Nat) (x : Int32) : Int32 := ((((e_kB.getD i []).getD x.toNatClampNeg 0) &&& 255).toUInt32 % 65536).toInt32
theorem e_ch_nar (i : Nat) (x : Int32) : narrow .char (.int (e_ch i x)) = .int (e_ch i x) := pk_nc _
theorem e_kL_in {x : Int32} {N : Nat} (hN : N < 2 ^ 31) (h : vp_in x N) : ¬ x < 0 ∧ x < Int32.ofNat N := by
  refine ⟨fun q => h (Or.inl q), ?_⟩
  obtain ⟨j, hj, rfl⟩ := vp_in_of h hN
  exact nI_lt hj hN
theorem e_kL_small : ∀ i, i < 17 → e_kL.getD i 0 < 2 ^ 31 := by decide
set_option maxRecDepth 100000 in
theorem m_lcharAt {G : GT} {b : Nat} {c : Hp} {n i : Nat} {x : Int32} (hs : i < 17) (hx : vp_in x (e_kL.getD i 0)) : e_C G b yJ1_charAt_3b067 cJ1_charAt_3b067 2 (some .char) 2 0 0 [.ref (G.2.2.2.2 i), .int x] c n (pD (some (.int (e_ch i x))) c n) := e_C.of (by decide) (Nat.le_of_ble_eq_true rfl) (by
  refine E.iload_n 1 dJ1_charAt_3b067_0 rfl ?_
  refine E.aload_n 0 dJ1_charAt_3b067_1 rfl ?_
  refine E.slen i hs dJ1_charAt_3b067_2 ?_
  refine E.callSD [] dJ1_charAt_3b067_3 mlJ1_9 (m_ci (e_kL_in (e_kL_small i hs) hx).1 (e_kL_in (e_kL_small i hs) hx).2) ⟨Nat.le_of_ble_eq_true rfl, Nat.le_of_ble_eq_true rfl⟩ rfl rfl (Nat.le_of_ble_eq_true rfl) ⟨Nat.le_refl _, Nat.le_refl _⟩ rfl ?_
  refine E.aload_n 0 dJ1_charAt_3b067_6 rfl ?_
  refine E.iload_n 1 dJ1_charAt_3b067_7 rfl ?_
  refine E.sb i hs dJ1_charAt_3b067_8 hx ?_
  refine E.sipush (v := 255) dJ1_charAt_3b067_9 (by decide) ?_
  refine E.iand dJ1_charAt_3b067_12 ?_
  refine E.i2c dJ1_charAt_3b067_13 ?_
  exact E.zret dJ1_charAt_3b067_14 (e_ch_nar i x) (Nat.le_refl _) (Nat.le_refl _) (pD_rf _ _ _))
set_option maxRecDepth 100000 in
theorem m_charAt {G : GT} {b : Nat} {c : Hp} {n i : Nat} {x : Int32} (hs : i < 17) (hx : vp_in x (e_kL.getD i 0)) : e_C G b yJ0_charAt_5068e cJ0_charAt_5068e 2 (some .char) 3 0 0 [.ref (G.2.2.2.1 i), .int x] c n (pD (some (.int (e_ch i x))) c n) := e_C.of (by decide) (Nat.le_of_ble_eq_true rfl) (by
  refine E.aload_n 0 dJ0_charAt_5068e_0 rfl ?_
  refine E.callSt [] i hs dJ0_charAt_5068e_1 mlJ0_492 rfl (m_isLatin1 hs) ⟨Nat.le_of_ble_eq_true rfl, Nat.le_of_ble_eq_true rfl⟩ rfl rfl (Nat.le_of_ble_eq_true rfl) ⟨Nat.le_refl _, Nat.le_refl _⟩ rfl ?_
  refine E.if_eq dJ0_charAt_5068e_4 (fun h => absurd h (by decide)) (fun h => ?_)
  refine E.aload_n 0 dJ0_charAt_5068e_7 rfl ?_
  refine E.sgetV i hs dJ0_charAt_5068e_8 (gT_in 1878 (by decide +kernel) rfl) ?_
  refine E.iload_n 1 dJ0_charAt_5068e_11 rfl ?_
  refine E.callSD [] dJ0_charAt_5068e_12 mlJ0_495 (m_lcharAt hs hx) ⟨Nat.le_of_ble_eq_true rfl, Nat.le_of_ble_eq_true rfl⟩ rfl rfl (Nat.le_of_ble_eq_true rfl) ⟨Nat.le_refl _, Nat.le_refl _⟩ rfl ?_
  exact E.zret dJ0_charAt_5068e_15 (e_ch_nar i x) (Nat.le_refl _) (Nat.le_refl _) (pD_rf _ _ _))
