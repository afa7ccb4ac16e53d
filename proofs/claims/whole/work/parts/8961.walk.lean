/-! ===== the first state ===== -/
def i0_xi : Nat → Int32 := fun k => ([(-1 : Int32), 0, 0, 0, 0, 0, 0, (-1 : Int32), 0, 0, 0, 0, 0, (-1 : Int32), 0, 0, 0, 0, 0, (-1 : Int32), 0, 0, 0, 0, 0, 0, 0, 0, 0, 1, 0, 0, 0, 0, 0, 0, 0, 0, 0, 0, 0, 0, 0, 0, 0, 0, 0, 0, 0, 0, 0, 0] : List Int32).getD k 0
def i0_xj : Nat → Int64 := fun k => ([0, 0, 0, 1] : List Int64).getD k 0
def i0_xa : Nat → (Nat → Int32) := fun k => ([(fun _ => 0), (fun _ => 0), (fun j => (e_sX 0).getD j 0), (fun _ => 0), (fun _ => 0), (fun _ => 0), (fun _ => 0), (fun _ => 0), (fun j => (e_sX 0).getD j 0), (fun _ => 0), (fun _ => 0), (fun _ => 0), (fun _ => 0), (fun _ => 0), (fun j => (e_sX 0).getD j 0), (fun _ => 0), (fun _ => 0), (fun _ => 0), (fun _ => 0), (fun _ => 0), (fun _ => 0), (fun _ => 0), (fun _ => 0), (fun _ => 0), (fun _ => 0), (fun _ => 0), (fun _ => 0), (fun _ => 0), (fun _ => 0), (fun _ => 0), (fun _ => 0), (fun _ => 0), (fun _ => 0), (fun _ => 0), (fun _ => 0)] : List (Nat → Int32)).getD k (fun _ => 0)
def i0_xb : Nat → (Nat → Int64) := fun k => ([(fun _ => 0), (va_up (fun _ => 0) (0 : Int32).toNatClampNeg 1), (fun _ => 0), (va_up (fun _ => 0) (0 : Int32).toNatClampNeg 1), (va_up (fun _ => 0) (0 : Int32).toNatClampNeg 1), (va_up (fun _ => 0) (0 : Int32).toNatClampNeg 1), (va_up (fun _ => 0) (0 : Int32).toNatClampNeg 1), (va_up (fun _ => 0) (0 : Int32).toNatClampNeg 1), (va_up (fun _ => 0) (0 : Int32).toNatClampNeg 1), (va_up (fun _ => 0) (0 : Int32).toNatClampNeg 1), (va_up (fun _ => 0) (0 : Int32).toNatClampNeg 1), (va_up (fun _ => 0) (0 : Int32).toNatClampNeg 1), (fun _ => 0), (fun _ => 0)] : List (Nat → Int64)).getD k (fun _ => 0)
def i0_xq : Nat → (Nat → Option Nat) := fun k => ([(fun _ => none), (fun _ => none), (fun _ => none)] : List (Nat → Option Nat)).getD k (fun _ => none)
def i0_mi : Nat → Int32 := fun k => ([0, 0, 0, 0, 0, 0, (-1 : Int32), 0, 0, 0, 0, 0, 0, 0, 0, 0, 0, (-1 : Int32), (-1 : Int32)] : List Int32).getD k 0
def i0_mj : Nat → Int64 := fun k => ([0, 0, 0, 0, 0, 0] : List Int64).getD k 0
def i0_ma : Nat → (Nat → Int32) := fun k => ([(fun _ => 0), (va_up (va_up (va_up (fun _ => 0) (3 : Int32).toNatClampNeg (-1 : Int32)) (5 : Int32).toNatClampNeg 1) (10 : Int32).toNatClampNeg 50), (fun _ => 0), (fun _ => 0), (fun _ => 0), (fun _ => 0), (fun _ => 0), (fun _ => 0), (fun _ => 0), (fun _ => 0), (fun _ => 0), (fun _ => 0), (fun _ => 0), (fun _ => 0), (fun _ => 0), (fun _ => 0), (fun _ => 0)] : List (Nat → Int32)).getD k (fun _ => 0)
def i0_mb : Nat → (Nat → Int64) := fun k => ([(va_up (va_up (va_up (va_up (va_up (va_up (va_up (va_up (va_up (va_up (fun _ => 0) (0 : Int32).toNatClampNeg 2262644) (1 : Int32).toNatClampNeg 370116) (2 : Int32).toNatClampNeg 290921650) (3 : Int32).toNatClampNeg 624020) (4 : Int32).toNatClampNeg 435588) (5 : Int32).toNatClampNeg 203112114) (6 : Int32).toNatClampNeg 278194) (7 : Int32).toNatClampNeg 591150) (8 : Int32).toNatClampNeg 631941) (9 : Int32).toNatClampNeg 446125701), (va_up (va_up (va_up (fun _ => 0) (0 : Int32).toNatClampNeg 23580851) (1 : Int32).toNatClampNeg 402611) (2 : Int32).toNatClampNeg 17376357), (fun _ => 0), (fun _ => 0), (fun _ => 0), (fun _ => 0), (fun _ => 0), (fun _ => 0)] : List (Nat → Int64)).getD k (fun _ => 0)
def y0 : Nat → Int := va_up (va_up (va_up (fun _ => 0) 3 (-1)) 5 1) 10 50
theorem RM_0 : RM y0 (va_up (va_up (va_up (fun _ => 0) (3 : Int32).toNatClampNeg (-1 : Int32)) (5 : Int32).toNatClampNeg 1) (10 : Int32).toNatClampNeg 50) := by
  have h := RM.up (RM.up (RM.up (y := fun _ => 0) (row := fun _ => 0) (fun k _ => show (0 : Int32) = i32 0 by decide) 3 (-1)) 5 1) 10 50
  rw [show (3 : Int32).toNatClampNeg = 3 by decide, show (5 : Int32).toNatClampNeg = 5 by decide, show (10 : Int32).toNatClampNeg = 10 by decide]
  rw [show i32 (-1) = (-1 : Int32) by decide, show i32 1 = (1 : Int32) by decide, show i32 50 = (50 : Int32) by decide] at h
  exact h
theorem HAS.cat {ks ks' : List Nat} {es es' : List va_E} {c : Hp} (hn : ks.Nodup) (hl : es.length = ks.length) : HAS ks es (e_ov (ks ++ ks') (es ++ es') c) := by rw [e_ov_cat hl]; exact HAS.of hn
theorem e_ov_last {ks : List Nat} {es : List va_E} {k : Nat} {e : va_E} {c : Hp} (hl : es.length = ks.length) (hk : k ∉ ks) : e_ov (ks ++ [k]) (es ++ [e]) c k = e := by rw [e_ov_cat hl, e_ov_out hk]; exact e_up_self _ _ _
theorem y0_1 : y0 1 = 0 := by decide
theorem y0_2 : y0 2 = 0 := by decide
theorem y0_11 : y0 11 = 0 := by decide
theorem WF_0 : WF y0 := ⟨by decide, by decide, by decide, by decide, by decide, by decide +kernel, by decide, by decide +kernel, fun k hk => absurd hk (by rw [y0_1]; omega), fun k hk => absurd hk (by rw [y0_11]; omega)⟩
theorem RX_0 : RX y0 0 0 0 0 (-1) (fun _ => 0) (fun _ => 0) (fun j => (e_sX 0).getD j 0) 0 (fun _ => 0) (fun _ => 0) (fun _ => 0) :=
  ⟨by decide, by decide, by decide, by decide, by decide, by decide +kernel, by decide +kernel, fun b _ => ⟨0, (show (0 : Int32) = i32 ((0 : Nat) : Int) by decide), by decide, fun h _ => ⟨fun e => (by simp at e), fun e => by
    obtain ⟨k, hk, -⟩ := e
    exact absurd hk (by rw [y0_1]; omega)⟩⟩, by decide, fun k hk => absurd hk (by rw [y0_11]; omega)⟩
theorem QA_0 {b : Nat} : QA b 0 (fun _ => none) := fun i a h => absurd h (by intro h; cases h)
theorem WDS_0 : WDS (i0_mb 0) := by unfold WDS; decide +kernel
theorem HWS_0 : HWS (i0_mb 1) := by unfold HWS; decide +kernel
set_option maxRecDepth 100000 in
theorem INV_start {G : GT} {b : Nat} {c1 : Hp} {e0 : va_E} : INV G b (e_ov (kM 79) (wMM G b i0_mi i0_mj i0_ma i0_mb) (e_ov (kX ++ [79]) (wX G b i0_xi i0_xj i0_xa i0_xb i0_xq ++ [e0]) c1)) 105 :=
  ⟨i0_xi, i0_xj, i0_xa, i0_xb, i0_xq, i0_mi, i0_mj, i0_ma, i0_mb, 0, fun _ => (0, fun _ => 0, fun _ _ => none, fun _ _ => none), y0, none, HAS.out (HAS.cat kX_nd rfl) X_no_M, HAS.of kM_nd, rfl, fun j hj => absurd hj (Nat.not_lt_zero j), RM_0, WF_0, RX_0, fun i hi => absurd hi (by rw [y0_2]; omega), Or.inl ⟨rfl, by decide⟩, Or.inl rfl, Or.inl rfl, fun i _ => rfl, ⟨rfl, fun k _ => rfl⟩, ⟨⟨0, by omega, by decide, by decide⟩, fun k _ => rfl⟩, rfl, rfl, Or.inl ⟨rfl, rfl⟩, Or.inl rfl, rfl, WDS_0, HWS_0, QA_0, QA_0, QA_0⟩
set_option maxRecDepth 100000 in
theorem start_3 {G : GT} {b bs L : Nat} {xs : Nat → Int32} (hL : L ≤ 3072) {c : Hp} (hI : INV G b c 105) : E G b x code 4 ret room_1 (e_XL b bs L xs) e_ZL 15 [(1, .ref (b + 0)), (0, .ref bs)] [.ref (b + 79)] c 105 105 88844 := by
  refine E.astore_n (x := b + 79) (lv' := [(2, .ref (b + 79)), (1, .ref (b + 0)), (0, .ref bs)]) dL_law_15 (by decide) rfl ?_
  refine E.iconst (v := 0) dL_law_16 (by decide) ?_
  refine E.istore_n (lv' := [(3, .int 0), (2, .ref (b + 79)), (1, .ref (b + 0)), (0, .ref bs)]) dL_law_17 (by decide) rfl ?_
  refine E.locals [3, 2, 1, 0] (lv' := [(0, .ref bs), (1, .ref (b + 0)), (2, .ref (b + 79)), (3, .int 0)]) rfl ?_
  exact law_loop (I := INV G b) hL INV_0 s_beast s_put s_of s_meal s_fast s_hunger s_bench s_terms s_feed s_end s_row s_quashed s_law s_fault s_force s_chance s_price s_odds s_tips s_bribed s_reply s_sure s_value s_saddle s_enough s_bribe s_steady s_swing s_fairest s_judged s_annul s_right s_agree s_again s_trusted s_proof s_appeal s_sitting s_lay s_image s_back s_count s_status 513 0 0 c 105 105 88844 (by decide) (by omega) (by omega) (by omega) (by omega) hI
set_option maxRecDepth 100000 in
set_option maxHeartbeats 4000000 in
theorem start_2 {G : GT} {b bs L : Nat} {xs : Nat → Int32} (hL : L ≤ 3072) {c1 : Hp} : E G b x code 4 ret room_1 (e_XL b bs L xs) e_ZL 7 [(0, .ref bs)] [.ref (b + 0)] (e_ov kX (wX G b i0_xi i0_xj i0_xa i0_xb i0_xq) c1) 79 79 2719 := by
  refine E.astore_n (x := b + 0) (lv' := [(1, .ref (b + 0)), (0, .ref bs)]) dL_law_7 (by decide) rfl ?_
  refine E.new (C := RX12) (T := TX12) (N := 50) (ty := tyX12) (ci := 12) (fs := [.int 0, .int 0, .null, .null, .null, .null, .null, .int 0, .int 0, .int 0, .int 0, .long 0, .int 0, .int 0, .int 0, .null, .int 0, .null, .null, .int 0, .null, .null, .int 0, .int 0, .null, .null, .int 0, .null, .null, .int 0, .long 0, .long 0, .null, .null, .null, .null, .null, .long 0, .null, .null, .long 0, .int 0, .int 0, .int 0, .null, .null, .null, .null, .int 0, .long 0]) (kz' := kX ++ [79]) (es' := wX G b i0_xi i0_xj i0_xa i0_xb i0_xq ++ [.inr (12, [.int 0, .int 0, .null, .null, .null, .null, .null, .int 0, .int 0, .int 0, .int 0, .long 0, .int 0, .int 0, .int 0, .null, .int 0, .null, .null, .int 0, .null, .null, .int 0, .int 0, .null, .null, .int 0, .null, .null, .int 0, .long 0, .long 0, .null, .null, .null, .null, .null, .long 0, .null, .null, .long 0, .int 0, .int 0, .int 0, .null, .null, .null, .null, .int 0, .long 0])]) (n' := 80) (kc' := 80) (ks' := 2769) (e_wf_X (by omega)) dL_law_8 (gT_in 1220 (by decide +kernel) rfl) (gT_in 1221 (by decide +kernel) rfl) (gT_in 111 (by decide +kernel) rfl) iX12 ftX12 rfl (fun j hj => by
    match j, hj with
    | 0, _ => rfl
    | 1, _ => rfl
    | 2, _ => rfl
    | 3, _ => rfl
    | 4, _ => rfl
    | 5, _ => rfl
    | 6, _ => rfl
    | 7, _ => rfl
    | 8, _ => rfl
    | 9, _ => rfl
    | 10, _ => rfl
    | 11, _ => rfl
    | 12, _ => rfl
    | 13, _ => rfl
    | 14, _ => rfl
    | 15, _ => rfl
    | 16, _ => rfl
    | 17, _ => rfl
    | 18, _ => rfl
    | 19, _ => rfl
    | 20, _ => rfl
    | 21, _ => rfl
    | 22, _ => rfl
    | 23, _ => rfl
    | 24, _ => rfl
    | 25, _ => rfl
    | 26, _ => rfl
    | 27, _ => rfl
    | 28, _ => rfl
    | 29, _ => rfl
    | 30, _ => rfl
    | 31, _ => rfl
    | 32, _ => rfl
    | 33, _ => rfl
    | 34, _ => rfl
    | 35, _ => rfl
    | 36, _ => rfl
    | 37, _ => rfl
    | 38, _ => rfl
    | 39, _ => rfl
    | 40, _ => rfl
    | 41, _ => rfl
    | 42, _ => rfl
    | 43, _ => rfl
    | 44, _ => rfl
    | 45, _ => rfl
    | 46, _ => rfl
    | 47, _ => rfl
    | 48, _ => rfl
    | 49, _ => rfl
    | k + 50, h => exact absurd h (by omega)) rfl ⟨Nat.le_of_ble_eq_true rfl, Nat.le_of_ble_eq_true rfl⟩ rfl rfl rfl rfl rfl ?_
  refine E.dup dL_law_11 rfl ?_
  refine E.callI (i := 79) (As := []) (rest := [.ref (b + 79)]) dL_law_12 mlL_12 (mX12_init (n := 80) (i := 79) (by omega) (e_ov_last rfl (by decide))) ⟨Nat.le_of_ble_eq_true rfl, Nat.le_of_ble_eq_true rfl⟩ rfl rfl (by show 1 ≤ 8; omega) ⟨Nat.le_of_ble_eq_true rfl, Nat.le_of_ble_eq_true rfl⟩ ?_
  intro v c' n' h
  obtain ⟨rfl, rfl, rfl⟩ := h
  exact start_3 hL INV_start
set_option maxRecDepth 100000 in
set_option maxHeartbeats 4000000 in
theorem start_1 {G : GT} {b bs L : Nat} {xs : Nat → Int32} (hL : L ≤ 3072) {c0 : Hp} : E G b x code 4 ret room_1 (e_XL b bs L xs) e_ZL 0 [(0, .ref bs)] [] (e_ov [] [] c0) 0 0 0 := by
  refine E.new (C := RX11) (T := TX11) (N := 16) (ty := tyX11) (ci := 11) (fs := [.null, .null, .null, .null, .null, .null, .null, .null, .null, .null, .null, .null, .null, .int 0, .int 0, .int 0]) (kz' := [0]) (es' := [.inr (11, [.null, .null, .null, .null, .null, .null, .null, .null, .null, .null, .null, .null, .null, .int 0, .int 0, .int 0])]) (n' := 1) (kc' := 1) (ks' := 16) ⟨List.nodup_nil, fun k h => absurd h List.not_mem_nil⟩ dL_law_0 (gT_in 121 (by decide +kernel) rfl) (gT_in 122 (by decide +kernel) rfl) (gT_in 100 (by decide +kernel) rfl) iX11 ftX11 rfl (fun j hj => by
    match j, hj with
    | 0, _ => rfl
    | 1, _ => rfl
    | 2, _ => rfl
    | 3, _ => rfl
    | 4, _ => rfl
    | 5, _ => rfl
    | 6, _ => rfl
    | 7, _ => rfl
    | 8, _ => rfl
    | 9, _ => rfl
    | 10, _ => rfl
    | 11, _ => rfl
    | 12, _ => rfl
    | 13, _ => rfl
    | 14, _ => rfl
    | 15, _ => rfl
    | k + 16, h => exact absurd h (by omega)) rfl ⟨Nat.le_of_ble_eq_true rfl, Nat.le_of_ble_eq_true rfl⟩ rfl rfl rfl rfl rfl ?_
  refine E.dup dL_law_3 rfl ?_
  refine E.callI (i := 0) (As := []) (rest := [.ref (b + 0)]) dL_law_4 mlL_9 (mX11_init (n := 1) (i := 0) (by omega) (e_up_self _ _ _)) ⟨Nat.le_of_ble_eq_true rfl, Nat.le_of_ble_eq_true rfl⟩ rfl rfl (by show 1 ≤ 8; omega) ⟨Nat.le_of_ble_eq_true rfl, Nat.le_of_ble_eq_true rfl⟩ ?_
  intro v c' n' h
  obtain ⟨rfl, rfl, rfl⟩ := h
  exact start_2 hL
