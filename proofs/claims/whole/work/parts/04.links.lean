set_option maxRecDepth 100000 in
theorem iX0 : ∀ w ∈ u_ws RX0 TX0 4, w ∈ gT := by
  have h1 : ∀ w ∈ u_ws RX0 TX0 4, w ∈ lw_tbl := by decide +kernel
  have h2 : (u_ws RX0 TX0 4).all goodWord = true := by decide +kernel
  exact fun w h => List.mem_filter.mpr ⟨h1 w h, List.all_eq_true.mp h2 w h⟩
theorem ftX0 : e_ft TX0 4 tyX0 := ⟨tyX0_ok, nmX0⟩
set_option maxRecDepth 100000 in
theorem iX1 : ∀ w ∈ u_ws RX1 TX1 18, w ∈ gT := by
  have h1 : ∀ w ∈ u_ws RX1 TX1 18, w ∈ lw_tbl := by decide +kernel
  have h2 : (u_ws RX1 TX1 18).all goodWord = true := by decide +kernel
  exact fun w h => List.mem_filter.mpr ⟨h1 w h, List.all_eq_true.mp h2 w h⟩
theorem ftX1 : e_ft TX1 18 tyX1 := ⟨tyX1_ok, nmX1⟩
set_option maxRecDepth 100000 in
theorem iX2 : ∀ w ∈ u_ws RX2 TX2 4, w ∈ gT := by
  have h1 : ∀ w ∈ u_ws RX2 TX2 4, w ∈ lw_tbl := by decide +kernel
  have h2 : (u_ws RX2 TX2 4).all goodWord = true := by decide +kernel
  exact fun w h => List.mem_filter.mpr ⟨h1 w h, List.all_eq_true.mp h2 w h⟩
theorem ftX2 : e_ft TX2 4 tyX2 := ⟨tyX2_ok, nmX2⟩
set_option maxRecDepth 100000 in
theorem iX3 : ∀ w ∈ u_ws RX3 TX3 2, w ∈ gT := by
  have h1 : ∀ w ∈ u_ws RX3 TX3 2, w ∈ lw_tbl := by decide +kernel
  have h2 : (u_ws RX3 TX3 2).all goodWord = true := by decide +kernel
  exact fun w h => List.mem_filter.mpr ⟨h1 w h, List.all_eq_true.mp h2 w h⟩
theorem ftX3 : e_ft TX3 2 tyX3 := ⟨tyX3_ok, nmX3⟩
set_option maxRecDepth 100000 in
theorem iX4 : ∀ w ∈ u_ws RX4 TX4 1, w ∈ gT := by
  have h1 : ∀ w ∈ u_ws RX4 TX4 1, w ∈ lw_tbl := by decide +kernel
  have h2 : (u_ws RX4 TX4 1).all goodWord = true := by decide +kernel
  exact fun w h => List.mem_filter.mpr ⟨h1 w h, List.all_eq_true.mp h2 w h⟩
theorem ftX4 : e_ft TX4 1 tyX4 := ⟨tyX4_ok, nmX4⟩
set_option maxRecDepth 100000 in
theorem iX5 : ∀ w ∈ u_ws RX5 TX5 4, w ∈ gT := by
  have h1 : ∀ w ∈ u_ws RX5 TX5 4, w ∈ lw_tbl := by decide +kernel
  have h2 : (u_ws RX5 TX5 4).all goodWord = true := by decide +kernel
  exact fun w h => List.mem_filter.mpr ⟨h1 w h, List.all_eq_true.mp h2 w h⟩
theorem ftX5 : e_ft TX5 4 tyX5 := ⟨tyX5_ok, nmX5⟩
set_option maxRecDepth 100000 in
theorem iX6 : ∀ w ∈ u_ws RX6 TX6 13, w ∈ gT := by
  have h1 : ∀ w ∈ u_ws RX6 TX6 13, w ∈ lw_tbl := by decide +kernel
  have h2 : (u_ws RX6 TX6 13).all goodWord = true := by decide +kernel
  exact fun w h => List.mem_filter.mpr ⟨h1 w h, List.all_eq_true.mp h2 w h⟩
theorem ftX6 : e_ft TX6 13 tyX6 := ⟨tyX6_ok, nmX6⟩
set_option maxRecDepth 100000 in
theorem iX7 : ∀ w ∈ u_ws RX7 TX7 6, w ∈ gT := by
  have h1 : ∀ w ∈ u_ws RX7 TX7 6, w ∈ lw_tbl := by decide +kernel
  have h2 : (u_ws RX7 TX7 6).all goodWord = true := by decide +kernel
  exact fun w h => List.mem_filter.mpr ⟨h1 w h, List.all_eq_true.mp h2 w h⟩
theorem ftX7 : e_ft TX7 6 tyX7 := ⟨tyX7_ok, nmX7⟩
set_option maxRecDepth 100000 in
theorem iX8 : ∀ w ∈ u_ws RX8 TX8 2, w ∈ gT := by
  have h1 : ∀ w ∈ u_ws RX8 TX8 2, w ∈ lw_tbl := by decide +kernel
  have h2 : (u_ws RX8 TX8 2).all goodWord = true := by decide +kernel
  exact fun w h => List.mem_filter.mpr ⟨h1 w h, List.all_eq_true.mp h2 w h⟩
theorem ftX8 : e_ft TX8 2 tyX8 := ⟨tyX8_ok, nmX8⟩
set_option maxRecDepth 100000 in
theorem iX9 : ∀ w ∈ u_ws RX9 TX9 2, w ∈ gT := by
  have h1 : ∀ w ∈ u_ws RX9 TX9 2, w ∈ lw_tbl := by decide +kernel
  have h2 : (u_ws RX9 TX9 2).all goodWord = true := by decide +kernel
  exact fun w h => List.mem_filter.mpr ⟨h1 w h, List.all_eq_true.mp h2 w h⟩
theorem ftX9 : e_ft TX9 2 tyX9 := ⟨tyX9_ok, nmX9⟩
set_option maxRecDepth 100000 in
theorem iX10 : ∀ w ∈ u_ws RX10 TX10 10, w ∈ gT := by
  have h1 : ∀ w ∈ u_ws RX10 TX10 10, w ∈ lw_tbl := by decide +kernel
  have h2 : (u_ws RX10 TX10 10).all goodWord = true := by decide +kernel
  exact fun w h => List.mem_filter.mpr ⟨h1 w h, List.all_eq_true.mp h2 w h⟩
theorem ftX10 : e_ft TX10 10 tyX10 := ⟨tyX10_ok, nmX10⟩
set_option maxRecDepth 100000 in
theorem iX11 : ∀ w ∈ u_ws RX11 TX11 16, w ∈ gT := by
  have h1 : ∀ w ∈ u_ws RX11 TX11 16, w ∈ lw_tbl := by decide +kernel
  have h2 : (u_ws RX11 TX11 16).all goodWord = true := by decide +kernel
  exact fun w h => List.mem_filter.mpr ⟨h1 w h, List.all_eq_true.mp h2 w h⟩
theorem ftX11 : e_ft TX11 16 tyX11 := ⟨tyX11_ok, nmX11⟩
set_option maxRecDepth 100000 in
theorem iX12 : ∀ w ∈ u_ws RX12 TX12 50, w ∈ gT := by
  have h1 : ∀ w ∈ u_ws RX12 TX12 50, w ∈ lw_tbl := by decide +kernel
  have h2 : (u_ws RX12 TX12 50).all goodWord = true := by decide +kernel
  exact fun w h => List.mem_filter.mpr ⟨h1 w h, List.all_eq_true.mp h2 w h⟩
theorem ftX12 : e_ft TX12 50 tyX12 := ⟨tyX12_ok, nmX12⟩
set_option maxRecDepth 100000 in
theorem flX2_9 : e_fl RX2 9 RX2 TX2 4 0 := ⟨by decide, gT_in 152 (by decide +kernel) rfl, iX2⟩
set_option maxRecDepth 100000 in
theorem flX2_15 : e_fl RX2 15 RX2 TX2 4 1 := ⟨by decide, gT_in 153 (by decide +kernel) rfl, iX2⟩
set_option maxRecDepth 100000 in
theorem flX2_18 : e_fl RX2 18 RX2 TX2 4 2 := ⟨by decide, gT_in 155 (by decide +kernel) rfl, iX2⟩
set_option maxRecDepth 100000 in
theorem flX2_27 : e_fl RX2 27 RX2 TX2 4 3 := ⟨by decide, gT_in 157 (by decide +kernel) rfl, iX2⟩
set_option maxRecDepth 100000 in
theorem flX10_9 : e_fl RX10 9 RX10 TX10 10 0 := ⟨by decide, gT_in 169 (by decide +kernel) rfl, iX10⟩
set_option maxRecDepth 100000 in
theorem flX10_15 : e_fl RX10 15 RX10 TX10 10 1 := ⟨by decide, gT_in 170 (by decide +kernel) rfl, iX10⟩
set_option maxRecDepth 100000 in
theorem flX10_26 : e_fl RX10 26 RX10 TX10 10 2 := ⟨by decide, gT_in 172 (by decide +kernel) rfl, iX10⟩
set_option maxRecDepth 100000 in
theorem flX10_31 : e_fl RX10 31 RX10 TX10 10 3 := ⟨by decide, gT_in 178 (by decide +kernel) rfl, iX10⟩
set_option maxRecDepth 100000 in
theorem flX10_38 : e_fl RX10 38 RX10 TX10 10 4 := ⟨by decide, gT_in 180 (by decide +kernel) rfl, iX10⟩
set_option maxRecDepth 100000 in
theorem flX10_56 : e_fl RX10 56 RX10 TX10 10 5 := ⟨by decide, gT_in 184 (by decide +kernel) rfl, iX10⟩
set_option maxRecDepth 100000 in
theorem flX10_59 : e_fl RX10 59 RX10 TX10 10 6 := ⟨by decide, gT_in 187 (by decide +kernel) rfl, iX10⟩
set_option maxRecDepth 100000 in
theorem flX10_62 : e_fl RX10 62 RX10 TX10 10 7 := ⟨by decide, gT_in 190 (by decide +kernel) rfl, iX10⟩
set_option maxRecDepth 100000 in
theorem flX10_65 : e_fl RX10 65 RX10 TX10 10 8 := ⟨by decide, gT_in 193 (by decide +kernel) rfl, iX10⟩
set_option maxRecDepth 100000 in
theorem flX10_42 : e_fl RX10 42 RX10 TX10 10 9 := ⟨by decide, gT_in 195 (by decide +kernel) rfl, iX10⟩
set_option maxRecDepth 100000 in
theorem flX9_9 : e_fl RX9 9 RX9 TX9 2 0 := ⟨by decide, gT_in 225 (by decide +kernel) rfl, iX9⟩
set_option maxRecDepth 100000 in
theorem flX9_15 : e_fl RX9 15 RX9 TX9 2 1 := ⟨by decide, gT_in 227 (by decide +kernel) rfl, iX9⟩
set_option maxRecDepth 100000 in
theorem flX6_9 : e_fl RX6 9 RX6 TX6 13 0 := ⟨by decide, gT_in 242 (by decide +kernel) rfl, iX6⟩
set_option maxRecDepth 100000 in
theorem flX6_17 : e_fl RX6 17 RX6 TX6 13 1 := ⟨by decide, gT_in 243 (by decide +kernel) rfl, iX6⟩
set_option maxRecDepth 100000 in
theorem flX6_21 : e_fl RX6 21 RX6 TX6 13 2 := ⟨by decide, gT_in 244 (by decide +kernel) rfl, iX6⟩
set_option maxRecDepth 100000 in
theorem flX6_24 : e_fl RX6 24 RX6 TX6 13 3 := ⟨by decide, gT_in 245 (by decide +kernel) rfl, iX6⟩
set_option maxRecDepth 100000 in
theorem flX6_27 : e_fl RX6 27 RX6 TX6 13 4 := ⟨by decide, gT_in 246 (by decide +kernel) rfl, iX6⟩
set_option maxRecDepth 100000 in
theorem flX6_34 : e_fl RX6 34 RX6 TX6 13 5 := ⟨by decide, gT_in 247 (by decide +kernel) rfl, iX6⟩
set_option maxRecDepth 100000 in
theorem flX6_38 : e_fl RX6 38 RX6 TX6 13 6 := ⟨by decide, gT_in 248 (by decide +kernel) rfl, iX6⟩
set_option maxRecDepth 100000 in
theorem flX6_41 : e_fl RX6 41 RX6 TX6 13 7 := ⟨by decide, gT_in 249 (by decide +kernel) rfl, iX6⟩
set_option maxRecDepth 100000 in
theorem flX6_70 : e_fl RX6 70 RX6 TX6 13 8 := ⟨by decide, gT_in 250 (by decide +kernel) rfl, iX6⟩
set_option maxRecDepth 100000 in
theorem flX6_44 : e_fl RX6 44 RX6 TX6 13 9 := ⟨by decide, gT_in 251 (by decide +kernel) rfl, iX6⟩
set_option maxRecDepth 100000 in
theorem flX6_58 : e_fl RX6 58 RX6 TX6 13 10 := ⟨by decide, gT_in 252 (by decide +kernel) rfl, iX6⟩
set_option maxRecDepth 100000 in
theorem flX6_80 : e_fl RX6 80 RX6 TX6 13 11 := ⟨by decide, gT_in 253 (by decide +kernel) rfl, iX6⟩
set_option maxRecDepth 100000 in
theorem flX6_30 : e_fl RX6 30 RX6 TX6 13 12 := ⟨by decide, gT_in 254 (by decide +kernel) rfl, iX6⟩
set_option maxRecDepth 100000 in
theorem flX0_11 : e_fl RX0 11 RX0 TX0 4 0 := ⟨by decide, gT_in 288 (by decide +kernel) rfl, iX0⟩
set_option maxRecDepth 100000 in
theorem flX0_17 : e_fl RX0 17 RX0 TX0 4 1 := ⟨by decide, gT_in 289 (by decide +kernel) rfl, iX0⟩
set_option maxRecDepth 100000 in
theorem flX0_77 : e_fl RX0 77 RX0 TX0 4 2 := ⟨by decide, gT_in 290 (by decide +kernel) rfl, iX0⟩
set_option maxRecDepth 100000 in
theorem flX0_54 : e_fl RX0 54 RX0 TX0 4 3 := ⟨by decide, gT_in 291 (by decide +kernel) rfl, iX0⟩
set_option maxRecDepth 100000 in
theorem flX8_9 : e_fl RX8 9 RX8 TX8 2 0 := ⟨by decide, gT_in 308 (by decide +kernel) rfl, iX8⟩
set_option maxRecDepth 100000 in
theorem flX8_21 : e_fl RX8 21 RX8 TX8 2 1 := ⟨by decide, gT_in 309 (by decide +kernel) rfl, iX8⟩
set_option maxRecDepth 100000 in
theorem flX1_9 : e_fl RX1 9 RX1 TX1 18 0 := ⟨by decide, gT_in 324 (by decide +kernel) rfl, iX1⟩
set_option maxRecDepth 100000 in
theorem flX1_15 : e_fl RX1 15 RX1 TX1 18 1 := ⟨by decide, gT_in 325 (by decide +kernel) rfl, iX1⟩
set_option maxRecDepth 100000 in
theorem flX1_18 : e_fl RX1 18 RX1 TX1 18 2 := ⟨by decide, gT_in 326 (by decide +kernel) rfl, iX1⟩
set_option maxRecDepth 100000 in
theorem flX1_21 : e_fl RX1 21 RX1 TX1 18 3 := ⟨by decide, gT_in 327 (by decide +kernel) rfl, iX1⟩
set_option maxRecDepth 100000 in
theorem flX1_24 : e_fl RX1 24 RX1 TX1 18 4 := ⟨by decide, gT_in 328 (by decide +kernel) rfl, iX1⟩
set_option maxRecDepth 100000 in
theorem flX1_27 : e_fl RX1 27 RX1 TX1 18 5 := ⟨by decide, gT_in 329 (by decide +kernel) rfl, iX1⟩
set_option maxRecDepth 100000 in
theorem flX1_31 : e_fl RX1 31 RX1 TX1 18 6 := ⟨by decide, gT_in 330 (by decide +kernel) rfl, iX1⟩
set_option maxRecDepth 100000 in
theorem flX1_36 : e_fl RX1 36 RX1 TX1 18 7 := ⟨by decide, gT_in 331 (by decide +kernel) rfl, iX1⟩
set_option maxRecDepth 100000 in
theorem flX1_41 : e_fl RX1 41 RX1 TX1 18 8 := ⟨by decide, gT_in 332 (by decide +kernel) rfl, iX1⟩
set_option maxRecDepth 100000 in
theorem flX1_58 : e_fl RX1 58 RX1 TX1 18 9 := ⟨by decide, gT_in 333 (by decide +kernel) rfl, iX1⟩
set_option maxRecDepth 100000 in
theorem flX1_62 : e_fl RX1 62 RX1 TX1 18 10 := ⟨by decide, gT_in 334 (by decide +kernel) rfl, iX1⟩
set_option maxRecDepth 100000 in
theorem flX1_69 : e_fl RX1 69 RX1 TX1 18 11 := ⟨by decide, gT_in 335 (by decide +kernel) rfl, iX1⟩
set_option maxRecDepth 100000 in
theorem flX1_66 : e_fl RX1 66 RX1 TX1 18 12 := ⟨by decide, gT_in 336 (by decide +kernel) rfl, iX1⟩
set_option maxRecDepth 100000 in
theorem flX1_45 : e_fl RX1 45 RX1 TX1 18 13 := ⟨by decide, gT_in 337 (by decide +kernel) rfl, iX1⟩
set_option maxRecDepth 100000 in
theorem flX1_49 : e_fl RX1 49 RX1 TX1 18 14 := ⟨by decide, gT_in 338 (by decide +kernel) rfl, iX1⟩
set_option maxRecDepth 100000 in
theorem flX1_190 : e_fl RX1 190 RX1 TX1 18 15 := ⟨by decide, gT_in 339 (by decide +kernel) rfl, iX1⟩
set_option maxRecDepth 100000 in
theorem flX1_193 : e_fl RX1 193 RX1 TX1 18 16 := ⟨by decide, gT_in 341 (by decide +kernel) rfl, iX1⟩
set_option maxRecDepth 100000 in
theorem flX1_196 : e_fl RX1 196 RX1 TX1 18 17 := ⟨by decide, gT_in 343 (by decide +kernel) rfl, iX1⟩
set_option maxRecDepth 100000 in
theorem flX7_9 : e_fl RX7 9 RX7 TX7 6 0 := ⟨by decide, gT_in 388 (by decide +kernel) rfl, iX7⟩
set_option maxRecDepth 100000 in
theorem flX7_15 : e_fl RX7 15 RX7 TX7 6 1 := ⟨by decide, gT_in 390 (by decide +kernel) rfl, iX7⟩
set_option maxRecDepth 100000 in
theorem flX7_18 : e_fl RX7 18 RX7 TX7 6 2 := ⟨by decide, gT_in 392 (by decide +kernel) rfl, iX7⟩
set_option maxRecDepth 100000 in
theorem flX7_21 : e_fl RX7 21 RX7 TX7 6 3 := ⟨by decide, gT_in 393 (by decide +kernel) rfl, iX7⟩
set_option maxRecDepth 100000 in
theorem flX7_46 : e_fl RX7 46 RX7 TX7 6 4 := ⟨by decide, gT_in 395 (by decide +kernel) rfl, iX7⟩
set_option maxRecDepth 100000 in
theorem flX7_25 : e_fl RX7 25 RX7 TX7 6 5 := ⟨by decide, gT_in 397 (by decide +kernel) rfl, iX7⟩
set_option maxRecDepth 100000 in
theorem flX3_42 : e_fl RX3 42 RX3 TX3 2 0 := ⟨by decide, gT_in 417 (by decide +kernel) rfl, iX3⟩
set_option maxRecDepth 100000 in
theorem flX3_9 : e_fl RX3 9 RX3 TX3 2 1 := ⟨by decide, gT_in 419 (by decide +kernel) rfl, iX3⟩
set_option maxRecDepth 100000 in
theorem flX4_9 : e_fl RX4 9 RX4 TX4 1 0 := ⟨by decide, gT_in 432 (by decide +kernel) rfl, iX4⟩
set_option maxRecDepth 100000 in
theorem flX11_10 : e_fl RX11 10 RX11 TX11 16 0 := ⟨by decide, gT_in 436 (by decide +kernel) rfl, iX11⟩
set_option maxRecDepth 100000 in
theorem flX11_16 : e_fl RX11 16 RX11 TX11 16 1 := ⟨by decide, gT_in 437 (by decide +kernel) rfl, iX11⟩
set_option maxRecDepth 100000 in
theorem flX11_20 : e_fl RX11 20 RX11 TX11 16 2 := ⟨by decide, gT_in 438 (by decide +kernel) rfl, iX11⟩
set_option maxRecDepth 100000 in
theorem flX11_27 : e_fl RX11 27 RX11 TX11 16 3 := ⟨by decide, gT_in 439 (by decide +kernel) rfl, iX11⟩
set_option maxRecDepth 100000 in
theorem flX11_36 : e_fl RX11 36 RX11 TX11 16 4 := ⟨by decide, gT_in 440 (by decide +kernel) rfl, iX11⟩
set_option maxRecDepth 100000 in
theorem flX11_43 : e_fl RX11 43 RX11 TX11 16 5 := ⟨by decide, gT_in 441 (by decide +kernel) rfl, iX11⟩
set_option maxRecDepth 100000 in
theorem flX11_50 : e_fl RX11 50 RX11 TX11 16 6 := ⟨by decide, gT_in 442 (by decide +kernel) rfl, iX11⟩
set_option maxRecDepth 100000 in
theorem flX11_57 : e_fl RX11 57 RX11 TX11 16 7 := ⟨by decide, gT_in 443 (by decide +kernel) rfl, iX11⟩
set_option maxRecDepth 100000 in
theorem flX11_64 : e_fl RX11 64 RX11 TX11 16 8 := ⟨by decide, gT_in 444 (by decide +kernel) rfl, iX11⟩
set_option maxRecDepth 100000 in
theorem flX11_71 : e_fl RX11 71 RX11 TX11 16 9 := ⟨by decide, gT_in 445 (by decide +kernel) rfl, iX11⟩
set_option maxRecDepth 100000 in
theorem flX11_78 : e_fl RX11 78 RX11 TX11 16 10 := ⟨by decide, gT_in 446 (by decide +kernel) rfl, iX11⟩
set_option maxRecDepth 100000 in
theorem flX11_82 : e_fl RX11 82 RX11 TX11 16 11 := ⟨by decide, gT_in 447 (by decide +kernel) rfl, iX11⟩
set_option maxRecDepth 100000 in
theorem flX11_85 : e_fl RX11 85 RX11 TX11 16 12 := ⟨by decide, gT_in 448 (by decide +kernel) rfl, iX11⟩
set_option maxRecDepth 100000 in
theorem flX11_89 : e_fl RX11 89 RX11 TX11 16 13 := ⟨by decide, gT_in 449 (by decide +kernel) rfl, iX11⟩
set_option maxRecDepth 100000 in
theorem flX11_159 : e_fl RX11 159 RX11 TX11 16 14 := ⟨by decide, gT_in 450 (by decide +kernel) rfl, iX11⟩
set_option maxRecDepth 100000 in
theorem flX11_369 : e_fl RX11 369 RX11 TX11 16 15 := ⟨by decide, gT_in 451 (by decide +kernel) rfl, iX11⟩
set_option maxRecDepth 100000 in
theorem flX5_7 : e_fl RX5 7 RX5 TX5 4 0 := ⟨by decide, gT_in 766 (by decide +kernel) rfl, iX5⟩
set_option maxRecDepth 100000 in
theorem flX5_13 : e_fl RX5 13 RX5 TX5 4 1 := ⟨by decide, gT_in 768 (by decide +kernel) rfl, iX5⟩
set_option maxRecDepth 100000 in
theorem flX5_16 : e_fl RX5 16 RX5 TX5 4 2 := ⟨by decide, gT_in 770 (by decide +kernel) rfl, iX5⟩
set_option maxRecDepth 100000 in
theorem flX5_19 : e_fl RX5 19 RX5 TX5 4 3 := ⟨by decide, gT_in 772 (by decide +kernel) rfl, iX5⟩
set_option maxRecDepth 100000 in
theorem flX12_124 : e_fl RX12 124 RX12 TX12 50 0 := ⟨by decide, gT_in 1240 (by decide +kernel) rfl, iX12⟩
set_option maxRecDepth 100000 in
theorem flX12_127 : e_fl RX12 127 RX12 TX12 50 1 := ⟨by decide, gT_in 1241 (by decide +kernel) rfl, iX12⟩
set_option maxRecDepth 100000 in
theorem flX12_7 : e_fl RX12 7 RX12 TX12 50 2 := ⟨by decide, gT_in 1242 (by decide +kernel) rfl, iX12⟩
set_option maxRecDepth 100000 in
theorem flX12_13 : e_fl RX12 13 RX12 TX12 50 3 := ⟨by decide, gT_in 1243 (by decide +kernel) rfl, iX12⟩
set_option maxRecDepth 100000 in
theorem flX12_16 : e_fl RX12 16 RX12 TX12 50 4 := ⟨by decide, gT_in 1244 (by decide +kernel) rfl, iX12⟩
set_option maxRecDepth 100000 in
theorem flX12_19 : e_fl RX12 19 RX12 TX12 50 5 := ⟨by decide, gT_in 1245 (by decide +kernel) rfl, iX12⟩
set_option maxRecDepth 100000 in
theorem flX12_23 : e_fl RX12 23 RX12 TX12 50 6 := ⟨by decide, gT_in 1246 (by decide +kernel) rfl, iX12⟩
set_option maxRecDepth 100000 in
theorem flX12_184 : e_fl RX12 184 RX12 TX12 50 7 := ⟨by decide, gT_in 1247 (by decide +kernel) rfl, iX12⟩
set_option maxRecDepth 100000 in
theorem flX12_201 : e_fl RX12 201 RX12 TX12 50 8 := ⟨by decide, gT_in 1248 (by decide +kernel) rfl, iX12⟩
set_option maxRecDepth 100000 in
theorem flX12_191 : e_fl RX12 191 RX12 TX12 50 9 := ⟨by decide, gT_in 1249 (by decide +kernel) rfl, iX12⟩
set_option maxRecDepth 100000 in
theorem flX12_214 : e_fl RX12 214 RX12 TX12 50 10 := ⟨by decide, gT_in 1250 (by decide +kernel) rfl, iX12⟩
set_option maxRecDepth 100000 in
theorem flX12_204 : e_fl RX12 204 RX12 TX12 50 11 := ⟨by decide, gT_in 1251 (by decide +kernel) rfl, iX12⟩
set_option maxRecDepth 100000 in
theorem flX12_26 : e_fl RX12 26 RX12 TX12 50 12 := ⟨by decide, gT_in 1252 (by decide +kernel) rfl, iX12⟩
set_option maxRecDepth 100000 in
theorem flX12_194 : e_fl RX12 194 RX12 TX12 50 13 := ⟨by decide, gT_in 1253 (by decide +kernel) rfl, iX12⟩
set_option maxRecDepth 100000 in
theorem flX12_310 : e_fl RX12 310 RX12 TX12 50 14 := ⟨by decide, gT_in 1254 (by decide +kernel) rfl, iX12⟩
set_option maxRecDepth 100000 in
theorem flX12_30 : e_fl RX12 30 RX12 TX12 50 15 := ⟨by decide, gT_in 1255 (by decide +kernel) rfl, iX12⟩
set_option maxRecDepth 100000 in
theorem flX12_233 : e_fl RX12 233 RX12 TX12 50 16 := ⟨by decide, gT_in 1256 (by decide +kernel) rfl, iX12⟩
set_option maxRecDepth 100000 in
theorem flX12_33 : e_fl RX12 33 RX12 TX12 50 17 := ⟨by decide, gT_in 1257 (by decide +kernel) rfl, iX12⟩
set_option maxRecDepth 100000 in
theorem flX12_36 : e_fl RX12 36 RX12 TX12 50 18 := ⟨by decide, gT_in 1258 (by decide +kernel) rfl, iX12⟩
set_option maxRecDepth 100000 in
theorem flX12_262 : e_fl RX12 262 RX12 TX12 50 19 := ⟨by decide, gT_in 1259 (by decide +kernel) rfl, iX12⟩
set_option maxRecDepth 100000 in
theorem flX12_39 : e_fl RX12 39 RX12 TX12 50 20 := ⟨by decide, gT_in 1260 (by decide +kernel) rfl, iX12⟩
set_option maxRecDepth 100000 in
theorem flX12_42 : e_fl RX12 42 RX12 TX12 50 21 := ⟨by decide, gT_in 1261 (by decide +kernel) rfl, iX12⟩
set_option maxRecDepth 100000 in
theorem flX12_236 : e_fl RX12 236 RX12 TX12 50 22 := ⟨by decide, gT_in 1262 (by decide +kernel) rfl, iX12⟩
set_option maxRecDepth 100000 in
theorem flX12_256 : e_fl RX12 256 RX12 TX12 50 23 := ⟨by decide, gT_in 1263 (by decide +kernel) rfl, iX12⟩
set_option maxRecDepth 100000 in
theorem flX12_65 : e_fl RX12 65 RX12 TX12 50 24 := ⟨by decide, gT_in 1264 (by decide +kernel) rfl, iX12⟩
set_option maxRecDepth 100000 in
theorem flX12_75 : e_fl RX12 75 RX12 TX12 50 25 := ⟨by decide, gT_in 1265 (by decide +kernel) rfl, iX12⟩
set_option maxRecDepth 100000 in
theorem flX12_327 : e_fl RX12 327 RX12 TX12 50 26 := ⟨by decide, gT_in 1266 (by decide +kernel) rfl, iX12⟩
set_option maxRecDepth 100000 in
theorem flX12_78 : e_fl RX12 78 RX12 TX12 50 27 := ⟨by decide, gT_in 1267 (by decide +kernel) rfl, iX12⟩
set_option maxRecDepth 100000 in
theorem flX12_81 : e_fl RX12 81 RX12 TX12 50 28 := ⟨by decide, gT_in 1268 (by decide +kernel) rfl, iX12⟩
set_option maxRecDepth 100000 in
theorem flX12_324 : e_fl RX12 324 RX12 TX12 50 29 := ⟨by decide, gT_in 1269 (by decide +kernel) rfl, iX12⟩
set_option maxRecDepth 100000 in
theorem flX12_338 : e_fl RX12 338 RX12 TX12 50 30 := ⟨by decide, gT_in 1270 (by decide +kernel) rfl, iX12⟩
set_option maxRecDepth 100000 in
theorem flX12_344 : e_fl RX12 344 RX12 TX12 50 31 := ⟨by decide, gT_in 1271 (by decide +kernel) rfl, iX12⟩
set_option maxRecDepth 100000 in
theorem flX12_84 : e_fl RX12 84 RX12 TX12 50 32 := ⟨by decide, gT_in 1272 (by decide +kernel) rfl, iX12⟩
set_option maxRecDepth 100000 in
theorem flX12_87 : e_fl RX12 87 RX12 TX12 50 33 := ⟨by decide, gT_in 1273 (by decide +kernel) rfl, iX12⟩
set_option maxRecDepth 100000 in
theorem flX12_90 : e_fl RX12 90 RX12 TX12 50 34 := ⟨by decide, gT_in 1274 (by decide +kernel) rfl, iX12⟩
set_option maxRecDepth 100000 in
theorem flX12_94 : e_fl RX12 94 RX12 TX12 50 35 := ⟨by decide, gT_in 1275 (by decide +kernel) rfl, iX12⟩
set_option maxRecDepth 100000 in
theorem flX12_97 : e_fl RX12 97 RX12 TX12 50 36 := ⟨by decide, gT_in 1276 (by decide +kernel) rfl, iX12⟩
set_option maxRecDepth 100000 in
theorem flX12_423 : e_fl RX12 423 RX12 TX12 50 37 := ⟨by decide, gT_in 1277 (by decide +kernel) rfl, iX12⟩
set_option maxRecDepth 100000 in
theorem flX12_100 : e_fl RX12 100 RX12 TX12 50 38 := ⟨by decide, gT_in 1278 (by decide +kernel) rfl, iX12⟩
set_option maxRecDepth 100000 in
theorem flX12_103 : e_fl RX12 103 RX12 TX12 50 39 := ⟨by decide, gT_in 1279 (by decide +kernel) rfl, iX12⟩
set_option maxRecDepth 100000 in
theorem flX12_445 : e_fl RX12 445 RX12 TX12 50 40 := ⟨by decide, gT_in 1280 (by decide +kernel) rfl, iX12⟩
set_option maxRecDepth 100000 in
theorem flX12_442 : e_fl RX12 442 RX12 TX12 50 41 := ⟨by decide, gT_in 1281 (by decide +kernel) rfl, iX12⟩
set_option maxRecDepth 100000 in
theorem flX12_457 : e_fl RX12 457 RX12 TX12 50 42 := ⟨by decide, gT_in 1282 (by decide +kernel) rfl, iX12⟩
set_option maxRecDepth 100000 in
theorem flX12_106 : e_fl RX12 106 RX12 TX12 50 43 := ⟨by decide, gT_in 1283 (by decide +kernel) rfl, iX12⟩
set_option maxRecDepth 100000 in
theorem flX12_109 : e_fl RX12 109 RX12 TX12 50 44 := ⟨by decide, gT_in 1284 (by decide +kernel) rfl, iX12⟩
set_option maxRecDepth 100000 in
theorem flX12_112 : e_fl RX12 112 RX12 TX12 50 45 := ⟨by decide, gT_in 1285 (by decide +kernel) rfl, iX12⟩
set_option maxRecDepth 100000 in
theorem flX12_115 : e_fl RX12 115 RX12 TX12 50 46 := ⟨by decide, gT_in 1286 (by decide +kernel) rfl, iX12⟩
set_option maxRecDepth 100000 in
theorem flX12_118 : e_fl RX12 118 RX12 TX12 50 47 := ⟨by decide, gT_in 1287 (by decide +kernel) rfl, iX12⟩
set_option maxRecDepth 100000 in
theorem flX12_121 : e_fl RX12 121 RX12 TX12 50 48 := ⟨by decide, gT_in 1288 (by decide +kernel) rfl, iX12⟩
set_option maxRecDepth 100000 in
theorem flX12_486 : e_fl RX12 486 RX12 TX12 50 49 := ⟨by decide, gT_in 1289 (by decide +kernel) rfl, iX12⟩
set_option maxRecDepth 100000 in
theorem fnX11_327 : e_fn RX11 327 RX2 TX2 4 1 := ⟨by decide, ⟨"YardCourt", e_nest_in 154 (by decide +kernel) rfl⟩, iX2⟩
set_option maxRecDepth 100000 in
theorem fnX11_330 : e_fn RX11 330 RX2 TX2 4 2 := ⟨by decide, ⟨"YardCourt", e_nest_in 156 (by decide +kernel) rfl⟩, iX2⟩
set_option maxRecDepth 100000 in
theorem fnX11_173 : e_fn RX11 173 RX2 TX2 4 3 := ⟨by decide, ⟨"YardCourt", e_nest_in 158 (by decide +kernel) rfl⟩, iX2⟩
set_option maxRecDepth 100000 in
theorem fnX11_125 : e_fn RX11 125 RX10 TX10 10 1 := ⟨by decide, ⟨"YardCourt", e_nest_in 171 (by decide +kernel) rfl⟩, iX10⟩
set_option maxRecDepth 100000 in
theorem fnX3_15 : e_fn RX3 15 RX10 TX10 10 2 := ⟨by decide, ⟨"YardCourt", e_nest_in 173 (by decide +kernel) rfl⟩, iX10⟩
set_option maxRecDepth 100000 in
theorem fnX7_53 : e_fn RX7 53 RX10 TX10 10 2 := ⟨by decide, ⟨"YardCourt", e_nest_in 174 (by decide +kernel) rfl⟩, iX10⟩
set_option maxRecDepth 100000 in
theorem fnX0_35 : e_fn RX0 35 RX10 TX10 10 2 := ⟨by decide, ⟨"YardCourt", e_nest_in 175 (by decide +kernel) rfl⟩, iX10⟩
set_option maxRecDepth 100000 in
theorem fnX1_63 : e_fn RX1 63 RX10 TX10 10 2 := ⟨by decide, ⟨"YardCourt", e_nest_in 176 (by decide +kernel) rfl⟩, iX10⟩
set_option maxRecDepth 100000 in
theorem fnX11_149 : e_fn RX11 149 RX10 TX10 10 2 := ⟨by decide, ⟨"YardCourt", e_nest_in 177 (by decide +kernel) rfl⟩, iX10⟩
set_option maxRecDepth 100000 in
theorem fnX11_192 : e_fn RX11 192 RX10 TX10 10 3 := ⟨by decide, ⟨"YardCourt", e_nest_in 179 (by decide +kernel) rfl⟩, iX10⟩
set_option maxRecDepth 100000 in
theorem fnX3_23 : e_fn RX3 23 RX10 TX10 10 4 := ⟨by decide, ⟨"YardCourt", e_nest_in 181 (by decide +kernel) rfl⟩, iX10⟩
set_option maxRecDepth 100000 in
theorem fnX11_169 : e_fn RX11 169 RX10 TX10 10 4 := ⟨by decide, ⟨"YardCourt", e_nest_in 182 (by decide +kernel) rfl⟩, iX10⟩
set_option maxRecDepth 100000 in
theorem fnX11_101 : e_fn RX11 101 RX10 TX10 10 5 := ⟨by decide, ⟨"YardCourt", e_nest_in 183 (by decide +kernel) rfl⟩, iX10⟩
set_option maxRecDepth 100000 in
theorem fnX7_56 : e_fn RX7 56 RX10 TX10 10 5 := ⟨by decide, ⟨"YardCourt", e_nest_in 185 (by decide +kernel) rfl⟩, iX10⟩
set_option maxRecDepth 100000 in
theorem fnX1_52 : e_fn RX1 52 RX10 TX10 10 5 := ⟨by decide, ⟨"YardCourt", e_nest_in 186 (by decide +kernel) rfl⟩, iX10⟩
set_option maxRecDepth 100000 in
theorem fnX11_122 : e_fn RX11 122 RX10 TX10 10 6 := ⟨by decide, ⟨"YardCourt", e_nest_in 188 (by decide +kernel) rfl⟩, iX10⟩
set_option maxRecDepth 100000 in
theorem fnX7_35 : e_fn RX7 35 RX10 TX10 10 7 := ⟨by decide, ⟨"YardCourt", e_nest_in 189 (by decide +kernel) rfl⟩, iX10⟩
set_option maxRecDepth 100000 in
theorem fnX1_59 : e_fn RX1 59 RX10 TX10 10 7 := ⟨by decide, ⟨"YardCourt", e_nest_in 191 (by decide +kernel) rfl⟩, iX10⟩
set_option maxRecDepth 100000 in
theorem fnX11_140 : e_fn RX11 140 RX10 TX10 10 7 := ⟨by decide, ⟨"YardCourt", e_nest_in 192 (by decide +kernel) rfl⟩, iX10⟩
set_option maxRecDepth 100000 in
theorem fnX11_181 : e_fn RX11 181 RX10 TX10 10 8 := ⟨by decide, ⟨"YardCourt", e_nest_in 194 (by decide +kernel) rfl⟩, iX10⟩
set_option maxRecDepth 100000 in
theorem fnX11_196 : e_fn RX11 196 RX10 TX10 10 9 := ⟨by decide, ⟨"YardCourt", e_nest_in 196 (by decide +kernel) rfl⟩, iX10⟩
set_option maxRecDepth 100000 in
theorem fnX6_101 : e_fn RX6 101 RX9 TX9 2 0 := ⟨by decide, ⟨"YardCourt", e_nest_in 226 (by decide +kernel) rfl⟩, iX9⟩
set_option maxRecDepth 100000 in
theorem fnX6_73 : e_fn RX6 73 RX9 TX9 2 1 := ⟨by decide, ⟨"YardCourt", e_nest_in 228 (by decide +kernel) rfl⟩, iX9⟩
set_option maxRecDepth 100000 in
theorem fnX11_152 : e_fn RX11 152 RX9 TX9 2 1 := ⟨by decide, ⟨"YardCourt", e_nest_in 229 (by decide +kernel) rfl⟩, iX9⟩
set_option maxRecDepth 100000 in
theorem fnX11_304 : e_fn RX11 304 RX1 TX1 18 15 := ⟨by decide, ⟨"YardCourt", e_nest_in 340 (by decide +kernel) rfl⟩, iX1⟩
set_option maxRecDepth 100000 in
theorem fnX11_307 : e_fn RX11 307 RX1 TX1 18 16 := ⟨by decide, ⟨"YardCourt", e_nest_in 342 (by decide +kernel) rfl⟩, iX1⟩
set_option maxRecDepth 100000 in
theorem fnX11_310 : e_fn RX11 310 RX1 TX1 18 17 := ⟨by decide, ⟨"YardCourt", e_nest_in 344 (by decide +kernel) rfl⟩, iX1⟩
set_option maxRecDepth 100000 in
theorem fnX11_357 : e_fn RX11 357 RX7 TX7 6 0 := ⟨by decide, ⟨"YardCourt", e_nest_in 389 (by decide +kernel) rfl⟩, iX7⟩
set_option maxRecDepth 100000 in
theorem fnX11_360 : e_fn RX11 360 RX7 TX7 6 1 := ⟨by decide, ⟨"YardCourt", e_nest_in 391 (by decide +kernel) rfl⟩, iX7⟩
set_option maxRecDepth 100000 in
theorem fnX11_350 : e_fn RX11 350 RX7 TX7 6 3 := ⟨by decide, ⟨"YardCourt", e_nest_in 394 (by decide +kernel) rfl⟩, iX7⟩
set_option maxRecDepth 100000 in
theorem fnX11_354 : e_fn RX11 354 RX7 TX7 6 4 := ⟨by decide, ⟨"YardCourt", e_nest_in 396 (by decide +kernel) rfl⟩, iX7⟩
set_option maxRecDepth 100000 in
theorem fnX11_337 : e_fn RX11 337 RX3 TX3 2 0 := ⟨by decide, ⟨"YardCourt", e_nest_in 418 (by decide +kernel) rfl⟩, iX3⟩
set_option maxRecDepth 100000 in
theorem fnX11_340 : e_fn RX11 340 RX3 TX3 2 1 := ⟨by decide, ⟨"YardCourt", e_nest_in 420 (by decide +kernel) rfl⟩, iX3⟩
set_option maxRecDepth 100000 in
theorem fnX0_45 : e_fn RX0 45 RX5 TX5 4 0 := ⟨by decide, ⟨"YardCourt", e_nest_in 767 (by decide +kernel) rfl⟩, iX5⟩
set_option maxRecDepth 100000 in
theorem fnX0_70 : e_fn RX0 70 RX5 TX5 4 1 := ⟨by decide, ⟨"YardCourt", e_nest_in 769 (by decide +kernel) rfl⟩, iX5⟩
set_option maxRecDepth 100000 in
theorem fnX0_67 : e_fn RX0 67 RX5 TX5 4 2 := ⟨by decide, ⟨"YardCourt", e_nest_in 771 (by decide +kernel) rfl⟩, iX5⟩
set_option maxRecDepth 100000 in
theorem fnX0_81 : e_fn RX0 81 RX5 TX5 4 3 := ⟨by decide, ⟨"YardCourt", e_nest_in 773 (by decide +kernel) rfl⟩, iX5⟩
theorem kJ6_264 : Cond.constant RJ6 264 (65536 : Int32) ∈ gT := gT_in 555 (by decide +kernel) rfl
theorem kJ6_265 : Cond.constant RJ6 265 (1431655765 : Int32) ∈ gT := gT_in 898 (by decide +kernel) rfl
theorem kJ6_266 : Cond.constant RJ6 266 (858993459 : Int32) ∈ gT := gT_in 899 (by decide +kernel) rfl
theorem kJ6_267 : Cond.constant RJ6 267 (252645135 : Int32) ∈ gT := gT_in 900 (by decide +kernel) rfl
theorem kX11_297 : Cond.constant RX11 297 (1000000 : Int32) ∈ gT := gT_in 1067 (by decide +kernel) rfl
theorem kX7_81 : Cond.constant RX7 81 (1000003 : Int32) ∈ gT := gT_in 1181 (by decide +kernel) rfl
theorem kX12_93 : Cond.constant RX12 93 (65536 : Int32) ∈ gT := gT_in 1239 (by decide +kernel) rfl
theorem kX0_94 : Cond.constantLong RX0 94 (-1000000000 : Int64) ∈ gT := gT_in 837 (by decide +kernel) rfl
theorem kX0_96 : Cond.constantLong RX0 96 (1000000000 : Int64) ∈ gT := gT_in 838 (by decide +kernel) rfl
theorem kX11_210 : Cond.constantLong RX11 210 (-1 : Int64) ∈ gT := gT_in 857 (by decide +kernel) rfl
theorem kX11_381 : Cond.constantLong RX11 381 (100 : Int64) ∈ gT := gT_in 904 (by decide +kernel) rfl
theorem kX11_236 : Cond.constantLong RX11 236 (9223372036854775807 : Int64) ∈ gT := gT_in 905 (by decide +kernel) rfl
theorem kX11_238 : Cond.constantLong RX11 238 (2 : Int64) ∈ gT := gT_in 906 (by decide +kernel) rfl
theorem kX4_13 : Cond.constantLong RX4 13 (100 : Int64) ∈ gT := gT_in 918 (by decide +kernel) rfl
theorem kX1_130 : Cond.constantLong RX1 130 (-9223372036854775808 : Int64) ∈ gT := gT_in 991 (by decide +kernel) rfl
theorem kX1_156 : Cond.constantLong RX1 156 (9223372036854775807 : Int64) ∈ gT := gT_in 1021 (by decide +kernel) rfl
theorem kX1_172 : Cond.constantLong RX1 172 (100 : Int64) ∈ gT := gT_in 1038 (by decide +kernel) rfl
theorem kX3_21 : Cond.constantLong RX3 21 (100 : Int64) ∈ gT := gT_in 1143 (by decide +kernel) rfl
theorem kX12_45 : Cond.constantLong RX12 45 (2262644 : Int64) ∈ gT := gT_in 1226 (by decide +kernel) rfl
theorem kX12_47 : Cond.constantLong RX12 47 (370116 : Int64) ∈ gT := gT_in 1227 (by decide +kernel) rfl
theorem kX12_49 : Cond.constantLong RX12 49 (290921650 : Int64) ∈ gT := gT_in 1228 (by decide +kernel) rfl
theorem kX12_51 : Cond.constantLong RX12 51 (624020 : Int64) ∈ gT := gT_in 1229 (by decide +kernel) rfl
theorem kX12_53 : Cond.constantLong RX12 53 (435588 : Int64) ∈ gT := gT_in 1230 (by decide +kernel) rfl
theorem kX12_55 : Cond.constantLong RX12 55 (203112114 : Int64) ∈ gT := gT_in 1231 (by decide +kernel) rfl
theorem kX12_57 : Cond.constantLong RX12 57 (278194 : Int64) ∈ gT := gT_in 1232 (by decide +kernel) rfl
theorem kX12_59 : Cond.constantLong RX12 59 (591150 : Int64) ∈ gT := gT_in 1233 (by decide +kernel) rfl
theorem kX12_61 : Cond.constantLong RX12 61 (631941 : Int64) ∈ gT := gT_in 1234 (by decide +kernel) rfl
theorem kX12_63 : Cond.constantLong RX12 63 (446125701 : Int64) ∈ gT := gT_in 1235 (by decide +kernel) rfl
theorem kX12_69 : Cond.constantLong RX12 69 (23580851 : Int64) ∈ gT := gT_in 1236 (by decide +kernel) rfl
theorem kX12_71 : Cond.constantLong RX12 71 (402611 : Int64) ∈ gT := gT_in 1237 (by decide +kernel) rfl
theorem kX12_73 : Cond.constantLong RX12 73 (17376357 : Int64) ∈ gT := gT_in 1238 (by decide +kernel) rfl
theorem kX12_143 : Cond.constantLong RX12 143 (9 : Int64) ∈ gT := gT_in 1413 (by decide +kernel) rfl
theorem kX12_145 : Cond.constantLong RX12 145 (99 : Int64) ∈ gT := gT_in 1414 (by decide +kernel) rfl
theorem kX12_147 : Cond.constantLong RX12 147 (3 : Int64) ∈ gT := gT_in 1415 (by decide +kernel) rfl
theorem kX12_161 : Cond.constantLong RX12 161 (5 : Int64) ∈ gT := gT_in 1436 (by decide +kernel) rfl
theorem kX12_141 : Cond.constantLong RX12 141 (23 : Int64) ∈ gT := gT_in 1448 (by decide +kernel) rfl
theorem kX12_175 : Cond.constantLong RX12 175 (8 : Int64) ∈ gT := gT_in 1476 (by decide +kernel) rfl
theorem kX12_177 : Cond.constantLong RX12 177 (999 : Int64) ∈ gT := gT_in 1477 (by decide +kernel) rfl
theorem kX12_179 : Cond.constantLong RX12 179 (100 : Int64) ∈ gT := gT_in 1478 (by decide +kernel) rfl
theorem kX12_217 : Cond.constantLong RX12 217 (32 : Int64) ∈ gT := gT_in 1513 (by decide +kernel) rfl
theorem kX12_219 : Cond.constantLong RX12 219 (96 : Int64) ∈ gT := gT_in 1514 (by decide +kernel) rfl
theorem kX12_221 : Cond.constantLong RX12 221 (-1 : Int64) ∈ gT := gT_in 1515 (by decide +kernel) rfl
theorem kX12_223 : Cond.constantLong RX12 223 (1000000 : Int64) ∈ gT := gT_in 1516 (by decide +kernel) rfl
theorem kX12_225 : Cond.constantLong RX12 225 (10 : Int64) ∈ gT := gT_in 1517 (by decide +kernel) rfl
theorem kX12_227 : Cond.constantLong RX12 227 (48 : Int64) ∈ gT := gT_in 1518 (by decide +kernel) rfl
theorem kX12_281 : Cond.constantLong RX12 281 (14836 : Int64) ∈ gT := gT_in 1539 (by decide +kernel) rfl
theorem kX12_275 : Cond.constantLong RX12 275 (1000 : Int64) ∈ gT := gT_in 1560 (by decide +kernel) rfl
theorem kX12_246 : Cond.constantLong RX12 246 (20 : Int64) ∈ gT := gT_in 1588 (by decide +kernel) rfl
theorem kX12_248 : Cond.constantLong RX12 248 (24 : Int64) ∈ gT := gT_in 1589 (by decide +kernel) rfl
theorem kX12_250 : Cond.constantLong RX12 250 (26 : Int64) ∈ gT := gT_in 1590 (by decide +kernel) rfl
theorem kX12_296 : Cond.constantLong RX12 296 (1476 : Int64) ∈ gT := gT_in 1595 (by decide +kernel) rfl
theorem kX12_298 : Cond.constantLong RX12 298 (498 : Int64) ∈ gT := gT_in 1596 (by decide +kernel) rfl
theorem kX12_316 : Cond.constantLong RX12 316 (294 : Int64) ∈ gT := gT_in 1597 (by decide +kernel) rfl
theorem kX12_334 : Cond.constantLong RX12 334 (-1000000000 : Int64) ∈ gT := gT_in 1626 (by decide +kernel) rfl
theorem kX12_336 : Cond.constantLong RX12 336 (1000000000 : Int64) ∈ gT := gT_in 1627 (by decide +kernel) rfl
theorem kX12_384 : Cond.constantLong RX12 384 (7 : Int64) ∈ gT := gT_in 1670 (by decide +kernel) rfl
theorem kX12_392 : Cond.constantLong RX12 392 (255 : Int64) ∈ gT := gT_in 1699 (by decide +kernel) rfl
theorem kX12_417 : Cond.constantLong RX12 417 (1000000000000000000 : Int64) ∈ gT := gT_in 1724 (by decide +kernel) rfl
theorem kX12_429 : Cond.constantLong RX12 429 (2 : Int64) ∈ gT := gT_in 1737 (by decide +kernel) rfl
theorem kX12_489 : Cond.constantLong RX12 489 (1103 : Int64) ∈ gT := gT_in 1861 (by decide +kernel) rfl
theorem kX12_491 : Cond.constantLong RX12 491 (12345 : Int64) ∈ gT := gT_in 1862 (by decide +kernel) rfl
theorem kX12_493 : Cond.constantLong RX12 493 (1000003 : Int64) ∈ gT := gT_in 1863 (by decide +kernel) rfl
theorem kX12_501 : Cond.constantLong RX12 501 (12 : Int64) ∈ gT := gT_in 1872 (by decide +kernel) rfl
theorem kX12_503 : Cond.constantLong RX12 503 (17 : Int64) ∈ gT := gT_in 1873 (by decide +kernel) rfl
set_option maxRecDepth 100000 in
theorem coX11_init : Cond.code yX11_init cX11_init 1 none ∈ gT := gT_in 125 (by decide +kernel) rfl
set_option maxRecDepth 100000 in
theorem mlL_9 : e_mi RL 9 yX11_init cX11_init 1 0 := ⟨⟨gT_in 123 (by decide +kernel) rfl, gT_in 100 (by decide +kernel) rfl, coX11_init, by decide, by decide +kernel⟩, gT_in 124 (by decide +kernel) rfl, rfl⟩
set_option maxRecDepth 100000 in
theorem coX10_init : Cond.code yX10_init cX10_init 1 none ∈ gT := gT_in 133 (by decide +kernel) rfl
set_option maxRecDepth 100000 in
theorem mlX11_9 : e_mi RX11 9 yX10_init cX10_init 1 0 := ⟨⟨gT_in 131 (by decide +kernel) rfl, gT_in 101 (by decide +kernel) rfl, coX10_init, by decide, by decide +kernel⟩, gT_in 132 (by decide +kernel) rfl, rfl⟩
set_option maxRecDepth 100000 in
theorem coX2_init : Cond.code yX2_init cX2_init 1 none ∈ gT := gT_in 150 (by decide +kernel) rfl
set_option maxRecDepth 100000 in
theorem mlX10_37 : e_mi RX10 37 yX2_init cX2_init 1 0 := ⟨⟨gT_in 148 (by decide +kernel) rfl, gT_in 102 (by decide +kernel) rfl, coX2_init, by decide, by decide +kernel⟩, gT_in 149 (by decide +kernel) rfl, rfl⟩
set_option maxRecDepth 100000 in
theorem coX9_init : Cond.code yX9_init cX9_init 1 none ∈ gT := gT_in 223 (by decide +kernel) rfl
set_option maxRecDepth 100000 in
theorem mlX11_26 : e_mi RX11 26 yX9_init cX9_init 1 0 := ⟨⟨gT_in 221 (by decide +kernel) rfl, gT_in 103 (by decide +kernel) rfl, coX9_init, by decide, by decide +kernel⟩, gT_in 222 (by decide +kernel) rfl, rfl⟩
set_option maxRecDepth 100000 in
theorem coX6_init : Cond.code yX6_init cX6_init 2 none ∈ gT := gT_in 240 (by decide +kernel) rfl
set_option maxRecDepth 100000 in
theorem mlX11_33 : e_mi RX11 33 yX6_init cX6_init 2 1 := ⟨⟨gT_in 238 (by decide +kernel) rfl, gT_in 104 (by decide +kernel) rfl, coX6_init, by decide, by decide +kernel⟩, gT_in 239 (by decide +kernel) rfl, rfl⟩
set_option maxRecDepth 100000 in
theorem coX0_init : Cond.code yX0_init cX0_init 1 none ∈ gT := gT_in 286 (by decide +kernel) rfl
set_option maxRecDepth 100000 in
theorem mlX11_42 : e_mi RX11 42 yX0_init cX0_init 1 0 := ⟨⟨gT_in 284 (by decide +kernel) rfl, gT_in 105 (by decide +kernel) rfl, coX0_init, by decide, by decide +kernel⟩, gT_in 285 (by decide +kernel) rfl, rfl⟩
set_option maxRecDepth 100000 in
theorem coX8_init : Cond.code yX8_init cX8_init 1 none ∈ gT := gT_in 306 (by decide +kernel) rfl
set_option maxRecDepth 100000 in
theorem mlX11_49 : e_mi RX11 49 yX8_init cX8_init 1 0 := ⟨⟨gT_in 304 (by decide +kernel) rfl, gT_in 106 (by decide +kernel) rfl, coX8_init, by decide, by decide +kernel⟩, gT_in 305 (by decide +kernel) rfl, rfl⟩
set_option maxRecDepth 100000 in
theorem coX1_init : Cond.code yX1_init cX1_init 2 none ∈ gT := gT_in 319 (by decide +kernel) rfl
set_option maxRecDepth 100000 in
theorem mlX11_56 : e_mi RX11 56 yX1_init cX1_init 2 0 := ⟨⟨gT_in 317 (by decide +kernel) rfl, gT_in 107 (by decide +kernel) rfl, coX1_init, by decide, by decide +kernel⟩, gT_in 318 (by decide +kernel) rfl, rfl⟩
set_option maxRecDepth 100000 in
theorem mlX1_40 : e_mi RX1 40 yX8_init cX8_init 1 0 := ⟨⟨gT_in 323 (by decide +kernel) rfl, gT_in 106 (by decide +kernel) rfl, coX8_init, by decide, by decide +kernel⟩, gT_in 305 (by decide +kernel) rfl, rfl⟩
set_option maxRecDepth 100000 in
theorem coX7_init : Cond.code yX7_init cX7_init 1 none ∈ gT := gT_in 386 (by decide +kernel) rfl
set_option maxRecDepth 100000 in
theorem mlX11_63 : e_mi RX11 63 yX7_init cX7_init 1 0 := ⟨⟨gT_in 384 (by decide +kernel) rfl, gT_in 108 (by decide +kernel) rfl, coX7_init, by decide, by decide +kernel⟩, gT_in 385 (by decide +kernel) rfl, rfl⟩
set_option maxRecDepth 100000 in
theorem coX3_init : Cond.code yX3_init cX3_init 1 none ∈ gT := gT_in 415 (by decide +kernel) rfl
set_option maxRecDepth 100000 in
theorem mlX11_70 : e_mi RX11 70 yX3_init cX3_init 1 0 := ⟨⟨gT_in 413 (by decide +kernel) rfl, gT_in 109 (by decide +kernel) rfl, coX3_init, by decide, by decide +kernel⟩, gT_in 414 (by decide +kernel) rfl, rfl⟩
set_option maxRecDepth 100000 in
theorem coX4_init : Cond.code yX4_init cX4_init 1 none ∈ gT := gT_in 430 (by decide +kernel) rfl
set_option maxRecDepth 100000 in
theorem mlX11_77 : e_mi RX11 77 yX4_init cX4_init 1 0 := ⟨⟨gT_in 428 (by decide +kernel) rfl, gT_in 110 (by decide +kernel) rfl, coX4_init, by decide, by decide +kernel⟩, gT_in 429 (by decide +kernel) rfl, rfl⟩
set_option maxRecDepth 100000 in
theorem coX11_beast : Cond.code yX11_beast cX11_beast 8 (some .int) ∈ gT := gT_in 488 (by decide +kernel) rfl
set_option maxRecDepth 100000 in
theorem mlL_13 : e_mv RL 13 yX11_beast cX11_beast 8 (some .int) 5 := ⟨⟨gT_in 485 (by decide +kernel) rfl, gT_in 100 (by decide +kernel) rfl, coX11_beast, by decide, by decide +kernel⟩, gT_in 486 (by decide +kernel) rfl, gT_in 487 (by decide +kernel) rfl⟩
set_option maxRecDepth 100000 in
theorem coX11_fitsTrait : Cond.code yX11_fitsTrait cX11_fitsTrait 2 (some .boolean) ∈ gT := gT_in 491 (by decide +kernel) rfl
set_option maxRecDepth 100000 in
theorem mlX11_93 : e_ms RX11 93 yX11_fitsTrait cX11_fitsTrait 2 (some .boolean) 2 := ⟨⟨gT_in 489 (by decide +kernel) rfl, gT_in 100 (by decide +kernel) rfl, coX11_fitsTrait, by decide, by decide +kernel⟩, gT_in 490 (by decide +kernel) rfl⟩
set_option maxRecDepth 100000 in
theorem coX11_refuse : Cond.code yX11_refuse cX11_refuse 2 (some .int) ∈ gT := gT_in 497 (by decide +kernel) rfl
set_option maxRecDepth 100000 in
theorem mlX11_97 : e_mv RX11 97 yX11_refuse cX11_refuse 2 (some .int) 1 := ⟨⟨gT_in 494 (by decide +kernel) rfl, gT_in 100 (by decide +kernel) rfl, coX11_refuse, by decide, by decide +kernel⟩, gT_in 496 (by decide +kernel) rfl, gT_in 0 (by decide +kernel) rfl⟩
set_option maxRecDepth 100000 in
theorem coX10_setTrait : Cond.code yX10_setTrait cX10_setTrait 4 none ∈ gT := gT_in 501 (by decide +kernel) rfl
set_option maxRecDepth 100000 in
theorem mlX11_104 : e_mv RX11 104 yX10_setTrait cX10_setTrait 4 none 3 := ⟨⟨gT_in 498 (by decide +kernel) rfl, gT_in 101 (by decide +kernel) rfl, coX10_setTrait, by decide, by decide +kernel⟩, gT_in 499 (by decide +kernel) rfl, gT_in 500 (by decide +kernel) rfl⟩
set_option maxRecDepth 100000 in
theorem coX11_accept : Cond.code yX11_accept cX11_accept 2 (some .int) ∈ gT := gT_in 505 (by decide +kernel) rfl
set_option maxRecDepth 100000 in
theorem mlX11_108 : e_mv RX11 108 yX11_accept cX11_accept 2 (some .int) 1 := ⟨⟨gT_in 502 (by decide +kernel) rfl, gT_in 100 (by decide +kernel) rfl, coX11_accept, by decide, by decide +kernel⟩, gT_in 504 (by decide +kernel) rfl, gT_in 1 (by decide +kernel) rfl⟩
set_option maxRecDepth 100000 in
theorem coX1_forget : Cond.code yX1_forget cX1_forget 1 none ∈ gT := gT_in 509 (by decide +kernel) rfl
set_option maxRecDepth 100000 in
theorem mlX11_134 : e_mv RX11 134 yX1_forget cX1_forget 1 none 0 := ⟨⟨gT_in 506 (by decide +kernel) rfl, gT_in 107 (by decide +kernel) rfl, coX1_forget, by decide, by decide +kernel⟩, gT_in 507 (by decide +kernel) rfl, gT_in 508 (by decide +kernel) rfl⟩
set_option maxRecDepth 100000 in
theorem coX11_put : Cond.code yX11_put cX11_put 5 (some .int) ∈ gT := gT_in 513 (by decide +kernel) rfl
set_option maxRecDepth 100000 in
theorem mlL_18 : e_mv RL 18 yX11_put cX11_put 5 (some .int) 3 := ⟨⟨gT_in 510 (by decide +kernel) rfl, gT_in 100 (by decide +kernel) rfl, coX11_put, by decide, by decide +kernel⟩, gT_in 511 (by decide +kernel) rfl, gT_in 512 (by decide +kernel) rfl⟩
set_option maxRecDepth 100000 in
theorem coX10_hasBeast : Cond.code yX10_hasBeast cX10_hasBeast 2 (some .boolean) ∈ gT := gT_in 517 (by decide +kernel) rfl
set_option maxRecDepth 100000 in
theorem mlX11_111 : e_mv RX11 111 yX10_hasBeast cX10_hasBeast 2 (some .boolean) 1 := ⟨⟨gT_in 514 (by decide +kernel) rfl, gT_in 101 (by decide +kernel) rfl, coX10_hasBeast, by decide, by decide +kernel⟩, gT_in 515 (by decide +kernel) rfl, gT_in 516 (by decide +kernel) rfl⟩
set_option maxRecDepth 100000 in
theorem coX10_trait : Cond.code yX10_trait cX10_trait 3 (some .int) ∈ gT := gT_in 521 (by decide +kernel) rfl
set_option maxRecDepth 100000 in
theorem mlX11_115 : e_mv RX11 115 yX10_trait cX10_trait 3 (some .int) 2 := ⟨⟨gT_in 518 (by decide +kernel) rfl, gT_in 101 (by decide +kernel) rfl, coX10_trait, by decide, by decide +kernel⟩, gT_in 519 (by decide +kernel) rfl, gT_in 520 (by decide +kernel) rfl⟩
set_option maxRecDepth 100000 in
theorem coX11_of : Cond.code yX11_of cX11_of 3 (some .int) ∈ gT := gT_in 525 (by decide +kernel) rfl
set_option maxRecDepth 100000 in
theorem mlL_23 : e_mv RL 23 yX11_of cX11_of 3 (some .int) 2 := ⟨⟨gT_in 522 (by decide +kernel) rfl, gT_in 100 (by decide +kernel) rfl, coX11_of, by decide, by decide +kernel⟩, gT_in 523 (by decide +kernel) rfl, gT_in 524 (by decide +kernel) rfl⟩
set_option maxRecDepth 100000 in
theorem coX11_meal : Cond.code yX11_meal cX11_meal 3 (some .int) ∈ gT := gT_in 529 (by decide +kernel) rfl
set_option maxRecDepth 100000 in
theorem mlL_28 : e_mv RL 28 yX11_meal cX11_meal 3 (some .int) 2 := ⟨⟨gT_in 526 (by decide +kernel) rfl, gT_in 100 (by decide +kernel) rfl, coX11_meal, by decide, by decide +kernel⟩, gT_in 527 (by decide +kernel) rfl, gT_in 528 (by decide +kernel) rfl⟩
set_option maxRecDepth 100000 in
theorem coX11_isHour : Cond.code yX11_isHour cX11_isHour 1 (some .boolean) ∈ gT := gT_in 532 (by decide +kernel) rfl
set_option maxRecDepth 100000 in
theorem mlX11_119 : e_ms RX11 119 yX11_isHour cX11_isHour 1 (some .boolean) 1 := ⟨⟨gT_in 530 (by decide +kernel) rfl, gT_in 100 (by decide +kernel) rfl, coX11_isHour, by decide, by decide +kernel⟩, gT_in 531 (by decide +kernel) rfl⟩
set_option maxRecDepth 100000 in
theorem coX11_fast : Cond.code yX11_fast cX11_fast 2 (some .int) ∈ gT := gT_in 536 (by decide +kernel) rfl
set_option maxRecDepth 100000 in
theorem mlL_32 : e_mv RL 32 yX11_fast cX11_fast 2 (some .int) 0 := ⟨⟨gT_in 533 (by decide +kernel) rfl, gT_in 100 (by decide +kernel) rfl, coX11_fast, by decide, by decide +kernel⟩, gT_in 534 (by decide +kernel) rfl, gT_in 535 (by decide +kernel) rfl⟩
set_option maxRecDepth 100000 in
theorem coJ7_fill_53178 : Cond.code yJ7_fill_53178 cJ7_fill_53178 4 none ∈ gT := gT_in 539 (by decide +kernel) rfl
set_option maxRecDepth 100000 in
theorem mlX11_128 : e_ms RX11 128 yJ7_fill_53178 cJ7_fill_53178 4 none 2 := ⟨⟨gT_in 537 (by decide +kernel) rfl, gT_in 112 (by decide +kernel) rfl, coJ7_fill_53178, by decide, by decide +kernel⟩, gT_in 538 (by decide +kernel) rfl⟩
set_option maxRecDepth 100000 in
theorem coX11_hunger : Cond.code yX11_hunger cX11_hunger 3 (some .int) ∈ gT := gT_in 543 (by decide +kernel) rfl
set_option maxRecDepth 100000 in
theorem mlL_37 : e_mv RL 37 yX11_hunger cX11_hunger 3 (some .int) 2 := ⟨⟨gT_in 540 (by decide +kernel) rfl, gT_in 100 (by decide +kernel) rfl, coX11_hunger, by decide, by decide +kernel⟩, gT_in 541 (by decide +kernel) rfl, gT_in 542 (by decide +kernel) rfl⟩
set_option maxRecDepth 100000 in
theorem coX10_hungerIn : Cond.code yX10_hungerIn cX10_hungerIn 6 (some .int) ∈ gT := gT_in 547 (by decide +kernel) rfl
set_option maxRecDepth 100000 in
theorem mlX11_137 : e_mv RX11 137 yX10_hungerIn cX10_hungerIn 6 (some .int) 2 := ⟨⟨gT_in 544 (by decide +kernel) rfl, gT_in 101 (by decide +kernel) rfl, coX10_hungerIn, by decide, by decide +kernel⟩, gT_in 545 (by decide +kernel) rfl, gT_in 546 (by decide +kernel) rfl⟩
set_option maxRecDepth 100000 in
theorem mlX10_72 : e_mv RX10 72 yX10_trait cX10_trait 3 (some .int) 2 := ⟨⟨gT_in 548 (by decide +kernel) rfl, gT_in 101 (by decide +kernel) rfl, coX10_trait, by decide, by decide +kernel⟩, gT_in 519 (by decide +kernel) rfl, gT_in 520 (by decide +kernel) rfl⟩
set_option maxRecDepth 100000 in
theorem coJ9_min_7cf53 : Cond.code yJ9_min_7cf53 cJ9_min_7cf53 2 (some .int) ∈ gT := gT_in 551 (by decide +kernel) rfl
set_option maxRecDepth 100000 in
theorem mlX10_76 : e_ms RX10 76 yJ9_min_7cf53 cJ9_min_7cf53 2 (some .int) 2 := ⟨⟨gT_in 549 (by decide +kernel) rfl, gT_in 113 (by decide +kernel) rfl, coJ9_min_7cf53, by decide, by decide +kernel⟩, gT_in 550 (by decide +kernel) rfl⟩
set_option maxRecDepth 100000 in
theorem coJ6_numberOfLeadingZeros_0f7a4 : Cond.code yJ6_numberOfLeadingZeros_0f7a4 cJ6_numberOfLeadingZeros_0f7a4 2 (some .int) ∈ gT := gT_in 554 (by decide +kernel) rfl
set_option maxRecDepth 100000 in
theorem mlX10_81 : e_ms RX10 81 yJ6_numberOfLeadingZeros_0f7a4 cJ6_numberOfLeadingZeros_0f7a4 2 (some .int) 1 := ⟨⟨gT_in 552 (by decide +kernel) rfl, gT_in 114 (by decide +kernel) rfl, coJ6_numberOfLeadingZeros_0f7a4, by decide, by decide +kernel⟩, gT_in 553 (by decide +kernel) rfl⟩
set_option maxRecDepth 100000 in
theorem coX11_bench : Cond.code yX11_bench cX11_bench 3 (some .int) ∈ gT := gT_in 559 (by decide +kernel) rfl
set_option maxRecDepth 100000 in
theorem mlL_41 : e_mv RL 41 yX11_bench cX11_bench 3 (some .int) 1 := ⟨⟨gT_in 556 (by decide +kernel) rfl, gT_in 100 (by decide +kernel) rfl, coX11_bench, by decide, by decide +kernel⟩, gT_in 557 (by decide +kernel) rfl, gT_in 558 (by decide +kernel) rfl⟩
set_option maxRecDepth 100000 in
theorem coX11_terms : Cond.code yX11_terms cX11_terms 4 (some .int) ∈ gT := gT_in 563 (by decide +kernel) rfl
set_option maxRecDepth 100000 in
theorem mlL_46 : e_mv RL 46 yX11_terms cX11_terms 4 (some .int) 2 := ⟨⟨gT_in 560 (by decide +kernel) rfl, gT_in 100 (by decide +kernel) rfl, coX11_terms, by decide, by decide +kernel⟩, gT_in 561 (by decide +kernel) rfl, gT_in 562 (by decide +kernel) rfl⟩
set_option maxRecDepth 100000 in
theorem coX11_feed : Cond.code yX11_feed cX11_feed 6 (some .int) ∈ gT := gT_in 571 (by decide +kernel) rfl
set_option maxRecDepth 100000 in
theorem mlL_50 : e_mv RL 50 yX11_feed cX11_feed 6 (some .int) 5 := ⟨⟨gT_in 568 (by decide +kernel) rfl, gT_in 100 (by decide +kernel) rfl, coX11_feed, by decide, by decide +kernel⟩, gT_in 569 (by decide +kernel) rfl, gT_in 570 (by decide +kernel) rfl⟩
set_option maxRecDepth 100000 in
theorem coX9_append : Cond.code yX9_append cX9_append 3 none ∈ gT := gT_in 575 (by decide +kernel) rfl
set_option maxRecDepth 100000 in
theorem mlX11_155 : e_mv RX11 155 yX9_append cX9_append 3 none 1 := ⟨⟨gT_in 572 (by decide +kernel) rfl, gT_in 103 (by decide +kernel) rfl, coX9_append, by decide, by decide +kernel⟩, gT_in 573 (by decide +kernel) rfl, gT_in 574 (by decide +kernel) rfl⟩
set_option maxRecDepth 100000 in
theorem coX11_end : Cond.code yX11_end cX11_end 2 (some .int) ∈ gT := gT_in 579 (by decide +kernel) rfl
set_option maxRecDepth 100000 in
theorem mlL_54 : e_mv RL 54 yX11_end cX11_end 2 (some .int) 1 := ⟨⟨gT_in 576 (by decide +kernel) rfl, gT_in 100 (by decide +kernel) rfl, coX11_end, by decide, by decide +kernel⟩, gT_in 577 (by decide +kernel) rfl, gT_in 578 (by decide +kernel) rfl⟩
set_option maxRecDepth 100000 in
theorem coX11_row : Cond.code yX11_row cX11_row 4 (some .int) ∈ gT := gT_in 583 (by decide +kernel) rfl
set_option maxRecDepth 100000 in
theorem mlL_58 : e_mv RL 58 yX11_row cX11_row 4 (some .int) 0 := ⟨⟨gT_in 580 (by decide +kernel) rfl, gT_in 100 (by decide +kernel) rfl, coX11_row, by decide, by decide +kernel⟩, gT_in 581 (by decide +kernel) rfl, gT_in 582 (by decide +kernel) rfl⟩
set_option maxRecDepth 100000 in
theorem coX9_at : Cond.code yX9_at cX9_at 2 (some .int) ∈ gT := gT_in 587 (by decide +kernel) rfl
set_option maxRecDepth 100000 in
theorem mlX11_162 : e_mv RX11 162 yX9_at cX9_at 2 (some .int) 1 := ⟨⟨gT_in 584 (by decide +kernel) rfl, gT_in 103 (by decide +kernel) rfl, coX9_at, by decide, by decide +kernel⟩, gT_in 585 (by decide +kernel) rfl, gT_in 586 (by decide +kernel) rfl⟩
set_option maxRecDepth 100000 in
theorem coX11_canJudge : Cond.code yX11_canJudge cX11_canJudge 3 (some .boolean) ∈ gT := gT_in 590 (by decide +kernel) rfl
set_option maxRecDepth 100000 in
theorem mlX11_165 : e_ms RX11 165 yX11_canJudge cX11_canJudge 3 (some .boolean) 3 := ⟨⟨gT_in 588 (by decide +kernel) rfl, gT_in 100 (by decide +kernel) rfl, coX11_canJudge, by decide, by decide +kernel⟩, gT_in 589 (by decide +kernel) rfl⟩
set_option maxRecDepth 100000 in
theorem coX11_isSide : Cond.code yX11_isSide cX11_isSide 1 (some .boolean) ∈ gT := gT_in 593 (by decide +kernel) rfl
set_option maxRecDepth 100000 in
theorem mlX11_203 : e_ms RX11 203 yX11_isSide cX11_isSide 1 (some .boolean) 1 := ⟨⟨gT_in 591 (by decide +kernel) rfl, gT_in 100 (by decide +kernel) rfl, coX11_isSide, by decide, by decide +kernel⟩, gT_in 592 (by decide +kernel) rfl⟩
set_option maxRecDepth 100000 in
theorem coX2_add : Cond.code yX2_add cX2_add 4 none ∈ gT := gT_in 597 (by decide +kernel) rfl
set_option maxRecDepth 100000 in
theorem mlX11_178 : e_mv RX11 178 yX2_add cX2_add 4 none 3 := ⟨⟨gT_in 594 (by decide +kernel) rfl, gT_in 102 (by decide +kernel) rfl, coX2_add, by decide, by decide +kernel⟩, gT_in 595 (by decide +kernel) rfl, gT_in 596 (by decide +kernel) rfl⟩
set_option maxRecDepth 100000 in
theorem coX11_quashed : Cond.code yX11_quashed cX11_quashed 1 (some .int) ∈ gT := gT_in 601 (by decide +kernel) rfl
set_option maxRecDepth 100000 in
theorem mlL_62 : e_mv RL 62 yX11_quashed cX11_quashed 1 (some .int) 0 := ⟨⟨gT_in 598 (by decide +kernel) rfl, gT_in 100 (by decide +kernel) rfl, coX11_quashed, by decide, by decide +kernel⟩, gT_in 599 (by decide +kernel) rfl, gT_in 600 (by decide +kernel) rfl⟩
set_option maxRecDepth 100000 in
theorem coX11_law : Cond.code yX11_law cX11_law 2 (some .int) ∈ gT := gT_in 605 (by decide +kernel) rfl
set_option maxRecDepth 100000 in
theorem mlL_66 : e_mv RL 66 yX11_law cX11_law 2 (some .int) 0 := ⟨⟨gT_in 602 (by decide +kernel) rfl, gT_in 100 (by decide +kernel) rfl, coX11_law, by decide, by decide +kernel⟩, gT_in 603 (by decide +kernel) rfl, gT_in 604 (by decide +kernel) rfl⟩
set_option maxRecDepth 100000 in
theorem coX6_read : Cond.code yX6_read cX6_read 2 (some (.object "YardCourt$Law")) ∈ gT := gT_in 609 (by decide +kernel) rfl
set_option maxRecDepth 100000 in
theorem mlX11_184 : e_mv RX11 184 yX6_read cX6_read 2 (some (.object "YardCourt$Law")) 0 := ⟨⟨gT_in 606 (by decide +kernel) rfl, gT_in 104 (by decide +kernel) rfl, coX6_read, by decide, by decide +kernel⟩, gT_in 607 (by decide +kernel) rfl, gT_in 608 (by decide +kernel) rfl⟩
set_option maxRecDepth 100000 in
theorem coX6_advance : Cond.code yX6_advance cX6_advance 3 none ∈ gT := gT_in 613 (by decide +kernel) rfl
set_option maxRecDepth 100000 in
theorem mlX6_47 : e_mv RX6 47 yX6_advance cX6_advance 3 none 0 := ⟨⟨gT_in 610 (by decide +kernel) rfl, gT_in 104 (by decide +kernel) rfl, coX6_advance, by decide, by decide +kernel⟩, gT_in 612 (by decide +kernel) rfl, gT_in 2 (by decide +kernel) rfl⟩
set_option maxRecDepth 100000 in
theorem mlX6_76 : e_mv RX6 76 yX9_at cX9_at 2 (some .int) 1 := ⟨⟨gT_in 614 (by decide +kernel) rfl, gT_in 103 (by decide +kernel) rfl, coX9_at, by decide, by decide +kernel⟩, gT_in 585 (by decide +kernel) rfl, gT_in 586 (by decide +kernel) rfl⟩
set_option maxRecDepth 100000 in
theorem coX6_isLetter : Cond.code yX6_isLetter cX6_isLetter 1 (some .boolean) ∈ gT := gT_in 617 (by decide +kernel) rfl
set_option maxRecDepth 100000 in
theorem mlX6_83 : e_ms RX6 83 yX6_isLetter cX6_isLetter 1 (some .boolean) 1 := ⟨⟨gT_in 615 (by decide +kernel) rfl, gT_in 104 (by decide +kernel) rfl, coX6_isLetter, by decide, by decide +kernel⟩, gT_in 616 (by decide +kernel) rfl⟩
set_option maxRecDepth 100000 in
theorem coX6_isDigit : Cond.code yX6_isDigit cX6_isDigit 1 (some .boolean) ∈ gT := gT_in 620 (by decide +kernel) rfl
set_option maxRecDepth 100000 in
theorem mlX6_87 : e_ms RX6 87 yX6_isDigit cX6_isDigit 1 (some .boolean) 1 := ⟨⟨gT_in 618 (by decide +kernel) rfl, gT_in 104 (by decide +kernel) rfl, coX6_isDigit, by decide, by decide +kernel⟩, gT_in 619 (by decide +kernel) rfl⟩
set_option maxRecDepth 100000 in
theorem mlX6_90 : e_ms RX6 90 yJ9_min_7cf53 cJ9_min_7cf53 2 (some .int) 2 := ⟨⟨gT_in 621 (by decide +kernel) rfl, gT_in 113 (by decide +kernel) rfl, coJ9_min_7cf53, by decide, by decide +kernel⟩, gT_in 550 (by decide +kernel) rfl⟩
set_option maxRecDepth 100000 in
theorem coX6_readClause : Cond.code yX6_readClause cX6_readClause 3 (some .boolean) ∈ gT := gT_in 625 (by decide +kernel) rfl
set_option maxRecDepth 100000 in
theorem mlX6_50 : e_mv RX6 50 yX6_readClause cX6_readClause 3 (some .boolean) 0 := ⟨⟨gT_in 622 (by decide +kernel) rfl, gT_in 104 (by decide +kernel) rfl, coX6_readClause, by decide, by decide +kernel⟩, gT_in 624 (by decide +kernel) rfl, gT_in 3 (by decide +kernel) rfl⟩
set_option maxRecDepth 100000 in
theorem coX6_headRead : Cond.code yX6_headRead cX6_headRead 1 (some .int) ∈ gT := gT_in 629 (by decide +kernel) rfl
set_option maxRecDepth 100000 in
theorem mlX6_108 : e_mv RX6 108 yX6_headRead cX6_headRead 1 (some .int) 0 := ⟨⟨gT_in 626 (by decide +kernel) rfl, gT_in 104 (by decide +kernel) rfl, coX6_headRead, by decide, by decide +kernel⟩, gT_in 628 (by decide +kernel) rfl, gT_in 4 (by decide +kernel) rfl⟩
set_option maxRecDepth 100000 in
theorem coX6_isWord : Cond.code yX6_isWord cX6_isWord 3 (some .boolean) ∈ gT := gT_in 634 (by decide +kernel) rfl
set_option maxRecDepth 100000 in
theorem mlX6_116 : e_mv RX6 116 yX6_isWord cX6_isWord 3 (some .boolean) 1 := ⟨⟨gT_in 631 (by decide +kernel) rfl, gT_in 104 (by decide +kernel) rfl, coX6_isWord, by decide, by decide +kernel⟩, gT_in 633 (by decide +kernel) rfl, gT_in 5 (by decide +kernel) rfl⟩
set_option maxRecDepth 100000 in
theorem coJ0_length_8abf5 : Cond.code yJ0_length_8abf5 cJ0_length_8abf5 1 (some .int) ∈ gT := gT_in 638 (by decide +kernel) rfl
set_option maxRecDepth 100000 in
theorem mlX6_96 : e_mv RX6 96 yJ0_length_8abf5 cJ0_length_8abf5 1 (some .int) 0 := ⟨⟨gT_in 635 (by decide +kernel) rfl, gT_in 115 (by decide +kernel) rfl, coJ0_length_8abf5, by decide, by decide +kernel⟩, gT_in 636 (by decide +kernel) rfl, gT_in 637 (by decide +kernel) rfl⟩
set_option maxRecDepth 100000 in
theorem coJ0_coder_7d493 : Cond.code yJ0_coder_7d493 cJ0_coder_7d493 1 (some .byte) ∈ gT := gT_in 642 (by decide +kernel) rfl
set_option maxRecDepth 100000 in
theorem mlJ0_335 : e_mv RJ0 335 yJ0_coder_7d493 cJ0_coder_7d493 1 (some .byte) 0 := ⟨⟨gT_in 639 (by decide +kernel) rfl, gT_in 115 (by decide +kernel) rfl, coJ0_coder_7d493, by decide, by decide +kernel⟩, gT_in 640 (by decide +kernel) rfl, gT_in 641 (by decide +kernel) rfl⟩
set_option maxRecDepth 100000 in
theorem coJ0_charAt_5068e : Cond.code yJ0_charAt_5068e cJ0_charAt_5068e 2 (some .char) ∈ gT := gT_in 648 (by decide +kernel) rfl
set_option maxRecDepth 100000 in
theorem mlX6_104 : e_mv RX6 104 yJ0_charAt_5068e cJ0_charAt_5068e 2 (some .char) 1 := ⟨⟨gT_in 645 (by decide +kernel) rfl, gT_in 115 (by decide +kernel) rfl, coJ0_charAt_5068e, by decide, by decide +kernel⟩, gT_in 646 (by decide +kernel) rfl, gT_in 647 (by decide +kernel) rfl⟩
set_option maxRecDepth 100000 in
theorem coJ0_isLatin1_aae02 : Cond.code yJ0_isLatin1_aae02 cJ0_isLatin1_aae02 1 (some .boolean) ∈ gT := gT_in 652 (by decide +kernel) rfl
set_option maxRecDepth 100000 in
theorem mlJ0_492 : e_mv RJ0 492 yJ0_isLatin1_aae02 cJ0_isLatin1_aae02 1 (some .boolean) 0 := ⟨⟨gT_in 649 (by decide +kernel) rfl, gT_in 115 (by decide +kernel) rfl, coJ0_isLatin1_aae02, by decide, by decide +kernel⟩, gT_in 650 (by decide +kernel) rfl, gT_in 651 (by decide +kernel) rfl⟩
set_option maxRecDepth 100000 in
theorem coJ1_charAt_3b067 : Cond.code yJ1_charAt_3b067 cJ1_charAt_3b067 2 (some .char) ∈ gT := gT_in 655 (by decide +kernel) rfl
set_option maxRecDepth 100000 in
theorem mlJ0_495 : e_ms RJ0 495 yJ1_charAt_3b067 cJ1_charAt_3b067 2 (some .char) 2 := ⟨⟨gT_in 653 (by decide +kernel) rfl, gT_in 116 (by decide +kernel) rfl, coJ1_charAt_3b067, by decide, by decide +kernel⟩, gT_in 654 (by decide +kernel) rfl⟩
set_option maxRecDepth 100000 in
theorem coJ0_checkIndex_df160 : Cond.code yJ0_checkIndex_df160 cJ0_checkIndex_df160 2 none ∈ gT := gT_in 658 (by decide +kernel) rfl
set_option maxRecDepth 100000 in
theorem mlJ1_9 : e_ms RJ1 9 yJ0_checkIndex_df160 cJ0_checkIndex_df160 2 none 2 := ⟨⟨gT_in 656 (by decide +kernel) rfl, gT_in 115 (by decide +kernel) rfl, coJ0_checkIndex_df160, by decide, by decide +kernel⟩, gT_in 657 (by decide +kernel) rfl⟩
set_option maxRecDepth 100000 in
theorem coJ3_checkIndex_8e157 : Cond.code yJ3_checkIndex_8e157 cJ3_checkIndex_8e157 3 (some .int) ∈ gT := gT_in 663 (by decide +kernel) rfl
set_option maxRecDepth 100000 in
theorem mlJ0_1059 : e_ms RJ0 1059 yJ3_checkIndex_8e157 cJ3_checkIndex_8e157 3 (some .int) 3 := ⟨⟨gT_in 661 (by decide +kernel) rfl, gT_in 117 (by decide +kernel) rfl, coJ3_checkIndex_8e157, by decide, by decide +kernel⟩, gT_in 662 (by decide +kernel) rfl⟩
set_option maxRecDepth 100000 in
theorem coJ2_charAt_3b067 : Cond.code yJ2_charAt_3b067 cJ2_charAt_3b067 2 (some .char) ∈ gT := gT_in 666 (by decide +kernel) rfl
set_option maxRecDepth 100000 in
theorem mlJ0_498 : e_ms RJ0 498 yJ2_charAt_3b067 cJ2_charAt_3b067 2 (some .char) 2 := ⟨⟨gT_in 664 (by decide +kernel) rfl, gT_in 118 (by decide +kernel) rfl, coJ2_charAt_3b067, by decide, by decide +kernel⟩, gT_in 665 (by decide +kernel) rfl⟩
set_option maxRecDepth 100000 in
theorem coJ2_checkIndex_2214a : Cond.code yJ2_checkIndex_2214a cJ2_checkIndex_2214a 2 none ∈ gT := gT_in 669 (by decide +kernel) rfl
set_option maxRecDepth 100000 in
theorem mlJ2_67 : e_ms RJ2 67 yJ2_checkIndex_2214a cJ2_checkIndex_2214a 2 none 2 := ⟨⟨gT_in 667 (by decide +kernel) rfl, gT_in 118 (by decide +kernel) rfl, coJ2_checkIndex_2214a, by decide, by decide +kernel⟩, gT_in 668 (by decide +kernel) rfl⟩
set_option maxRecDepth 100000 in
theorem coJ2_length_9d52b : Cond.code yJ2_length_9d52b cJ2_length_9d52b 1 (some .int) ∈ gT := gT_in 672 (by decide +kernel) rfl
set_option maxRecDepth 100000 in
theorem mlJ2_48 : e_ms RJ2 48 yJ2_length_9d52b cJ2_length_9d52b 1 (some .int) 1 := ⟨⟨gT_in 670 (by decide +kernel) rfl, gT_in 118 (by decide +kernel) rfl, coJ2_length_9d52b, by decide, by decide +kernel⟩, gT_in 671 (by decide +kernel) rfl⟩
set_option maxRecDepth 100000 in
theorem mlJ2_414 : e_ms RJ2 414 yJ0_checkIndex_df160 cJ0_checkIndex_df160 2 none 2 := ⟨⟨gT_in 673 (by decide +kernel) rfl, gT_in 115 (by decide +kernel) rfl, coJ0_checkIndex_df160, by decide, by decide +kernel⟩, gT_in 657 (by decide +kernel) rfl⟩
set_option maxRecDepth 100000 in
theorem coJ2_getChar_3b067 : Cond.code yJ2_getChar_3b067 cJ2_getChar_3b067 2 (some .char) ∈ gT := gT_in 676 (by decide +kernel) rfl
set_option maxRecDepth 100000 in
theorem mlJ2_71 : e_ms RJ2 71 yJ2_getChar_3b067 cJ2_getChar_3b067 2 (some .char) 2 := ⟨⟨gT_in 674 (by decide +kernel) rfl, gT_in 118 (by decide +kernel) rfl, coJ2_getChar_3b067, by decide, by decide +kernel⟩, gT_in 675 (by decide +kernel) rfl⟩
set_option maxRecDepth 100000 in
theorem coX6_readSum : Cond.code yX6_readSum cX6_readSum 5 (some .boolean) ∈ gT := gT_in 688 (by decide +kernel) rfl
set_option maxRecDepth 100000 in
theorem mlX6_111 : e_mv RX6 111 yX6_readSum cX6_readSum 5 (some .boolean) 1 := ⟨⟨gT_in 685 (by decide +kernel) rfl, gT_in 104 (by decide +kernel) rfl, coX6_readSum, by decide, by decide +kernel⟩, gT_in 687 (by decide +kernel) rfl, gT_in 6 (by decide +kernel) rfl⟩
set_option maxRecDepth 100000 in
theorem coX6_readTerm : Cond.code yX6_readTerm cX6_readTerm 5 (some .boolean) ∈ gT := gT_in 692 (by decide +kernel) rfl
set_option maxRecDepth 100000 in
theorem mlX6_155 : e_mv RX6 155 yX6_readTerm cX6_readTerm 5 (some .boolean) 1 := ⟨⟨gT_in 689 (by decide +kernel) rfl, gT_in 104 (by decide +kernel) rfl, coX6_readTerm, by decide, by decide +kernel⟩, gT_in 691 (by decide +kernel) rfl, gT_in 7 (by decide +kernel) rfl⟩
set_option maxRecDepth 100000 in
theorem coX6_readPart : Cond.code yX6_readPart cX6_readPart 4 (some .boolean) ∈ gT := gT_in 696 (by decide +kernel) rfl
set_option maxRecDepth 100000 in
theorem mlX6_158 : e_mv RX6 158 yX6_readPart cX6_readPart 4 (some .boolean) 1 := ⟨⟨gT_in 693 (by decide +kernel) rfl, gT_in 104 (by decide +kernel) rfl, coX6_readPart, by decide, by decide +kernel⟩, gT_in 695 (by decide +kernel) rfl, gT_in 8 (by decide +kernel) rfl⟩
set_option maxRecDepth 100000 in
theorem coX6_isSign : Cond.code yX6_isSign cX6_isSign 2 (some .boolean) ∈ gT := gT_in 700 (by decide +kernel) rfl
set_option maxRecDepth 100000 in
theorem mlX6_54 : e_mv RX6 54 yX6_isSign cX6_isSign 2 (some .boolean) 1 := ⟨⟨gT_in 697 (by decide +kernel) rfl, gT_in 104 (by decide +kernel) rfl, coX6_isSign, by decide, by decide +kernel⟩, gT_in 699 (by decide +kernel) rfl, gT_in 9 (by decide +kernel) rfl⟩
set_option maxRecDepth 100000 in
theorem coX6_readBracketedSum : Cond.code yX6_readBracketedSum cX6_readBracketedSum 2 (some .boolean) ∈ gT := gT_in 704 (by decide +kernel) rfl
set_option maxRecDepth 100000 in
theorem mlX6_161 : e_mv RX6 161 yX6_readBracketedSum cX6_readBracketedSum 2 (some .boolean) 1 := ⟨⟨gT_in 701 (by decide +kernel) rfl, gT_in 104 (by decide +kernel) rfl, coX6_readBracketedSum, by decide, by decide +kernel⟩, gT_in 703 (by decide +kernel) rfl, gT_in 10 (by decide +kernel) rfl⟩
set_option maxRecDepth 100000 in
theorem coX6_wordRead : Cond.code yX6_wordRead cX6_wordRead 1 (some .int) ∈ gT := gT_in 708 (by decide +kernel) rfl
set_option maxRecDepth 100000 in
theorem mlX6_164 : e_mv RX6 164 yX6_wordRead cX6_wordRead 1 (some .int) 0 := ⟨⟨gT_in 705 (by decide +kernel) rfl, gT_in 104 (by decide +kernel) rfl, coX6_wordRead, by decide, by decide +kernel⟩, gT_in 707 (by decide +kernel) rfl, gT_in 11 (by decide +kernel) rfl⟩
set_option maxRecDepth 100000 in
theorem coX6_emit : Cond.code yX6_emit cX6_emit 3 none ∈ gT := gT_in 722 (by decide +kernel) rfl
set_option maxRecDepth 100000 in
theorem mlX6_134 : e_mv RX6 134 yX6_emit cX6_emit 3 none 2 := ⟨⟨gT_in 719 (by decide +kernel) rfl, gT_in 104 (by decide +kernel) rfl, coX6_emit, by decide, by decide +kernel⟩, gT_in 721 (by decide +kernel) rfl, gT_in 12 (by decide +kernel) rfl⟩
set_option maxRecDepth 100000 in
theorem coX6_readTest : Cond.code yX6_readTest cX6_readTest 5 (some .boolean) ∈ gT := gT_in 727 (by decide +kernel) rfl
set_option maxRecDepth 100000 in
theorem mlX6_120 : e_mv RX6 120 yX6_readTest cX6_readTest 5 (some .boolean) 1 := ⟨⟨gT_in 724 (by decide +kernel) rfl, gT_in 104 (by decide +kernel) rfl, coX6_readTest, by decide, by decide +kernel⟩, gT_in 726 (by decide +kernel) rfl, gT_in 13 (by decide +kernel) rfl⟩
set_option maxRecDepth 100000 in
theorem coX6_readBoth : Cond.code yX6_readBoth cX6_readBoth 5 (some .boolean) ∈ gT := gT_in 731 (by decide +kernel) rfl
set_option maxRecDepth 100000 in
theorem mlX6_129 : e_mv RX6 129 yX6_readBoth cX6_readBoth 5 (some .boolean) 1 := ⟨⟨gT_in 728 (by decide +kernel) rfl, gT_in 104 (by decide +kernel) rfl, coX6_readBoth, by decide, by decide +kernel⟩, gT_in 730 (by decide +kernel) rfl, gT_in 14 (by decide +kernel) rfl⟩
set_option maxRecDepth 100000 in
theorem coX6_readPlain : Cond.code yX6_readPlain cX6_readPlain 4 (some .boolean) ∈ gT := gT_in 735 (by decide +kernel) rfl
set_option maxRecDepth 100000 in
theorem mlX6_142 : e_mv RX6 142 yX6_readPlain cX6_readPlain 4 (some .boolean) 1 := ⟨⟨gT_in 732 (by decide +kernel) rfl, gT_in 104 (by decide +kernel) rfl, coX6_readPlain, by decide, by decide +kernel⟩, gT_in 734 (by decide +kernel) rfl, gT_in 15 (by decide +kernel) rfl⟩
set_option maxRecDepth 100000 in
theorem coX6_readBracketedTest : Cond.code yX6_readBracketedTest cX6_readBracketedTest 2 (some .boolean) ∈ gT := gT_in 740 (by decide +kernel) rfl
set_option maxRecDepth 100000 in
theorem mlX6_149 : e_mv RX6 149 yX6_readBracketedTest cX6_readBracketedTest 2 (some .boolean) 1 := ⟨⟨gT_in 737 (by decide +kernel) rfl, gT_in 104 (by decide +kernel) rfl, coX6_readBracketedTest, by decide, by decide +kernel⟩, gT_in 739 (by decide +kernel) rfl, gT_in 16 (by decide +kernel) rfl⟩
set_option maxRecDepth 100000 in
theorem coX6_readComparison : Cond.code yX6_readComparison cX6_readComparison 3 (some .boolean) ∈ gT := gT_in 744 (by decide +kernel) rfl
set_option maxRecDepth 100000 in
theorem mlX6_152 : e_mv RX6 152 yX6_readComparison cX6_readComparison 3 (some .boolean) 1 := ⟨⟨gT_in 741 (by decide +kernel) rfl, gT_in 104 (by decide +kernel) rfl, coX6_readComparison, by decide, by decide +kernel⟩, gT_in 743 (by decide +kernel) rfl, gT_in 17 (by decide +kernel) rfl⟩
set_option maxRecDepth 100000 in
theorem coX6_aimHere : Cond.code yX6_aimHere cX6_aimHere 2 none ∈ gT := gT_in 749 (by decide +kernel) rfl
set_option maxRecDepth 100000 in
theorem mlX6_138 : e_mv RX6 138 yX6_aimHere cX6_aimHere 2 none 1 := ⟨⟨gT_in 746 (by decide +kernel) rfl, gT_in 104 (by decide +kernel) rfl, coX6_aimHere, by decide, by decide +kernel⟩, gT_in 748 (by decide +kernel) rfl, gT_in 18 (by decide +kernel) rfl⟩
set_option maxRecDepth 100000 in
theorem coJ7_copyOf_59c91 : Cond.code yJ7_copyOf_59c91 cJ7_copyOf_59c91 3 (some (.array .int)) ∈ gT := gT_in 755 (by decide +kernel) rfl
set_option maxRecDepth 100000 in
theorem mlX6_61 : e_ms RX6 61 yJ7_copyOf_59c91 cJ7_copyOf_59c91 3 (some (.array .int)) 2 := ⟨⟨gT_in 753 (by decide +kernel) rfl, gT_in 112 (by decide +kernel) rfl, coJ7_copyOf_59c91, by decide, by decide +kernel⟩, gT_in 754 (by decide +kernel) rfl⟩
set_option maxRecDepth 100000 in
theorem mlJ7_304 : e_ms RJ7 304 yJ9_min_7cf53 cJ9_min_7cf53 2 (some .int) 2 := ⟨⟨gT_in 758 (by decide +kernel) rfl, gT_in 113 (by decide +kernel) rfl, coJ9_min_7cf53, by decide, by decide +kernel⟩, gT_in 550 (by decide +kernel) rfl⟩
set_option maxRecDepth 100000 in
theorem coX5_init : Cond.code yX5_init cX5_init 5 none ∈ gT := gT_in 764 (by decide +kernel) rfl
set_option maxRecDepth 100000 in
theorem mlX6_67 : e_mi RX6 67 yX5_init cX5_init 5 4 := ⟨⟨gT_in 762 (by decide +kernel) rfl, gT_in 119 (by decide +kernel) rfl, coX5_init, by decide, by decide +kernel⟩, gT_in 763 (by decide +kernel) rfl, rfl⟩
set_option maxRecDepth 100000 in
theorem coX6_place : Cond.code yX6_place cX6_place 1 (some .int) ∈ gT := gT_in 787 (by decide +kernel) rfl
set_option maxRecDepth 100000 in
theorem mlX11_188 : e_mv RX11 188 yX6_place cX6_place 1 (some .int) 0 := ⟨⟨gT_in 784 (by decide +kernel) rfl, gT_in 104 (by decide +kernel) rfl, coX6_place, by decide, by decide +kernel⟩, gT_in 785 (by decide +kernel) rfl, gT_in 786 (by decide +kernel) rfl⟩
set_option maxRecDepth 100000 in
theorem coX11_fault : Cond.code yX11_fault cX11_fault 1 (some .int) ∈ gT := gT_in 791 (by decide +kernel) rfl
set_option maxRecDepth 100000 in
theorem mlL_70 : e_mv RL 70 yX11_fault cX11_fault 1 (some .int) 0 := ⟨⟨gT_in 788 (by decide +kernel) rfl, gT_in 100 (by decide +kernel) rfl, coX11_fault, by decide, by decide +kernel⟩, gT_in 789 (by decide +kernel) rfl, gT_in 790 (by decide +kernel) rfl⟩
set_option maxRecDepth 100000 in
theorem coX11_force : Cond.code yX11_force cX11_force 3 (some .int) ∈ gT := gT_in 795 (by decide +kernel) rfl
set_option maxRecDepth 100000 in
theorem mlL_74 : e_mv RL 74 yX11_force cX11_force 3 (some .int) 1 := ⟨⟨gT_in 792 (by decide +kernel) rfl, gT_in 100 (by decide +kernel) rfl, coX11_force, by decide, by decide +kernel⟩, gT_in 793 (by decide +kernel) rfl, gT_in 794 (by decide +kernel) rfl⟩
set_option maxRecDepth 100000 in
theorem coX11_chance : Cond.code yX11_chance cX11_chance 4 (some .int) ∈ gT := gT_in 799 (by decide +kernel) rfl
set_option maxRecDepth 100000 in
theorem mlL_78 : e_mv RL 78 yX11_chance cX11_chance 4 (some .int) 3 := ⟨⟨gT_in 796 (by decide +kernel) rfl, gT_in 100 (by decide +kernel) rfl, coX11_chance, by decide, by decide +kernel⟩, gT_in 797 (by decide +kernel) rfl, gT_in 798 (by decide +kernel) rfl⟩
set_option maxRecDepth 100000 in
theorem coX0_chanceOf : Cond.code yX0_chanceOf cX0_chanceOf 6 (some .int) ∈ gT := gT_in 803 (by decide +kernel) rfl
set_option maxRecDepth 100000 in
theorem mlX11_199 : e_mv RX11 199 yX0_chanceOf cX0_chanceOf 6 (some .int) 5 := ⟨⟨gT_in 800 (by decide +kernel) rfl, gT_in 105 (by decide +kernel) rfl, coX0_chanceOf, by decide, by decide +kernel⟩, gT_in 801 (by decide +kernel) rfl, gT_in 802 (by decide +kernel) rfl⟩
set_option maxRecDepth 100000 in
theorem coX0_learn : Cond.code yX0_learn cX0_learn 5 none ∈ gT := gT_in 807 (by decide +kernel) rfl
set_option maxRecDepth 100000 in
theorem mlX0_21 : e_mv RX0 21 yX0_learn cX0_learn 5 none 4 := ⟨⟨gT_in 804 (by decide +kernel) rfl, gT_in 105 (by decide +kernel) rfl, coX0_learn, by decide, by decide +kernel⟩, gT_in 806 (by decide +kernel) rfl, gT_in 19 (by decide +kernel) rfl⟩
set_option maxRecDepth 100000 in
theorem mlX0_38 : e_mv RX0 38 yX10_trait cX10_trait 3 (some .int) 2 := ⟨⟨gT_in 808 (by decide +kernel) rfl, gT_in 101 (by decide +kernel) rfl, coX10_trait, by decide, by decide +kernel⟩, gT_in 519 (by decide +kernel) rfl, gT_in 520 (by decide +kernel) rfl⟩
set_option maxRecDepth 100000 in
theorem mlX0_42 : e_mv RX0 42 yX10_hungerIn cX10_hungerIn 6 (some .int) 2 := ⟨⟨gT_in 809 (by decide +kernel) rfl, gT_in 101 (by decide +kernel) rfl, coX10_hungerIn, by decide, by decide +kernel⟩, gT_in 545 (by decide +kernel) rfl, gT_in 546 (by decide +kernel) rfl⟩
set_option maxRecDepth 100000 in
theorem coX10_ruling : Cond.code yX10_ruling cX10_ruling 1 (some (.object "YardCourt$Law")) ∈ gT := gT_in 813 (by decide +kernel) rfl
set_option maxRecDepth 100000 in
theorem mlX0_25 : e_mv RX0 25 yX10_ruling cX10_ruling 1 (some (.object "YardCourt$Law")) 0 := ⟨⟨gT_in 810 (by decide +kernel) rfl, gT_in 101 (by decide +kernel) rfl, coX10_ruling, by decide, by decide +kernel⟩, gT_in 811 (by decide +kernel) rfl, gT_in 812 (by decide +kernel) rfl⟩
set_option maxRecDepth 100000 in
theorem coX0_told : Cond.code yX0_told cX0_told 6 (some .int) ∈ gT := gT_in 817 (by decide +kernel) rfl
set_option maxRecDepth 100000 in
theorem mlX0_31 : e_mv RX0 31 yX0_told cX0_told 6 (some .int) 4 := ⟨⟨gT_in 814 (by decide +kernel) rfl, gT_in 105 (by decide +kernel) rfl, coX0_told, by decide, by decide +kernel⟩, gT_in 816 (by decide +kernel) rfl, gT_in 20 (by decide +kernel) rfl⟩
set_option maxRecDepth 100000 in
theorem coX0_holds : Cond.code yX0_holds cX0_holds 6 (some .boolean) ∈ gT := gT_in 821 (by decide +kernel) rfl
set_option maxRecDepth 100000 in
theorem mlX0_50 : e_mv RX0 50 yX0_holds cX0_holds 6 (some .boolean) 2 := ⟨⟨gT_in 818 (by decide +kernel) rfl, gT_in 105 (by decide +kernel) rfl, coX0_holds, by decide, by decide +kernel⟩, gT_in 820 (by decide +kernel) rfl, gT_in 21 (by decide +kernel) rfl⟩
set_option maxRecDepth 100000 in
theorem coX0_follow : Cond.code yX0_follow cX0_follow 8 (some .boolean) ∈ gT := gT_in 825 (by decide +kernel) rfl
set_option maxRecDepth 100000 in
theorem mlX0_73 : e_mv RX0 73 yX0_follow cX0_follow 8 (some .boolean) 3 := ⟨⟨gT_in 822 (by decide +kernel) rfl, gT_in 105 (by decide +kernel) rfl, coX0_follow, by decide, by decide +kernel⟩, gT_in 824 (by decide +kernel) rfl, gT_in 22 (by decide +kernel) rfl⟩
set_option maxRecDepth 100000 in
theorem coX0_push : Cond.code yX0_push cX0_push 2 none ∈ gT := gT_in 829 (by decide +kernel) rfl
set_option maxRecDepth 100000 in
theorem mlX0_84 : e_mv RX0 84 yX0_push cX0_push 2 none 1 := ⟨⟨gT_in 826 (by decide +kernel) rfl, gT_in 105 (by decide +kernel) rfl, coX0_push, by decide, by decide +kernel⟩, gT_in 828 (by decide +kernel) rfl, gT_in 23 (by decide +kernel) rfl⟩
set_option maxRecDepth 100000 in
theorem coJ9_max_7cf53 : Cond.code yJ9_max_7cf53 cJ9_max_7cf53 2 (some .int) ∈ gT := gT_in 832 (by decide +kernel) rfl
set_option maxRecDepth 100000 in
theorem mlX0_88 : e_ms RX0 88 yJ9_max_7cf53 cJ9_max_7cf53 2 (some .int) 2 := ⟨⟨gT_in 830 (by decide +kernel) rfl, gT_in 113 (by decide +kernel) rfl, coJ9_max_7cf53, by decide, by decide +kernel⟩, gT_in 831 (by decide +kernel) rfl⟩
set_option maxRecDepth 100000 in
theorem coX0_combine : Cond.code yX0_combine cX0_combine 8 (some .boolean) ∈ gT := gT_in 836 (by decide +kernel) rfl
set_option maxRecDepth 100000 in
theorem mlX0_90 : e_mv RX0 90 yX0_combine cX0_combine 8 (some .boolean) 1 := ⟨⟨gT_in 833 (by decide +kernel) rfl, gT_in 105 (by decide +kernel) rfl, coX0_combine, by decide, by decide +kernel⟩, gT_in 835 (by decide +kernel) rfl, gT_in 24 (by decide +kernel) rfl⟩
set_option maxRecDepth 100000 in
theorem coJ9_min_f86c9 : Cond.code yJ9_min_f86c9 cJ9_min_f86c9 4 (some .long) ∈ gT := gT_in 841 (by decide +kernel) rfl
set_option maxRecDepth 100000 in
theorem mlX0_58 : e_ms RX0 58 yJ9_min_f86c9 cJ9_min_f86c9 4 (some .long) 2 := ⟨⟨gT_in 839 (by decide +kernel) rfl, gT_in 113 (by decide +kernel) rfl, coJ9_min_f86c9, by decide, by decide +kernel⟩, gT_in 840 (by decide +kernel) rfl⟩
set_option maxRecDepth 100000 in
theorem coJ9_max_f86c9 : Cond.code yJ9_max_f86c9 cJ9_max_f86c9 4 (some .long) ∈ gT := gT_in 844 (by decide +kernel) rfl
set_option maxRecDepth 100000 in
theorem mlX0_64 : e_ms RX0 64 yJ9_max_f86c9 cJ9_max_f86c9 4 (some .long) 2 := ⟨⟨gT_in 842 (by decide +kernel) rfl, gT_in 113 (by decide +kernel) rfl, coJ9_max_f86c9, by decide, by decide +kernel⟩, gT_in 843 (by decide +kernel) rfl⟩
set_option maxRecDepth 100000 in
theorem coX11_price : Cond.code yX11_price cX11_price 3 (some .int) ∈ gT := gT_in 848 (by decide +kernel) rfl
set_option maxRecDepth 100000 in
theorem mlL_82 : e_mv RL 82 yX11_price cX11_price 3 (some .int) 2 := ⟨⟨gT_in 845 (by decide +kernel) rfl, gT_in 100 (by decide +kernel) rfl, coX11_price, by decide, by decide +kernel⟩, gT_in 846 (by decide +kernel) rfl, gT_in 847 (by decide +kernel) rfl⟩
set_option maxRecDepth 100000 in
theorem coX0_priceOf : Cond.code yX0_priceOf cX0_priceOf 4 (some .int) ∈ gT := gT_in 852 (by decide +kernel) rfl
set_option maxRecDepth 100000 in
theorem mlX11_206 : e_mv RX11 206 yX0_priceOf cX0_priceOf 4 (some .int) 3 := ⟨⟨gT_in 849 (by decide +kernel) rfl, gT_in 105 (by decide +kernel) rfl, coX0_priceOf, by decide, by decide +kernel⟩, gT_in 850 (by decide +kernel) rfl, gT_in 851 (by decide +kernel) rfl⟩
set_option maxRecDepth 100000 in
theorem coX11_odds : Cond.code yX11_odds cX11_odds 2 (some .long) ∈ gT := gT_in 856 (by decide +kernel) rfl
set_option maxRecDepth 100000 in
theorem mlL_86 : e_mv RL 86 yX11_odds cX11_odds 2 (some .long) 1 := ⟨⟨gT_in 853 (by decide +kernel) rfl, gT_in 100 (by decide +kernel) rfl, coX11_odds, by decide, by decide +kernel⟩, gT_in 854 (by decide +kernel) rfl, gT_in 855 (by decide +kernel) rfl⟩
set_option maxRecDepth 100000 in
theorem coX11_tallyBench : Cond.code yX11_tallyBench cX11_tallyBench 4 none ∈ gT := gT_in 861 (by decide +kernel) rfl
set_option maxRecDepth 100000 in
theorem mlX11_212 : e_mv RX11 212 yX11_tallyBench cX11_tallyBench 4 none 2 := ⟨⟨gT_in 858 (by decide +kernel) rfl, gT_in 100 (by decide +kernel) rfl, coX11_tallyBench, by decide, by decide +kernel⟩, gT_in 860 (by decide +kernel) rfl, gT_in 25 (by decide +kernel) rfl⟩
set_option maxRecDepth 100000 in
theorem coX8_clear : Cond.code yX8_clear cX8_clear 1 none ∈ gT := gT_in 865 (by decide +kernel) rfl
set_option maxRecDepth 100000 in
theorem mlX11_372 : e_mv RX11 372 yX8_clear cX8_clear 1 none 0 := ⟨⟨gT_in 862 (by decide +kernel) rfl, gT_in 106 (by decide +kernel) rfl, coX8_clear, by decide, by decide +kernel⟩, gT_in 863 (by decide +kernel) rfl, gT_in 864 (by decide +kernel) rfl⟩
set_option maxRecDepth 100000 in
theorem coJ7_fill_d0a16 : Cond.code yJ7_fill_d0a16 cJ7_fill_d0a16 5 none ∈ gT := gT_in 868 (by decide +kernel) rfl
set_option maxRecDepth 100000 in
theorem mlX8_15 : e_ms RX8 15 yJ7_fill_d0a16 cJ7_fill_d0a16 5 none 2 := ⟨⟨gT_in 866 (by decide +kernel) rfl, gT_in 112 (by decide +kernel) rfl, coJ7_fill_d0a16, by decide, by decide +kernel⟩, gT_in 867 (by decide +kernel) rfl⟩
set_option maxRecDepth 100000 in
theorem coX10_isSeated : Cond.code yX10_isSeated cX10_isSeated 2 (some .boolean) ∈ gT := gT_in 872 (by decide +kernel) rfl
set_option maxRecDepth 100000 in
theorem mlX11_223 : e_mv RX11 223 yX10_isSeated cX10_isSeated 2 (some .boolean) 1 := ⟨⟨gT_in 869 (by decide +kernel) rfl, gT_in 101 (by decide +kernel) rfl, coX10_isSeated, by decide, by decide +kernel⟩, gT_in 870 (by decide +kernel) rfl, gT_in 871 (by decide +kernel) rfl⟩
set_option maxRecDepth 100000 in
theorem mlX10_68 : e_mv RX10 68 yX10_hasBeast cX10_hasBeast 2 (some .boolean) 1 := ⟨⟨gT_in 873 (by decide +kernel) rfl, gT_in 101 (by decide +kernel) rfl, coX10_hasBeast, by decide, by decide +kernel⟩, gT_in 515 (by decide +kernel) rfl, gT_in 516 (by decide +kernel) rfl⟩
set_option maxRecDepth 100000 in
theorem coX8_vote : Cond.code yX8_vote cX8_vote 3 none ∈ gT := gT_in 877 (by decide +kernel) rfl
set_option maxRecDepth 100000 in
theorem mlX11_375 : e_mv RX11 375 yX8_vote cX8_vote 3 none 1 := ⟨⟨gT_in 874 (by decide +kernel) rfl, gT_in 106 (by decide +kernel) rfl, coX8_vote, by decide, by decide +kernel⟩, gT_in 875 (by decide +kernel) rfl, gT_in 876 (by decide +kernel) rfl⟩
set_option maxRecDepth 100000 in
theorem coX8_atLeast : Cond.code yX8_atLeast cX8_atLeast 5 (some .long) ∈ gT := gT_in 881 (by decide +kernel) rfl
set_option maxRecDepth 100000 in
theorem mlX11_216 : e_mv RX11 216 yX8_atLeast cX8_atLeast 5 (some .long) 1 := ⟨⟨gT_in 878 (by decide +kernel) rfl, gT_in 106 (by decide +kernel) rfl, coX8_atLeast, by decide, by decide +kernel⟩, gT_in 879 (by decide +kernel) rfl, gT_in 880 (by decide +kernel) rfl⟩
set_option maxRecDepth 100000 in
theorem mlX8_35 : e_ms RX8 35 yJ9_max_7cf53 cJ9_max_7cf53 2 (some .int) 2 := ⟨⟨gT_in 882 (by decide +kernel) rfl, gT_in 113 (by decide +kernel) rfl, coJ9_max_7cf53, by decide, by decide +kernel⟩, gT_in 831 (by decide +kernel) rfl⟩
set_option maxRecDepth 100000 in
theorem coX8_just : Cond.code yX8_just cX8_just 2 (some .long) ∈ gT := gT_in 886 (by decide +kernel) rfl
set_option maxRecDepth 100000 in
theorem mlX11_220 : e_mv RX11 220 yX8_just cX8_just 2 (some .long) 1 := ⟨⟨gT_in 883 (by decide +kernel) rfl, gT_in 106 (by decide +kernel) rfl, coX8_just, by decide, by decide +kernel⟩, gT_in 884 (by decide +kernel) rfl, gT_in 885 (by decide +kernel) rfl⟩
set_option maxRecDepth 100000 in
theorem coX11_tips : Cond.code yX11_tips cX11_tips 2 (some .long) ∈ gT := gT_in 890 (by decide +kernel) rfl
set_option maxRecDepth 100000 in
theorem mlL_91 : e_mv RL 91 yX11_tips cX11_tips 2 (some .long) 1 := ⟨⟨gT_in 887 (by decide +kernel) rfl, gT_in 100 (by decide +kernel) rfl, coX11_tips, by decide, by decide +kernel⟩, gT_in 888 (by decide +kernel) rfl, gT_in 889 (by decide +kernel) rfl⟩
set_option maxRecDepth 100000 in
theorem coX11_fairest : Cond.code yX11_fairest cX11_fairest 9 (some .int) ∈ gT := gT_in 894 (by decide +kernel) rfl
set_option maxRecDepth 100000 in
theorem mlL_132 : e_mv RL 132 yX11_fairest cX11_fairest 9 (some .int) 0 := ⟨⟨gT_in 891 (by decide +kernel) rfl, gT_in 100 (by decide +kernel) rfl, coX11_fairest, by decide, by decide +kernel⟩, gT_in 892 (by decide +kernel) rfl, gT_in 893 (by decide +kernel) rfl⟩
set_option maxRecDepth 100000 in
theorem coJ6_bitCount_0f7a4 : Cond.code yJ6_bitCount_0f7a4 cJ6_bitCount_0f7a4 1 (some .int) ∈ gT := gT_in 897 (by decide +kernel) rfl
set_option maxRecDepth 100000 in
theorem mlX11_226 : e_ms RX11 226 yJ6_bitCount_0f7a4 cJ6_bitCount_0f7a4 1 (some .int) 1 := ⟨⟨gT_in 895 (by decide +kernel) rfl, gT_in 114 (by decide +kernel) rfl, coJ6_bitCount_0f7a4, by decide, by decide +kernel⟩, gT_in 896 (by decide +kernel) rfl⟩
set_option maxRecDepth 100000 in
theorem coX11_power : Cond.code yX11_power cX11_power 4 (some .long) ∈ gT := gT_in 903 (by decide +kernel) rfl
set_option maxRecDepth 100000 in
theorem mlX11_231 : e_ms RX11 231 yX11_power cX11_power 4 (some .long) 1 := ⟨⟨gT_in 901 (by decide +kernel) rfl, gT_in 100 (by decide +kernel) rfl, coX11_power, by decide, by decide +kernel⟩, gT_in 902 (by decide +kernel) rfl⟩
set_option maxRecDepth 100000 in
theorem coJ9_abs_067f4 : Cond.code yJ9_abs_067f4 cJ9_abs_067f4 2 (some .long) ∈ gT := gT_in 909 (by decide +kernel) rfl
set_option maxRecDepth 100000 in
theorem mlX11_240 : e_ms RX11 240 yJ9_abs_067f4 cJ9_abs_067f4 2 (some .long) 1 := ⟨⟨gT_in 907 (by decide +kernel) rfl, gT_in 113 (by decide +kernel) rfl, coJ9_abs_067f4, by decide, by decide +kernel⟩, gT_in 908 (by decide +kernel) rfl⟩
set_option maxRecDepth 100000 in
theorem coX11_appeal : Cond.code yX11_appeal cX11_appeal 9 (some .int) ∈ gT := gT_in 913 (by decide +kernel) rfl
set_option maxRecDepth 100000 in
theorem mlL_165 : e_mv RL 165 yX11_appeal cX11_appeal 9 (some .int) 1 := ⟨⟨gT_in 910 (by decide +kernel) rfl, gT_in 100 (by decide +kernel) rfl, coX11_appeal, by decide, by decide +kernel⟩, gT_in 911 (by decide +kernel) rfl, gT_in 912 (by decide +kernel) rfl⟩
set_option maxRecDepth 100000 in
theorem coX4_become : Cond.code yX4_become cX4_become 6 none ∈ gT := gT_in 917 (by decide +kernel) rfl
set_option maxRecDepth 100000 in
theorem mlX11_246 : e_mv RX11 246 yX4_become cX4_become 6 none 1 := ⟨⟨gT_in 914 (by decide +kernel) rfl, gT_in 110 (by decide +kernel) rfl, coX4_become, by decide, by decide +kernel⟩, gT_in 915 (by decide +kernel) rfl, gT_in 916 (by decide +kernel) rfl⟩
set_option maxRecDepth 100000 in
theorem coX11_ways : Cond.code yX11_ways cX11_ways 4 (some .int) ∈ gT := gT_in 921 (by decide +kernel) rfl
set_option maxRecDepth 100000 in
theorem mlX11_250 : e_ms RX11 250 yX11_ways cX11_ways 4 (some .int) 2 := ⟨⟨gT_in 919 (by decide +kernel) rfl, gT_in 100 (by decide +kernel) rfl, coX11_ways, by decide, by decide +kernel⟩, gT_in 920 (by decide +kernel) rfl⟩
set_option maxRecDepth 100000 in
theorem coX4_multiply : Cond.code yX4_multiply cX4_multiply 8 none ∈ gT := gT_in 925 (by decide +kernel) rfl
set_option maxRecDepth 100000 in
theorem mlX11_253 : e_mv RX11 253 yX4_multiply cX4_multiply 8 none 1 := ⟨⟨gT_in 922 (by decide +kernel) rfl, gT_in 110 (by decide +kernel) rfl, coX4_multiply, by decide, by decide +kernel⟩, gT_in 923 (by decide +kernel) rfl, gT_in 924 (by decide +kernel) rfl⟩
set_option maxRecDepth 100000 in
theorem coX4_increase : Cond.code yX4_increase cX4_increase 7 none ∈ gT := gT_in 929 (by decide +kernel) rfl
set_option maxRecDepth 100000 in
theorem mlX11_256 : e_mv RX11 256 yX4_increase cX4_increase 7 none 1 := ⟨⟨gT_in 926 (by decide +kernel) rfl, gT_in 110 (by decide +kernel) rfl, coX4_increase, by decide, by decide +kernel⟩, gT_in 927 (by decide +kernel) rfl, gT_in 928 (by decide +kernel) rfl⟩
set_option maxRecDepth 100000 in
theorem coX4_millionths : Cond.code yX4_millionths cX4_millionths 4 (some .int) ∈ gT := gT_in 933 (by decide +kernel) rfl
set_option maxRecDepth 100000 in
theorem mlX11_260 : e_mv RX11 260 yX4_millionths cX4_millionths 4 (some .int) 1 := ⟨⟨gT_in 930 (by decide +kernel) rfl, gT_in 110 (by decide +kernel) rfl, coX4_millionths, by decide, by decide +kernel⟩, gT_in 931 (by decide +kernel) rfl, gT_in 932 (by decide +kernel) rfl⟩
set_option maxRecDepth 100000 in
theorem coX11_bribed : Cond.code yX11_bribed cX11_bribed 3 (some .long) ∈ gT := gT_in 937 (by decide +kernel) rfl
set_option maxRecDepth 100000 in
theorem mlL_95 : e_mv RL 95 yX11_bribed cX11_bribed 3 (some .long) 2 := ⟨⟨gT_in 934 (by decide +kernel) rfl, gT_in 100 (by decide +kernel) rfl, coX11_bribed, by decide, by decide +kernel⟩, gT_in 935 (by decide +kernel) rfl, gT_in 936 (by decide +kernel) rfl⟩
set_option maxRecDepth 100000 in
theorem coX1_learn : Cond.code yX1_learn cX1_learn 5 none ∈ gT := gT_in 941 (by decide +kernel) rfl
set_option maxRecDepth 100000 in
theorem mlX11_263 : e_mv RX11 263 yX1_learn cX1_learn 5 none 2 := ⟨⟨gT_in 938 (by decide +kernel) rfl, gT_in 107 (by decide +kernel) rfl, coX1_learn, by decide, by decide +kernel⟩, gT_in 939 (by decide +kernel) rfl, gT_in 940 (by decide +kernel) rfl⟩
set_option maxRecDepth 100000 in
theorem mlX1_72 : e_mv RX1 72 yX10_isSeated cX10_isSeated 2 (some .boolean) 1 := ⟨⟨gT_in 942 (by decide +kernel) rfl, gT_in 101 (by decide +kernel) rfl, coX10_isSeated, by decide, by decide +kernel⟩, gT_in 870 (by decide +kernel) rfl, gT_in 871 (by decide +kernel) rfl⟩
set_option maxRecDepth 100000 in
theorem mlX1_76 : e_mv RX1 76 yX10_trait cX10_trait 3 (some .int) 2 := ⟨⟨gT_in 943 (by decide +kernel) rfl, gT_in 101 (by decide +kernel) rfl, coX10_trait, by decide, by decide +kernel⟩, gT_in 519 (by decide +kernel) rfl, gT_in 520 (by decide +kernel) rfl⟩
set_option maxRecDepth 100000 in
theorem mlX1_80 : e_mv RX1 80 yX0_chanceOf cX0_chanceOf 6 (some .int) 5 := ⟨⟨gT_in 944 (by decide +kernel) rfl, gT_in 105 (by decide +kernel) rfl, coX0_chanceOf, by decide, by decide +kernel⟩, gT_in 801 (by decide +kernel) rfl, gT_in 802 (by decide +kernel) rfl⟩
set_option maxRecDepth 100000 in
theorem mlX1_86 : e_mv RX1 86 yX0_priceOf cX0_priceOf 4 (some .int) 3 := ⟨⟨gT_in 945 (by decide +kernel) rfl, gT_in 105 (by decide +kernel) rfl, coX0_priceOf, by decide, by decide +kernel⟩, gT_in 850 (by decide +kernel) rfl, gT_in 851 (by decide +kernel) rfl⟩
set_option maxRecDepth 100000 in
theorem coX1_addPrices : Cond.code yX1_addPrices cX1_addPrices 5 none ∈ gT := gT_in 949 (by decide +kernel) rfl
set_option maxRecDepth 100000 in
theorem mlX1_90 : e_mv RX1 90 yX1_addPrices cX1_addPrices 5 none 1 := ⟨⟨gT_in 946 (by decide +kernel) rfl, gT_in 107 (by decide +kernel) rfl, coX1_addPrices, by decide, by decide +kernel⟩, gT_in 948 (by decide +kernel) rfl, gT_in 26 (by decide +kernel) rfl⟩
set_option maxRecDepth 100000 in
theorem coJ6_numberOfTrailingZeros_0f7a4 : Cond.code yJ6_numberOfTrailingZeros_0f7a4 cJ6_numberOfTrailingZeros_0f7a4 2 (some .int) ∈ gT := gT_in 952 (by decide +kernel) rfl
set_option maxRecDepth 100000 in
theorem mlX1_94 : e_ms RX1 94 yJ6_numberOfTrailingZeros_0f7a4 cJ6_numberOfTrailingZeros_0f7a4 2 (some .int) 1 := ⟨⟨gT_in 950 (by decide +kernel) rfl, gT_in 114 (by decide +kernel) rfl, coJ6_numberOfTrailingZeros_0f7a4, by decide, by decide +kernel⟩, gT_in 951 (by decide +kernel) rfl⟩
set_option maxRecDepth 100000 in
theorem coX1_can : Cond.code yX1_can cX1_can 3 (some .boolean) ∈ gT := gT_in 956 (by decide +kernel) rfl
set_option maxRecDepth 100000 in
theorem mlX11_267 : e_mv RX11 267 yX1_can cX1_can 3 (some .boolean) 2 := ⟨⟨gT_in 953 (by decide +kernel) rfl, gT_in 107 (by decide +kernel) rfl, coX1_can, by decide, by decide +kernel⟩, gT_in 954 (by decide +kernel) rfl, gT_in 955 (by decide +kernel) rfl⟩
set_option maxRecDepth 100000 in
theorem coX1_affords : Cond.code yX1_affords cX1_affords 3 (some .boolean) ∈ gT := gT_in 960 (by decide +kernel) rfl
set_option maxRecDepth 100000 in
theorem mlX1_103 : e_mv RX1 103 yX1_affords cX1_affords 3 (some .boolean) 2 := ⟨⟨gT_in 957 (by decide +kernel) rfl, gT_in 107 (by decide +kernel) rfl, coX1_affords, by decide, by decide +kernel⟩, gT_in 959 (by decide +kernel) rfl, gT_in 27 (by decide +kernel) rfl⟩
set_option maxRecDepth 100000 in
theorem coX1_cost : Cond.code yX1_cost cX1_cost 3 (some .int) ∈ gT := gT_in 964 (by decide +kernel) rfl
set_option maxRecDepth 100000 in
theorem mlX1_100 : e_mv RX1 100 yX1_cost cX1_cost 3 (some .int) 2 := ⟨⟨gT_in 961 (by decide +kernel) rfl, gT_in 107 (by decide +kernel) rfl, coX1_cost, by decide, by decide +kernel⟩, gT_in 963 (by decide +kernel) rfl, gT_in 28 (by decide +kernel) rfl⟩
set_option maxRecDepth 100000 in
theorem coX1_winning : Cond.code yX1_winning cX1_winning 3 (some .long) ∈ gT := gT_in 968 (by decide +kernel) rfl
set_option maxRecDepth 100000 in
theorem mlX11_270 : e_mv RX11 270 yX1_winning cX1_winning 3 (some .long) 2 := ⟨⟨gT_in 965 (by decide +kernel) rfl, gT_in 107 (by decide +kernel) rfl, coX1_winning, by decide, by decide +kernel⟩, gT_in 966 (by decide +kernel) rfl, gT_in 967 (by decide +kernel) rfl⟩
set_option maxRecDepth 100000 in
theorem coX1_winningOn : Cond.code yX1_winningOn cX1_winningOn 6 (some .long) ∈ gT := gT_in 972 (by decide +kernel) rfl
set_option maxRecDepth 100000 in
theorem mlX1_107 : e_mv RX1 107 yX1_winningOn cX1_winningOn 6 (some .long) 4 := ⟨⟨gT_in 969 (by decide +kernel) rfl, gT_in 107 (by decide +kernel) rfl, coX1_winningOn, by decide, by decide +kernel⟩, gT_in 971 (by decide +kernel) rfl, gT_in 29 (by decide +kernel) rfl⟩
set_option maxRecDepth 100000 in
theorem mlX1_111 : e_mv RX1 111 yX8_clear cX8_clear 1 none 0 := ⟨⟨gT_in 973 (by decide +kernel) rfl, gT_in 106 (by decide +kernel) rfl, coX8_clear, by decide, by decide +kernel⟩, gT_in 863 (by decide +kernel) rfl, gT_in 864 (by decide +kernel) rfl⟩
set_option maxRecDepth 100000 in
theorem coX1_chanceWith : Cond.code yX1_chanceWith cX1_chanceWith 3 (some .int) ∈ gT := gT_in 977 (by decide +kernel) rfl
set_option maxRecDepth 100000 in
theorem mlX1_114 : e_mv RX1 114 yX1_chanceWith cX1_chanceWith 3 (some .int) 2 := ⟨⟨gT_in 974 (by decide +kernel) rfl, gT_in 107 (by decide +kernel) rfl, coX1_chanceWith, by decide, by decide +kernel⟩, gT_in 976 (by decide +kernel) rfl, gT_in 30 (by decide +kernel) rfl⟩
set_option maxRecDepth 100000 in
theorem mlX1_117 : e_mv RX1 117 yX8_vote cX8_vote 3 none 1 := ⟨⟨gT_in 978 (by decide +kernel) rfl, gT_in 106 (by decide +kernel) rfl, coX8_vote, by decide, by decide +kernel⟩, gT_in 875 (by decide +kernel) rfl, gT_in 876 (by decide +kernel) rfl⟩
set_option maxRecDepth 100000 in
theorem mlX1_120 : e_mv RX1 120 yX8_atLeast cX8_atLeast 5 (some .long) 1 := ⟨⟨gT_in 979 (by decide +kernel) rfl, gT_in 106 (by decide +kernel) rfl, coX8_atLeast, by decide, by decide +kernel⟩, gT_in 879 (by decide +kernel) rfl, gT_in 880 (by decide +kernel) rfl⟩
set_option maxRecDepth 100000 in
theorem coX11_reply : Cond.code yX11_reply cX11_reply 4 (some .int) ∈ gT := gT_in 983 (by decide +kernel) rfl
set_option maxRecDepth 100000 in
theorem mlL_100 : e_mv RL 100 yX11_reply cX11_reply 4 (some .int) 3 := ⟨⟨gT_in 980 (by decide +kernel) rfl, gT_in 100 (by decide +kernel) rfl, coX11_reply, by decide, by decide +kernel⟩, gT_in 981 (by decide +kernel) rfl, gT_in 982 (by decide +kernel) rfl⟩
set_option maxRecDepth 100000 in
theorem coX11_isEither : Cond.code yX11_isEither cX11_isEither 1 (some .boolean) ∈ gT := gT_in 986 (by decide +kernel) rfl
set_option maxRecDepth 100000 in
theorem mlX11_274 : e_ms RX11 274 yX11_isEither cX11_isEither 1 (some .boolean) 1 := ⟨⟨gT_in 984 (by decide +kernel) rfl, gT_in 100 (by decide +kernel) rfl, coX11_isEither, by decide, by decide +kernel⟩, gT_in 985 (by decide +kernel) rfl⟩
set_option maxRecDepth 100000 in
theorem coX1_bestReply : Cond.code yX1_bestReply cX1_bestReply 9 (some .int) ∈ gT := gT_in 990 (by decide +kernel) rfl
set_option maxRecDepth 100000 in
theorem mlX11_277 : e_mv RX11 277 yX1_bestReply cX1_bestReply 9 (some .int) 2 := ⟨⟨gT_in 987 (by decide +kernel) rfl, gT_in 107 (by decide +kernel) rfl, coX1_bestReply, by decide, by decide +kernel⟩, gT_in 988 (by decide +kernel) rfl, gT_in 989 (by decide +kernel) rfl⟩
set_option maxRecDepth 100000 in
theorem mlX1_132 : e_mv RX1 132 yX1_can cX1_can 3 (some .boolean) 2 := ⟨⟨gT_in 992 (by decide +kernel) rfl, gT_in 107 (by decide +kernel) rfl, coX1_can, by decide, by decide +kernel⟩, gT_in 954 (by decide +kernel) rfl, gT_in 955 (by decide +kernel) rfl⟩
set_option maxRecDepth 100000 in
theorem coX1_winningBy : Cond.code yX1_winningBy cX1_winningBy 4 (some .long) ∈ gT := gT_in 996 (by decide +kernel) rfl
set_option maxRecDepth 100000 in
theorem mlX1_135 : e_mv RX1 135 yX1_winningBy cX1_winningBy 4 (some .long) 3 := ⟨⟨gT_in 993 (by decide +kernel) rfl, gT_in 107 (by decide +kernel) rfl, coX1_winningBy, by decide, by decide +kernel⟩, gT_in 995 (by decide +kernel) rfl, gT_in 31 (by decide +kernel) rfl⟩
set_option maxRecDepth 100000 in
theorem mlX1_124 : e_mv RX1 124 yX1_winning cX1_winning 3 (some .long) 2 := ⟨⟨gT_in 997 (by decide +kernel) rfl, gT_in 107 (by decide +kernel) rfl, coX1_winning, by decide, by decide +kernel⟩, gT_in 966 (by decide +kernel) rfl, gT_in 967 (by decide +kernel) rfl⟩
set_option maxRecDepth 100000 in
theorem coX1_worth : Cond.code yX1_worth cX1_worth 3 (some .long) ∈ gT := gT_in 1000 (by decide +kernel) rfl
set_option maxRecDepth 100000 in
theorem mlX1_139 : e_ms RX1 139 yX1_worth cX1_worth 3 (some .long) 2 := ⟨⟨gT_in 998 (by decide +kernel) rfl, gT_in 107 (by decide +kernel) rfl, coX1_worth, by decide, by decide +kernel⟩, gT_in 999 (by decide +kernel) rfl⟩
set_option maxRecDepth 100000 in
theorem coX1_told : Cond.code yX1_told cX1_told 4 (some .int) ∈ gT := gT_in 1004 (by decide +kernel) rfl
set_option maxRecDepth 100000 in
theorem mlX11_280 : e_mv RX11 280 yX1_told cX1_told 4 (some .int) 3 := ⟨⟨gT_in 1001 (by decide +kernel) rfl, gT_in 107 (by decide +kernel) rfl, coX1_told, by decide, by decide +kernel⟩, gT_in 1002 (by decide +kernel) rfl, gT_in 1003 (by decide +kernel) rfl⟩
set_option maxRecDepth 100000 in
theorem coX11_sure : Cond.code yX11_sure cX11_sure 3 (some .int) ∈ gT := gT_in 1008 (by decide +kernel) rfl
set_option maxRecDepth 100000 in
theorem mlL_104 : e_mv RL 104 yX11_sure cX11_sure 3 (some .int) 2 := ⟨⟨gT_in 1005 (by decide +kernel) rfl, gT_in 100 (by decide +kernel) rfl, coX11_sure, by decide, by decide +kernel⟩, gT_in 1006 (by decide +kernel) rfl, gT_in 1007 (by decide +kernel) rfl⟩
set_option maxRecDepth 100000 in
theorem coX1_safest : Cond.code yX1_safest cX1_safest 6 (some .int) ∈ gT := gT_in 1012 (by decide +kernel) rfl
set_option maxRecDepth 100000 in
theorem mlX11_284 : e_mv RX11 284 yX1_safest cX1_safest 6 (some .int) 1 := ⟨⟨gT_in 1009 (by decide +kernel) rfl, gT_in 107 (by decide +kernel) rfl, coX1_safest, by decide, by decide +kernel⟩, gT_in 1010 (by decide +kernel) rfl, gT_in 1011 (by decide +kernel) rfl⟩
set_option maxRecDepth 100000 in
theorem coX1_left : Cond.code yX1_left cX1_left 3 (some .long) ∈ gT := gT_in 1016 (by decide +kernel) rfl
set_option maxRecDepth 100000 in
theorem mlX1_153 : e_mv RX1 153 yX1_left cX1_left 3 (some .long) 2 := ⟨⟨gT_in 1013 (by decide +kernel) rfl, gT_in 107 (by decide +kernel) rfl, coX1_left, by decide, by decide +kernel⟩, gT_in 1014 (by decide +kernel) rfl, gT_in 1015 (by decide +kernel) rfl⟩
set_option maxRecDepth 100000 in
theorem coX1_survey : Cond.code yX1_survey cX1_survey 1 none ∈ gT := gT_in 1020 (by decide +kernel) rfl
set_option maxRecDepth 100000 in
theorem mlX1_150 : e_mv RX1 150 yX1_survey cX1_survey 1 none 0 := ⟨⟨gT_in 1017 (by decide +kernel) rfl, gT_in 107 (by decide +kernel) rfl, coX1_survey, by decide, by decide +kernel⟩, gT_in 1019 (by decide +kernel) rfl, gT_in 32 (by decide +kernel) rfl⟩
set_option maxRecDepth 100000 in
theorem coJ7_fill_bad5a : Cond.code yJ7_fill_bad5a cJ7_fill_bad5a 6 none ∈ gT := gT_in 1024 (by decide +kernel) rfl
set_option maxRecDepth 100000 in
theorem mlX1_158 : e_ms RX1 158 yJ7_fill_bad5a cJ7_fill_bad5a 6 none 4 := ⟨⟨gT_in 1022 (by decide +kernel) rfl, gT_in 112 (by decide +kernel) rfl, coJ7_fill_bad5a, by decide, by decide +kernel⟩, gT_in 1023 (by decide +kernel) rfl⟩
set_option maxRecDepth 100000 in
theorem coJ7_rangeCheck_23922 : Cond.code yJ7_rangeCheck_23922 cJ7_rangeCheck_23922 3 none ∈ gT := gT_in 1027 (by decide +kernel) rfl
set_option maxRecDepth 100000 in
theorem mlJ7_13 : e_ms RJ7 13 yJ7_rangeCheck_23922 cJ7_rangeCheck_23922 3 none 3 := ⟨⟨gT_in 1025 (by decide +kernel) rfl, gT_in 112 (by decide +kernel) rfl, coJ7_rangeCheck_23922, by decide, by decide +kernel⟩, gT_in 1026 (by decide +kernel) rfl⟩
set_option maxRecDepth 100000 in
theorem coX1_note : Cond.code yX1_note cX1_note 5 none ∈ gT := gT_in 1031 (by decide +kernel) rfl
set_option maxRecDepth 100000 in
theorem mlX1_164 : e_mv RX1 164 yX1_note cX1_note 5 none 3 := ⟨⟨gT_in 1028 (by decide +kernel) rfl, gT_in 107 (by decide +kernel) rfl, coX1_note, by decide, by decide +kernel⟩, gT_in 1030 (by decide +kernel) rfl, gT_in 33 (by decide +kernel) rfl⟩
set_option maxRecDepth 100000 in
theorem mlX1_181 : e_ms RX1 181 yJ9_min_f86c9 cJ9_min_f86c9 4 (some .long) 2 := ⟨⟨gT_in 1032 (by decide +kernel) rfl, gT_in 113 (by decide +kernel) rfl, coJ9_min_f86c9, by decide, by decide +kernel⟩, gT_in 840 (by decide +kernel) rfl⟩
set_option maxRecDepth 100000 in
theorem mlX1_187 : e_ms RX1 187 yJ9_max_f86c9 cJ9_max_f86c9 4 (some .long) 2 := ⟨⟨gT_in 1033 (by decide +kernel) rfl, gT_in 113 (by decide +kernel) rfl, coJ9_max_f86c9, by decide, by decide +kernel⟩, gT_in 843 (by decide +kernel) rfl⟩
set_option maxRecDepth 100000 in
theorem coX1_pairFrom : Cond.code yX1_pairFrom cX1_pairFrom 14 none ∈ gT := gT_in 1037 (by decide +kernel) rfl
set_option maxRecDepth 100000 in
theorem mlX1_168 : e_mv RX1 168 yX1_pairFrom cX1_pairFrom 14 none 3 := ⟨⟨gT_in 1034 (by decide +kernel) rfl, gT_in 107 (by decide +kernel) rfl, coX1_pairFrom, by decide, by decide +kernel⟩, gT_in 1036 (by decide +kernel) rfl, gT_in 34 (by decide +kernel) rfl⟩
set_option maxRecDepth 100000 in
theorem mlX1_174 : e_mv RX1 174 yX8_just cX8_just 2 (some .long) 1 := ⟨⟨gT_in 1039 (by decide +kernel) rfl, gT_in 106 (by decide +kernel) rfl, coX8_just, by decide, by decide +kernel⟩, gT_in 884 (by decide +kernel) rfl, gT_in 885 (by decide +kernel) rfl⟩
set_option maxRecDepth 100000 in
theorem coX8_voteAfter : Cond.code yX8_voteAfter cX8_voteAfter 3 none ∈ gT := gT_in 1043 (by decide +kernel) rfl
set_option maxRecDepth 100000 in
theorem mlX1_177 : e_mv RX1 177 yX8_voteAfter cX8_voteAfter 3 none 2 := ⟨⟨gT_in 1040 (by decide +kernel) rfl, gT_in 106 (by decide +kernel) rfl, coX8_voteAfter, by decide, by decide +kernel⟩, gT_in 1041 (by decide +kernel) rfl, gT_in 1042 (by decide +kernel) rfl⟩
set_option maxRecDepth 100000 in
theorem mlX8_31 : e_mv RX8 31 yX8_vote cX8_vote 3 none 1 := ⟨⟨gT_in 1045 (by decide +kernel) rfl, gT_in 106 (by decide +kernel) rfl, coX8_vote, by decide, by decide +kernel⟩, gT_in 875 (by decide +kernel) rfl, gT_in 876 (by decide +kernel) rfl⟩
set_option maxRecDepth 100000 in
theorem coX11_value : Cond.code yX11_value cX11_value 2 (some .long) ∈ gT := gT_in 1049 (by decide +kernel) rfl
set_option maxRecDepth 100000 in
theorem mlL_108 : e_mv RL 108 yX11_value cX11_value 2 (some .long) 1 := ⟨⟨gT_in 1046 (by decide +kernel) rfl, gT_in 100 (by decide +kernel) rfl, coX11_value, by decide, by decide +kernel⟩, gT_in 1047 (by decide +kernel) rfl, gT_in 1048 (by decide +kernel) rfl⟩
set_option maxRecDepth 100000 in
theorem mlX11_287 : e_mv RX11 287 yX1_left cX1_left 3 (some .long) 2 := ⟨⟨gT_in 1050 (by decide +kernel) rfl, gT_in 107 (by decide +kernel) rfl, coX1_left, by decide, by decide +kernel⟩, gT_in 1014 (by decide +kernel) rfl, gT_in 1015 (by decide +kernel) rfl⟩
set_option maxRecDepth 100000 in
theorem coX11_saddle : Cond.code yX11_saddle cX11_saddle 4 (some .int) ∈ gT := gT_in 1054 (by decide +kernel) rfl
set_option maxRecDepth 100000 in
theorem mlL_112 : e_mv RL 112 yX11_saddle cX11_saddle 4 (some .int) 1 := ⟨⟨gT_in 1051 (by decide +kernel) rfl, gT_in 100 (by decide +kernel) rfl, coX11_saddle, by decide, by decide +kernel⟩, gT_in 1052 (by decide +kernel) rfl, gT_in 1053 (by decide +kernel) rfl⟩
set_option maxRecDepth 100000 in
theorem coX1_leaving : Cond.code yX1_leaving cX1_leaving 6 (some .int) ∈ gT := gT_in 1058 (by decide +kernel) rfl
set_option maxRecDepth 100000 in
theorem mlX11_290 : e_mv RX11 290 yX1_leaving cX1_leaving 6 (some .int) 2 := ⟨⟨gT_in 1055 (by decide +kernel) rfl, gT_in 107 (by decide +kernel) rfl, coX1_leaving, by decide, by decide +kernel⟩, gT_in 1056 (by decide +kernel) rfl, gT_in 1057 (by decide +kernel) rfl⟩
set_option maxRecDepth 100000 in
theorem coX1_firstLeaving : Cond.code yX1_firstLeaving cX1_firstLeaving 5 (some .int) ∈ gT := gT_in 1062 (by decide +kernel) rfl
set_option maxRecDepth 100000 in
theorem mlX11_294 : e_mv RX11 294 yX1_firstLeaving cX1_firstLeaving 5 (some .int) 2 := ⟨⟨gT_in 1059 (by decide +kernel) rfl, gT_in 107 (by decide +kernel) rfl, coX1_firstLeaving, by decide, by decide +kernel⟩, gT_in 1060 (by decide +kernel) rfl, gT_in 1061 (by decide +kernel) rfl⟩
set_option maxRecDepth 100000 in
theorem coX11_enough : Cond.code yX11_enough cX11_enough 4 (some .int) ∈ gT := gT_in 1066 (by decide +kernel) rfl
set_option maxRecDepth 100000 in
theorem mlL_116 : e_mv RL 116 yX11_enough cX11_enough 4 (some .int) 3 := ⟨⟨gT_in 1063 (by decide +kernel) rfl, gT_in 100 (by decide +kernel) rfl, coX11_enough, by decide, by decide +kernel⟩, gT_in 1064 (by decide +kernel) rfl, gT_in 1065 (by decide +kernel) rfl⟩
set_option maxRecDepth 100000 in
theorem coX1_cheapest : Cond.code yX1_cheapest cX1_cheapest 7 (some .int) ∈ gT := gT_in 1071 (by decide +kernel) rfl
set_option maxRecDepth 100000 in
theorem mlX11_298 : e_mv RX11 298 yX1_cheapest cX1_cheapest 7 (some .int) 2 := ⟨⟨gT_in 1068 (by decide +kernel) rfl, gT_in 107 (by decide +kernel) rfl, coX1_cheapest, by decide, by decide +kernel⟩, gT_in 1069 (by decide +kernel) rfl, gT_in 1070 (by decide +kernel) rfl⟩
set_option maxRecDepth 100000 in
theorem coX1_reaches : Cond.code yX1_reaches cX1_reaches 4 (some .boolean) ∈ gT := gT_in 1076 (by decide +kernel) rfl
set_option maxRecDepth 100000 in
theorem mlX1_146 : e_mv RX1 146 yX1_reaches cX1_reaches 4 (some .boolean) 2 := ⟨⟨gT_in 1073 (by decide +kernel) rfl, gT_in 107 (by decide +kernel) rfl, coX1_reaches, by decide, by decide +kernel⟩, gT_in 1075 (by decide +kernel) rfl, gT_in 35 (by decide +kernel) rfl⟩
set_option maxRecDepth 100000 in
theorem coX11_bribe : Cond.code yX11_bribe cX11_bribe 5 (some .int) ∈ gT := gT_in 1080 (by decide +kernel) rfl
set_option maxRecDepth 100000 in
theorem mlL_120 : e_mv RL 120 yX11_bribe cX11_bribe 5 (some .int) 2 := ⟨⟨gT_in 1077 (by decide +kernel) rfl, gT_in 100 (by decide +kernel) rfl, coX11_bribe, by decide, by decide +kernel⟩, gT_in 1078 (by decide +kernel) rfl, gT_in 1079 (by decide +kernel) rfl⟩
set_option maxRecDepth 100000 in
theorem coX11_steady : Cond.code yX11_steady cX11_steady 3 (some .int) ∈ gT := gT_in 1084 (by decide +kernel) rfl
set_option maxRecDepth 100000 in
theorem mlL_124 : e_mv RL 124 yX11_steady cX11_steady 3 (some .int) 2 := ⟨⟨gT_in 1081 (by decide +kernel) rfl, gT_in 100 (by decide +kernel) rfl, coX11_steady, by decide, by decide +kernel⟩, gT_in 1082 (by decide +kernel) rfl, gT_in 1083 (by decide +kernel) rfl⟩
set_option maxRecDepth 100000 in
theorem coX1_steadiest : Cond.code yX1_steadiest cX1_steadiest 5 none ∈ gT := gT_in 1088 (by decide +kernel) rfl
set_option maxRecDepth 100000 in
theorem mlX11_301 : e_mv RX11 301 yX1_steadiest cX1_steadiest 5 none 1 := ⟨⟨gT_in 1085 (by decide +kernel) rfl, gT_in 107 (by decide +kernel) rfl, coX1_steadiest, by decide, by decide +kernel⟩, gT_in 1086 (by decide +kernel) rfl, gT_in 1087 (by decide +kernel) rfl⟩
set_option maxRecDepth 100000 in
theorem mlX1_200 : e_ms RX1 200 yJ6_bitCount_0f7a4 cJ6_bitCount_0f7a4 1 (some .int) 1 := ⟨⟨gT_in 1089 (by decide +kernel) rfl, gT_in 114 (by decide +kernel) rfl, coJ6_bitCount_0f7a4, by decide, by decide +kernel⟩, gT_in 896 (by decide +kernel) rfl⟩
set_option maxRecDepth 100000 in
theorem coX1_bestAlone : Cond.code yX1_bestAlone cX1_bestAlone 9 (some .long) ∈ gT := gT_in 1093 (by decide +kernel) rfl
set_option maxRecDepth 100000 in
theorem mlX1_203 : e_mv RX1 203 yX1_bestAlone cX1_bestAlone 9 (some .long) 3 := ⟨⟨gT_in 1090 (by decide +kernel) rfl, gT_in 107 (by decide +kernel) rfl, coX1_bestAlone, by decide, by decide +kernel⟩, gT_in 1092 (by decide +kernel) rfl, gT_in 36 (by decide +kernel) rfl⟩
set_option maxRecDepth 100000 in
theorem coX11_swing : Cond.code yX11_swing cX11_swing 2 (some .long) ∈ gT := gT_in 1097 (by decide +kernel) rfl
set_option maxRecDepth 100000 in
theorem mlL_128 : e_mv RL 128 yX11_swing cX11_swing 2 (some .long) 1 := ⟨⟨gT_in 1094 (by decide +kernel) rfl, gT_in 100 (by decide +kernel) rfl, coX11_swing, by decide, by decide +kernel⟩, gT_in 1095 (by decide +kernel) rfl, gT_in 1096 (by decide +kernel) rfl⟩
set_option maxRecDepth 100000 in
theorem coX11_judged : Cond.code yX11_judged cX11_judged 4 (some .int) ∈ gT := gT_in 1101 (by decide +kernel) rfl
set_option maxRecDepth 100000 in
theorem mlL_136 : e_mv RL 136 yX11_judged cX11_judged 4 (some .int) 3 := ⟨⟨gT_in 1098 (by decide +kernel) rfl, gT_in 100 (by decide +kernel) rfl, coX11_judged, by decide, by decide +kernel⟩, gT_in 1099 (by decide +kernel) rfl, gT_in 1100 (by decide +kernel) rfl⟩
set_option maxRecDepth 100000 in
theorem coX11_annul : Cond.code yX11_annul cX11_annul 2 (some .int) ∈ gT := gT_in 1105 (by decide +kernel) rfl
set_option maxRecDepth 100000 in
theorem mlL_140 : e_mv RL 140 yX11_annul cX11_annul 2 (some .int) 1 := ⟨⟨gT_in 1102 (by decide +kernel) rfl, gT_in 100 (by decide +kernel) rfl, coX11_annul, by decide, by decide +kernel⟩, gT_in 1103 (by decide +kernel) rfl, gT_in 1104 (by decide +kernel) rfl⟩
set_option maxRecDepth 100000 in
theorem coX2_drop : Cond.code yX2_drop cX2_drop 3 none ∈ gT := gT_in 1109 (by decide +kernel) rfl
set_option maxRecDepth 100000 in
theorem mlX11_314 : e_mv RX11 314 yX2_drop cX2_drop 3 none 1 := ⟨⟨gT_in 1106 (by decide +kernel) rfl, gT_in 102 (by decide +kernel) rfl, coX2_drop, by decide, by decide +kernel⟩, gT_in 1107 (by decide +kernel) rfl, gT_in 1108 (by decide +kernel) rfl⟩
set_option maxRecDepth 100000 in
theorem coX11_right : Cond.code yX11_right cX11_right 3 (some .int) ∈ gT := gT_in 1113 (by decide +kernel) rfl
set_option maxRecDepth 100000 in
theorem mlL_144 : e_mv RL 144 yX11_right cX11_right 3 (some .int) 2 := ⟨⟨gT_in 1110 (by decide +kernel) rfl, gT_in 100 (by decide +kernel) rfl, coX11_right, by decide, by decide +kernel⟩, gT_in 1111 (by decide +kernel) rfl, gT_in 1112 (by decide +kernel) rfl⟩
set_option maxRecDepth 100000 in
theorem coX2_mostRight : Cond.code yX2_mostRight cX2_mostRight 3 (some .int) ∈ gT := gT_in 1117 (by decide +kernel) rfl
set_option maxRecDepth 100000 in
theorem mlX11_317 : e_mv RX11 317 yX2_mostRight cX2_mostRight 3 (some .int) 0 := ⟨⟨gT_in 1114 (by decide +kernel) rfl, gT_in 102 (by decide +kernel) rfl, coX2_mostRight, by decide, by decide +kernel⟩, gT_in 1115 (by decide +kernel) rfl, gT_in 1116 (by decide +kernel) rfl⟩
set_option maxRecDepth 100000 in
theorem coX2_votedRight : Cond.code yX2_votedRight cX2_votedRight 2 (some .int) ∈ gT := gT_in 1121 (by decide +kernel) rfl
set_option maxRecDepth 100000 in
theorem mlX2_31 : e_mv RX2 31 yX2_votedRight cX2_votedRight 2 (some .int) 1 := ⟨⟨gT_in 1118 (by decide +kernel) rfl, gT_in 102 (by decide +kernel) rfl, coX2_votedRight, by decide, by decide +kernel⟩, gT_in 1119 (by decide +kernel) rfl, gT_in 1120 (by decide +kernel) rfl⟩
set_option maxRecDepth 100000 in
theorem mlX2_35 : e_ms RX2 35 yJ6_bitCount_0f7a4 cJ6_bitCount_0f7a4 1 (some .int) 1 := ⟨⟨gT_in 1122 (by decide +kernel) rfl, gT_in 114 (by decide +kernel) rfl, coJ6_bitCount_0f7a4, by decide, by decide +kernel⟩, gT_in 896 (by decide +kernel) rfl⟩
set_option maxRecDepth 100000 in
theorem coX2_times : Cond.code yX2_times cX2_times 7 (some .int) ∈ gT := gT_in 1126 (by decide +kernel) rfl
set_option maxRecDepth 100000 in
theorem mlX11_320 : e_mv RX11 320 yX2_times cX2_times 7 (some .int) 3 := ⟨⟨gT_in 1123 (by decide +kernel) rfl, gT_in 102 (by decide +kernel) rfl, coX2_times, by decide, by decide +kernel⟩, gT_in 1124 (by decide +kernel) rfl, gT_in 1125 (by decide +kernel) rfl⟩
set_option maxRecDepth 100000 in
theorem coX11_agree : Cond.code yX11_agree cX11_agree 5 (some .int) ∈ gT := gT_in 1130 (by decide +kernel) rfl
set_option maxRecDepth 100000 in
theorem mlL_148 : e_mv RL 148 yX11_agree cX11_agree 5 (some .int) 3 := ⟨⟨gT_in 1127 (by decide +kernel) rfl, gT_in 100 (by decide +kernel) rfl, coX11_agree, by decide, by decide +kernel⟩, gT_in 1128 (by decide +kernel) rfl, gT_in 1129 (by decide +kernel) rfl⟩
set_option maxRecDepth 100000 in
theorem coX2_together : Cond.code yX2_together cX2_together 8 (some .int) ∈ gT := gT_in 1134 (by decide +kernel) rfl
set_option maxRecDepth 100000 in
theorem mlX11_323 : e_mv RX11 323 yX2_together cX2_together 8 (some .int) 3 := ⟨⟨gT_in 1131 (by decide +kernel) rfl, gT_in 102 (by decide +kernel) rfl, coX2_together, by decide, by decide +kernel⟩, gT_in 1132 (by decide +kernel) rfl, gT_in 1133 (by decide +kernel) rfl⟩
set_option maxRecDepth 100000 in
theorem coX11_again : Cond.code yX11_again cX11_again 3 (some .long) ∈ gT := gT_in 1138 (by decide +kernel) rfl
set_option maxRecDepth 100000 in
theorem mlL_152 : e_mv RL 152 yX11_again cX11_again 3 (some .long) 2 := ⟨⟨gT_in 1135 (by decide +kernel) rfl, gT_in 100 (by decide +kernel) rfl, coX11_again, by decide, by decide +kernel⟩, gT_in 1136 (by decide +kernel) rfl, gT_in 1137 (by decide +kernel) rfl⟩
set_option maxRecDepth 100000 in
theorem coX3_weigh : Cond.code yX3_weigh cX3_weigh 13 none ∈ gT := gT_in 1142 (by decide +kernel) rfl
set_option maxRecDepth 100000 in
theorem mlX11_333 : e_mv RX11 333 yX3_weigh cX3_weigh 13 none 4 := ⟨⟨gT_in 1139 (by decide +kernel) rfl, gT_in 109 (by decide +kernel) rfl, coX3_weigh, by decide, by decide +kernel⟩, gT_in 1140 (by decide +kernel) rfl, gT_in 1141 (by decide +kernel) rfl⟩
set_option maxRecDepth 100000 in
theorem mlX3_27 : e_mv RX3 27 yX2_times cX2_times 7 (some .int) 3 := ⟨⟨gT_in 1144 (by decide +kernel) rfl, gT_in 102 (by decide +kernel) rfl, coX2_times, by decide, by decide +kernel⟩, gT_in 1124 (by decide +kernel) rfl, gT_in 1125 (by decide +kernel) rfl⟩
set_option maxRecDepth 100000 in
theorem coX3_commonDivisor : Cond.code yX3_commonDivisor cX3_commonDivisor 11 (some .long) ∈ gT := gT_in 1147 (by decide +kernel) rfl
set_option maxRecDepth 100000 in
theorem mlX3_33 : e_ms RX3 33 yX3_commonDivisor cX3_commonDivisor 11 (some .long) 2 := ⟨⟨gT_in 1145 (by decide +kernel) rfl, gT_in 109 (by decide +kernel) rfl, coX3_commonDivisor, by decide, by decide +kernel⟩, gT_in 1146 (by decide +kernel) rfl⟩
set_option maxRecDepth 100000 in
theorem mlX3_37 : e_ms RX3 37 yJ9_max_f86c9 cJ9_max_f86c9 4 (some .long) 2 := ⟨⟨gT_in 1148 (by decide +kernel) rfl, gT_in 113 (by decide +kernel) rfl, coJ9_max_f86c9, by decide, by decide +kernel⟩, gT_in 843 (by decide +kernel) rfl⟩
set_option maxRecDepth 100000 in
theorem coX11_trusted : Cond.code yX11_trusted cX11_trusted 5 (some .int) ∈ gT := gT_in 1152 (by decide +kernel) rfl
set_option maxRecDepth 100000 in
theorem mlL_156 : e_mv RL 156 yX11_trusted cX11_trusted 5 (some .int) 1 := ⟨⟨gT_in 1149 (by decide +kernel) rfl, gT_in 100 (by decide +kernel) rfl, coX11_trusted, by decide, by decide +kernel⟩, gT_in 1150 (by decide +kernel) rfl, gT_in 1151 (by decide +kernel) rfl⟩
set_option maxRecDepth 100000 in
theorem coX2_isAhead : Cond.code yX2_isAhead cX2_isAhead 8 (some .boolean) ∈ gT := gT_in 1156 (by decide +kernel) rfl
set_option maxRecDepth 100000 in
theorem mlX11_343 : e_mv RX11 343 yX2_isAhead cX2_isAhead 8 (some .boolean) 2 := ⟨⟨gT_in 1153 (by decide +kernel) rfl, gT_in 102 (by decide +kernel) rfl, coX2_isAhead, by decide, by decide +kernel⟩, gT_in 1154 (by decide +kernel) rfl, gT_in 1155 (by decide +kernel) rfl⟩
set_option maxRecDepth 100000 in
theorem mlX2_40 : e_mv RX2 40 yX2_times cX2_times 7 (some .int) 3 := ⟨⟨gT_in 1157 (by decide +kernel) rfl, gT_in 102 (by decide +kernel) rfl, coX2_times, by decide, by decide +kernel⟩, gT_in 1124 (by decide +kernel) rfl, gT_in 1125 (by decide +kernel) rfl⟩
set_option maxRecDepth 100000 in
theorem coX11_proof : Cond.code yX11_proof cX11_proof 4 (some .long) ∈ gT := gT_in 1161 (by decide +kernel) rfl
set_option maxRecDepth 100000 in
theorem mlL_160 : e_mv RL 160 yX11_proof cX11_proof 4 (some .long) 3 := ⟨⟨gT_in 1158 (by decide +kernel) rfl, gT_in 100 (by decide +kernel) rfl, coX11_proof, by decide, by decide +kernel⟩, gT_in 1159 (by decide +kernel) rfl, gT_in 1160 (by decide +kernel) rfl⟩
set_option maxRecDepth 100000 in
theorem coX11_sitting : Cond.code yX11_sitting cX11_sitting 2 (some .int) ∈ gT := gT_in 1165 (by decide +kernel) rfl
set_option maxRecDepth 100000 in
theorem mlL_169 : e_mv RL 169 yX11_sitting cX11_sitting 2 (some .int) 1 := ⟨⟨gT_in 1162 (by decide +kernel) rfl, gT_in 100 (by decide +kernel) rfl, coX11_sitting, by decide, by decide +kernel⟩, gT_in 1163 (by decide +kernel) rfl, gT_in 1164 (by decide +kernel) rfl⟩
set_option maxRecDepth 100000 in
theorem coX7_hold : Cond.code yX7_hold cX7_hold 6 (some .int) ∈ gT := gT_in 1169 (by decide +kernel) rfl
set_option maxRecDepth 100000 in
theorem mlX11_346 : e_mv RX11 346 yX7_hold cX7_hold 6 (some .int) 3 := ⟨⟨gT_in 1166 (by decide +kernel) rfl, gT_in 108 (by decide +kernel) rfl, coX7_hold, by decide, by decide +kernel⟩, gT_in 1167 (by decide +kernel) rfl, gT_in 1168 (by decide +kernel) rfl⟩
set_option maxRecDepth 100000 in
theorem mlX7_29 : e_ms RX7 29 yJ7_fill_53178 cJ7_fill_53178 4 none 2 := ⟨⟨gT_in 1170 (by decide +kernel) rfl, gT_in 112 (by decide +kernel) rfl, coJ7_fill_53178, by decide, by decide +kernel⟩, gT_in 538 (by decide +kernel) rfl⟩
set_option maxRecDepth 100000 in
theorem mlX7_40 : e_ms RX7 40 yJ6_bitCount_0f7a4 cJ6_bitCount_0f7a4 1 (some .int) 1 := ⟨⟨gT_in 1171 (by decide +kernel) rfl, gT_in 114 (by decide +kernel) rfl, coJ6_bitCount_0f7a4, by decide, by decide +kernel⟩, gT_in 896 (by decide +kernel) rfl⟩
set_option maxRecDepth 100000 in
theorem coX7_pass : Cond.code yX7_pass cX7_pass 6 none ∈ gT := gT_in 1175 (by decide +kernel) rfl
set_option maxRecDepth 100000 in
theorem mlX7_49 : e_mv RX7 49 yX7_pass cX7_pass 6 none 3 := ⟨⟨gT_in 1172 (by decide +kernel) rfl, gT_in 108 (by decide +kernel) rfl, coX7_pass, by decide, by decide +kernel⟩, gT_in 1174 (by decide +kernel) rfl, gT_in 37 (by decide +kernel) rfl⟩
set_option maxRecDepth 100000 in
theorem mlX7_59 : e_mv RX7 59 yX10_isSeated cX10_isSeated 2 (some .boolean) 1 := ⟨⟨gT_in 1176 (by decide +kernel) rfl, gT_in 101 (by decide +kernel) rfl, coX10_isSeated, by decide, by decide +kernel⟩, gT_in 870 (by decide +kernel) rfl, gT_in 871 (by decide +kernel) rfl⟩
set_option maxRecDepth 100000 in
theorem coX7_draw : Cond.code yX7_draw cX7_draw 1 (some .int) ∈ gT := gT_in 1180 (by decide +kernel) rfl
set_option maxRecDepth 100000 in
theorem mlX7_63 : e_mv RX7 63 yX7_draw cX7_draw 1 (some .int) 0 := ⟨⟨gT_in 1177 (by decide +kernel) rfl, gT_in 108 (by decide +kernel) rfl, coX7_draw, by decide, by decide +kernel⟩, gT_in 1179 (by decide +kernel) rfl, gT_in 38 (by decide +kernel) rfl⟩
set_option maxRecDepth 100000 in
theorem coX0_liesOf : Cond.code yX0_liesOf cX0_liesOf 4 (some .int) ∈ gT := gT_in 1185 (by decide +kernel) rfl
set_option maxRecDepth 100000 in
theorem mlX7_67 : e_mv RX7 67 yX0_liesOf cX0_liesOf 4 (some .int) 3 := ⟨⟨gT_in 1182 (by decide +kernel) rfl, gT_in 105 (by decide +kernel) rfl, coX0_liesOf, by decide, by decide +kernel⟩, gT_in 1183 (by decide +kernel) rfl, gT_in 1184 (by decide +kernel) rfl⟩
set_option maxRecDepth 100000 in
theorem mlX7_73 : e_mv RX7 73 yX10_trait cX10_trait 3 (some .int) 2 := ⟨⟨gT_in 1186 (by decide +kernel) rfl, gT_in 101 (by decide +kernel) rfl, coX10_trait, by decide, by decide +kernel⟩, gT_in 519 (by decide +kernel) rfl, gT_in 520 (by decide +kernel) rfl⟩
set_option maxRecDepth 100000 in
theorem mlX7_77 : e_mv RX7 77 yX0_chanceOf cX0_chanceOf 6 (some .int) 5 := ⟨⟨gT_in 1187 (by decide +kernel) rfl, gT_in 105 (by decide +kernel) rfl, coX0_chanceOf, by decide, by decide +kernel⟩, gT_in 801 (by decide +kernel) rfl, gT_in 802 (by decide +kernel) rfl⟩
set_option maxRecDepth 100000 in
theorem coX11_lay : Cond.code yX11_lay cX11_lay 3 (some .int) ∈ gT := gT_in 1191 (by decide +kernel) rfl
set_option maxRecDepth 100000 in
theorem mlL_173 : e_mv RL 173 yX11_lay cX11_lay 3 (some .int) 2 := ⟨⟨gT_in 1188 (by decide +kernel) rfl, gT_in 100 (by decide +kernel) rfl, coX11_lay, by decide, by decide +kernel⟩, gT_in 1189 (by decide +kernel) rfl, gT_in 1190 (by decide +kernel) rfl⟩
set_option maxRecDepth 100000 in
theorem coX11_image : Cond.code yX11_image cX11_image 2 (some .int) ∈ gT := gT_in 1195 (by decide +kernel) rfl
set_option maxRecDepth 100000 in
theorem mlL_177 : e_mv RL 177 yX11_image cX11_image 2 (some .int) 1 := ⟨⟨gT_in 1192 (by decide +kernel) rfl, gT_in 100 (by decide +kernel) rfl, coX11_image, by decide, by decide +kernel⟩, gT_in 1193 (by decide +kernel) rfl, gT_in 1194 (by decide +kernel) rfl⟩
set_option maxRecDepth 100000 in
theorem coX10_become : Cond.code yX10_become cX10_become 3 none ∈ gT := gT_in 1199 (by decide +kernel) rfl
set_option maxRecDepth 100000 in
theorem mlX11_363 : e_mv RX11 363 yX10_become cX10_become 3 none 1 := ⟨⟨gT_in 1196 (by decide +kernel) rfl, gT_in 101 (by decide +kernel) rfl, coX10_become, by decide, by decide +kernel⟩, gT_in 1197 (by decide +kernel) rfl, gT_in 1198 (by decide +kernel) rfl⟩
set_option maxRecDepth 100000 in
theorem coX2_become : Cond.code yX2_become cX2_become 2 none ∈ gT := gT_in 1204 (by decide +kernel) rfl
set_option maxRecDepth 100000 in
theorem mlX10_52 : e_mv RX10 52 yX2_become cX2_become 2 none 1 := ⟨⟨gT_in 1201 (by decide +kernel) rfl, gT_in 102 (by decide +kernel) rfl, coX2_become, by decide, by decide +kernel⟩, gT_in 1202 (by decide +kernel) rfl, gT_in 1203 (by decide +kernel) rfl⟩
set_option maxRecDepth 100000 in
theorem coX11_back : Cond.code yX11_back cX11_back 2 (some .int) ∈ gT := gT_in 1209 (by decide +kernel) rfl
set_option maxRecDepth 100000 in
theorem mlL_181 : e_mv RL 181 yX11_back cX11_back 2 (some .int) 1 := ⟨⟨gT_in 1206 (by decide +kernel) rfl, gT_in 100 (by decide +kernel) rfl, coX11_back, by decide, by decide +kernel⟩, gT_in 1207 (by decide +kernel) rfl, gT_in 1208 (by decide +kernel) rfl⟩
set_option maxRecDepth 100000 in
theorem coX11_count : Cond.code yX11_count cX11_count 2 (some .int) ∈ gT := gT_in 1213 (by decide +kernel) rfl
set_option maxRecDepth 100000 in
theorem mlL_185 : e_mv RL 185 yX11_count cX11_count 2 (some .int) 1 := ⟨⟨gT_in 1210 (by decide +kernel) rfl, gT_in 100 (by decide +kernel) rfl, coX11_count, by decide, by decide +kernel⟩, gT_in 1211 (by decide +kernel) rfl, gT_in 1212 (by decide +kernel) rfl⟩
set_option maxRecDepth 100000 in
theorem coX11_status : Cond.code yX11_status cX11_status 1 (some .int) ∈ gT := gT_in 1219 (by decide +kernel) rfl
set_option maxRecDepth 100000 in
theorem mlL_189 : e_mv RL 189 yX11_status cX11_status 1 (some .int) 0 := ⟨⟨gT_in 1216 (by decide +kernel) rfl, gT_in 100 (by decide +kernel) rfl, coX11_status, by decide, by decide +kernel⟩, gT_in 1217 (by decide +kernel) rfl, gT_in 1218 (by decide +kernel) rfl⟩
set_option maxRecDepth 100000 in
theorem coX12_init : Cond.code yX12_init cX12_init 1 none ∈ gT := gT_in 1224 (by decide +kernel) rfl
set_option maxRecDepth 100000 in
theorem mlL_12 : e_mi RL 12 yX12_init cX12_init 1 0 := ⟨⟨gT_in 1222 (by decide +kernel) rfl, gT_in 111 (by decide +kernel) rfl, coX12_init, by decide, by decide +kernel⟩, gT_in 1223 (by decide +kernel) rfl, rfl⟩
set_option maxRecDepth 100000 in
theorem coX12_image : Cond.code yX12_image cX12_image 3 (some .int) ∈ gT := gT_in 1394 (by decide +kernel) rfl
set_option maxRecDepth 100000 in
theorem mlL_180 : e_mv RL 180 yX12_image cX12_image 3 (some .int) 1 := ⟨⟨gT_in 1391 (by decide +kernel) rfl, gT_in 111 (by decide +kernel) rfl, coX12_image, by decide, by decide +kernel⟩, gT_in 1392 (by decide +kernel) rfl, gT_in 1393 (by decide +kernel) rfl⟩
set_option maxRecDepth 100000 in
theorem coX12_in : Cond.code yX12_in cX12_in 6 (some .boolean) ∈ gT := gT_in 1397 (by decide +kernel) rfl
set_option maxRecDepth 100000 in
theorem mlX12_134 : e_ms RX12 134 yX12_in cX12_in 6 (some .boolean) 3 := ⟨⟨gT_in 1395 (by decide +kernel) rfl, gT_in 111 (by decide +kernel) rfl, coX12_in, by decide, by decide +kernel⟩, gT_in 1396 (by decide +kernel) rfl⟩
set_option maxRecDepth 100000 in
theorem coX12_tell : Cond.code yX12_tell cX12_tell 2 (some .int) ∈ gT := gT_in 1401 (by decide +kernel) rfl
set_option maxRecDepth 100000 in
theorem mlX12_138 : e_mv RX12 138 yX12_tell cX12_tell 2 (some .int) 1 := ⟨⟨gT_in 1398 (by decide +kernel) rfl, gT_in 111 (by decide +kernel) rfl, coX12_tell, by decide, by decide +kernel⟩, gT_in 1400 (by decide +kernel) rfl, gT_in 39 (by decide +kernel) rfl⟩
set_option maxRecDepth 100000 in
theorem coX12_back : Cond.code yX12_back cX12_back 3 (some .int) ∈ gT := gT_in 1405 (by decide +kernel) rfl
set_option maxRecDepth 100000 in
theorem mlL_184 : e_mv RL 184 yX12_back cX12_back 3 (some .int) 1 := ⟨⟨gT_in 1402 (by decide +kernel) rfl, gT_in 111 (by decide +kernel) rfl, coX12_back, by decide, by decide +kernel⟩, gT_in 1403 (by decide +kernel) rfl, gT_in 1404 (by decide +kernel) rfl⟩
set_option maxRecDepth 100000 in
theorem coX12_beast : Cond.code yX12_beast cX12_beast 8 (some .int) ∈ gT := gT_in 1409 (by decide +kernel) rfl
set_option maxRecDepth 100000 in
theorem mlL_17 : e_mv RL 17 yX12_beast cX12_beast 8 (some .int) 5 := ⟨⟨gT_in 1406 (by decide +kernel) rfl, gT_in 111 (by decide +kernel) rfl, coX12_beast, by decide, by decide +kernel⟩, gT_in 1407 (by decide +kernel) rfl, gT_in 1408 (by decide +kernel) rfl⟩
set_option maxRecDepth 100000 in
theorem coX12_fits : Cond.code yX12_fits cX12_fits 2 (some .boolean) ∈ gT := gT_in 1412 (by decide +kernel) rfl
set_option maxRecDepth 100000 in
theorem mlX12_149 : e_ms RX12 149 yX12_fits cX12_fits 2 (some .boolean) 2 := ⟨⟨gT_in 1410 (by decide +kernel) rfl, gT_in 111 (by decide +kernel) rfl, coX12_fits, by decide, by decide +kernel⟩, gT_in 1411 (by decide +kernel) rfl⟩
set_option maxRecDepth 100000 in
theorem coX12_put : Cond.code yX12_put cX12_put 4 (some .int) ∈ gT := gT_in 1419 (by decide +kernel) rfl
set_option maxRecDepth 100000 in
theorem mlL_22 : e_mv RL 22 yX12_put cX12_put 4 (some .int) 3 := ⟨⟨gT_in 1416 (by decide +kernel) rfl, gT_in 111 (by decide +kernel) rfl, coX12_put, by decide, by decide +kernel⟩, gT_in 1417 (by decide +kernel) rfl, gT_in 1418 (by decide +kernel) rfl⟩
set_option maxRecDepth 100000 in
theorem coX12_isBeast : Cond.code yX12_isBeast cX12_isBeast 2 (some .boolean) ∈ gT := gT_in 1423 (by decide +kernel) rfl
set_option maxRecDepth 100000 in
theorem mlX12_153 : e_mv RX12 153 yX12_isBeast cX12_isBeast 2 (some .boolean) 1 := ⟨⟨gT_in 1420 (by decide +kernel) rfl, gT_in 111 (by decide +kernel) rfl, coX12_isBeast, by decide, by decide +kernel⟩, gT_in 1422 (by decide +kernel) rfl, gT_in 40 (by decide +kernel) rfl⟩
set_option maxRecDepth 100000 in
theorem coX12_change : Cond.code yX12_change cX12_change 4 (some .int) ∈ gT := gT_in 1427 (by decide +kernel) rfl
set_option maxRecDepth 100000 in
theorem mlX12_157 : e_mv RX12 157 yX12_change cX12_change 4 (some .int) 2 := ⟨⟨gT_in 1424 (by decide +kernel) rfl, gT_in 111 (by decide +kernel) rfl, coX12_change, by decide, by decide +kernel⟩, gT_in 1426 (by decide +kernel) rfl, gT_in 41 (by decide +kernel) rfl⟩
set_option maxRecDepth 100000 in
theorem coX12_was : Cond.code yX12_was cX12_was 2 (some .int) ∈ gT := gT_in 1431 (by decide +kernel) rfl
set_option maxRecDepth 100000 in
theorem mlX12_130 : e_mv RX12 130 yX12_was cX12_was 2 (some .int) 1 := ⟨⟨gT_in 1428 (by decide +kernel) rfl, gT_in 111 (by decide +kernel) rfl, coX12_was, by decide, by decide +kernel⟩, gT_in 1430 (by decide +kernel) rfl, gT_in 42 (by decide +kernel) rfl⟩
set_option maxRecDepth 100000 in
theorem coX12_of : Cond.code yX12_of cX12_of 3 (some .int) ∈ gT := gT_in 1435 (by decide +kernel) rfl
set_option maxRecDepth 100000 in
theorem mlL_27 : e_mv RL 27 yX12_of cX12_of 3 (some .int) 2 := ⟨⟨gT_in 1432 (by decide +kernel) rfl, gT_in 111 (by decide +kernel) rfl, coX12_of, by decide, by decide +kernel⟩, gT_in 1433 (by decide +kernel) rfl, gT_in 1434 (by decide +kernel) rfl⟩
set_option maxRecDepth 100000 in
theorem coX12_ofBeast : Cond.code yX12_ofBeast cX12_ofBeast 3 (some .int) ∈ gT := gT_in 1440 (by decide +kernel) rfl
set_option maxRecDepth 100000 in
theorem mlX12_163 : e_mv RX12 163 yX12_ofBeast cX12_ofBeast 3 (some .int) 2 := ⟨⟨gT_in 1437 (by decide +kernel) rfl, gT_in 111 (by decide +kernel) rfl, coX12_ofBeast, by decide, by decide +kernel⟩, gT_in 1439 (by decide +kernel) rfl, gT_in 43 (by decide +kernel) rfl⟩
set_option maxRecDepth 100000 in
theorem coX12_meal : Cond.code yX12_meal cX12_meal 4 (some .int) ∈ gT := gT_in 1444 (by decide +kernel) rfl
set_option maxRecDepth 100000 in
theorem mlL_31 : e_mv RL 31 yX12_meal cX12_meal 4 (some .int) 2 := ⟨⟨gT_in 1441 (by decide +kernel) rfl, gT_in 111 (by decide +kernel) rfl, coX12_meal, by decide, by decide +kernel⟩, gT_in 1442 (by decide +kernel) rfl, gT_in 1443 (by decide +kernel) rfl⟩
set_option maxRecDepth 100000 in
theorem coX12_isHour : Cond.code yX12_isHour cX12_isHour 1 (some .boolean) ∈ gT := gT_in 1447 (by decide +kernel) rfl
set_option maxRecDepth 100000 in
theorem mlX12_166 : e_ms RX12 166 yX12_isHour cX12_isHour 1 (some .boolean) 1 := ⟨⟨gT_in 1445 (by decide +kernel) rfl, gT_in 111 (by decide +kernel) rfl, coX12_isHour, by decide, by decide +kernel⟩, gT_in 1446 (by decide +kernel) rfl⟩
set_option maxRecDepth 100000 in
theorem coX12_fast : Cond.code yX12_fast cX12_fast 2 (some .int) ∈ gT := gT_in 1452 (by decide +kernel) rfl
set_option maxRecDepth 100000 in
theorem mlL_36 : e_mv RL 36 yX12_fast cX12_fast 2 (some .int) 0 := ⟨⟨gT_in 1449 (by decide +kernel) rfl, gT_in 111 (by decide +kernel) rfl, coX12_fast, by decide, by decide +kernel⟩, gT_in 1450 (by decide +kernel) rfl, gT_in 1451 (by decide +kernel) rfl⟩
set_option maxRecDepth 100000 in
theorem coX12_hunger : Cond.code yX12_hunger cX12_hunger 3 (some .int) ∈ gT := gT_in 1456 (by decide +kernel) rfl
set_option maxRecDepth 100000 in
theorem mlL_40 : e_mv RL 40 yX12_hunger cX12_hunger 3 (some .int) 2 := ⟨⟨gT_in 1453 (by decide +kernel) rfl, gT_in 111 (by decide +kernel) rfl, coX12_hunger, by decide, by decide +kernel⟩, gT_in 1454 (by decide +kernel) rfl, gT_in 1455 (by decide +kernel) rfl⟩
set_option maxRecDepth 100000 in
theorem coX12_hungerIn : Cond.code yX12_hungerIn cX12_hungerIn 6 (some .int) ∈ gT := gT_in 1460 (by decide +kernel) rfl
set_option maxRecDepth 100000 in
theorem mlX12_169 : e_mv RX12 169 yX12_hungerIn cX12_hungerIn 6 (some .int) 2 := ⟨⟨gT_in 1457 (by decide +kernel) rfl, gT_in 111 (by decide +kernel) rfl, coX12_hungerIn, by decide, by decide +kernel⟩, gT_in 1459 (by decide +kernel) rfl, gT_in 44 (by decide +kernel) rfl⟩
set_option maxRecDepth 100000 in
theorem coX12_bench : Cond.code yX12_bench cX12_bench 2 (some .int) ∈ gT := gT_in 1464 (by decide +kernel) rfl
set_option maxRecDepth 100000 in
theorem mlL_45 : e_mv RL 45 yX12_bench cX12_bench 2 (some .int) 1 := ⟨⟨gT_in 1461 (by decide +kernel) rfl, gT_in 111 (by decide +kernel) rfl, coX12_bench, by decide, by decide +kernel⟩, gT_in 1462 (by decide +kernel) rfl, gT_in 1463 (by decide +kernel) rfl⟩
set_option maxRecDepth 100000 in
theorem coX12_areBeasts : Cond.code yX12_areBeasts cX12_areBeasts 2 (some .boolean) ∈ gT := gT_in 1468 (by decide +kernel) rfl
set_option maxRecDepth 100000 in
theorem mlX12_172 : e_mv RX12 172 yX12_areBeasts cX12_areBeasts 2 (some .boolean) 1 := ⟨⟨gT_in 1465 (by decide +kernel) rfl, gT_in 111 (by decide +kernel) rfl, coX12_areBeasts, by decide, by decide +kernel⟩, gT_in 1467 (by decide +kernel) rfl, gT_in 45 (by decide +kernel) rfl⟩
set_option maxRecDepth 100000 in
theorem coX12_terms : Cond.code yX12_terms cX12_terms 3 (some .int) ∈ gT := gT_in 1472 (by decide +kernel) rfl
set_option maxRecDepth 100000 in
theorem mlL_49 : e_mv RL 49 yX12_terms cX12_terms 3 (some .int) 2 := ⟨⟨gT_in 1469 (by decide +kernel) rfl, gT_in 111 (by decide +kernel) rfl, coX12_terms, by decide, by decide +kernel⟩, gT_in 1470 (by decide +kernel) rfl, gT_in 1471 (by decide +kernel) rfl⟩
set_option maxRecDepth 100000 in
theorem coX12_isTerm : Cond.code yX12_isTerm cX12_isTerm 2 (some .boolean) ∈ gT := gT_in 1475 (by decide +kernel) rfl
set_option maxRecDepth 100000 in
theorem mlX12_181 : e_ms RX12 181 yX12_isTerm cX12_isTerm 2 (some .boolean) 2 := ⟨⟨gT_in 1473 (by decide +kernel) rfl, gT_in 111 (by decide +kernel) rfl, coX12_isTerm, by decide, by decide +kernel⟩, gT_in 1474 (by decide +kernel) rfl⟩
set_option maxRecDepth 100000 in
theorem coX12_feed : Cond.code yX12_feed cX12_feed 6 (some .int) ∈ gT := gT_in 1482 (by decide +kernel) rfl
set_option maxRecDepth 100000 in
theorem mlL_53 : e_mv RL 53 yX12_feed cX12_feed 6 (some .int) 5 := ⟨⟨gT_in 1479 (by decide +kernel) rfl, gT_in 111 (by decide +kernel) rfl, coX12_feed, by decide, by decide +kernel⟩, gT_in 1480 (by decide +kernel) rfl, gT_in 1481 (by decide +kernel) rfl⟩
set_option maxRecDepth 100000 in
theorem coX12_four : Cond.code yX12_four cX12_four 3 none ∈ gT := gT_in 1486 (by decide +kernel) rfl
set_option maxRecDepth 100000 in
theorem mlX12_187 : e_mv RX12 187 yX12_four cX12_four 3 none 1 := ⟨⟨gT_in 1483 (by decide +kernel) rfl, gT_in 111 (by decide +kernel) rfl, coX12_four, by decide, by decide +kernel⟩, gT_in 1485 (by decide +kernel) rfl, gT_in 46 (by decide +kernel) rfl⟩
set_option maxRecDepth 100000 in
theorem coX12_end : Cond.code yX12_end cX12_end 2 (some .int) ∈ gT := gT_in 1490 (by decide +kernel) rfl
set_option maxRecDepth 100000 in
theorem mlL_57 : e_mv RL 57 yX12_end cX12_end 2 (some .int) 1 := ⟨⟨gT_in 1487 (by decide +kernel) rfl, gT_in 111 (by decide +kernel) rfl, coX12_end, by decide, by decide +kernel⟩, gT_in 1488 (by decide +kernel) rfl, gT_in 1489 (by decide +kernel) rfl⟩
set_option maxRecDepth 100000 in
theorem coX12_fault : Cond.code yX12_fault cX12_fault 1 (some .int) ∈ gT := gT_in 1494 (by decide +kernel) rfl
set_option maxRecDepth 100000 in
theorem mlL_73 : e_mv RL 73 yX12_fault cX12_fault 1 (some .int) 0 := ⟨⟨gT_in 1491 (by decide +kernel) rfl, gT_in 111 (by decide +kernel) rfl, coX12_fault, by decide, by decide +kernel⟩, gT_in 1492 (by decide +kernel) rfl, gT_in 1493 (by decide +kernel) rfl⟩
set_option maxRecDepth 100000 in
theorem coX12_law : Cond.code yX12_law cX12_law 3 (some .int) ∈ gT := gT_in 1498 (by decide +kernel) rfl
set_option maxRecDepth 100000 in
theorem mlL_69 : e_mv RL 69 yX12_law cX12_law 3 (some .int) 0 := ⟨⟨gT_in 1495 (by decide +kernel) rfl, gT_in 111 (by decide +kernel) rfl, coX12_law, by decide, by decide +kernel⟩, gT_in 1496 (by decide +kernel) rfl, gT_in 1497 (by decide +kernel) rfl⟩
set_option maxRecDepth 100000 in
theorem coX12_begin : Cond.code yX12_begin cX12_begin 1 none ∈ gT := gT_in 1502 (by decide +kernel) rfl
set_option maxRecDepth 100000 in
theorem mlX12_318 : e_mv RX12 318 yX12_begin cX12_begin 1 none 0 := ⟨⟨gT_in 1499 (by decide +kernel) rfl, gT_in 111 (by decide +kernel) rfl, coX12_begin, by decide, by decide +kernel⟩, gT_in 1501 (by decide +kernel) rfl, gT_in 47 (by decide +kernel) rfl⟩
set_option maxRecDepth 100000 in
theorem coX12_next : Cond.code yX12_next cX12_next 1 none ∈ gT := gT_in 1506 (by decide +kernel) rfl
set_option maxRecDepth 100000 in
theorem mlX12_198 : e_mv RX12 198 yX12_next cX12_next 1 none 0 := ⟨⟨gT_in 1503 (by decide +kernel) rfl, gT_in 111 (by decide +kernel) rfl, coX12_next, by decide, by decide +kernel⟩, gT_in 1505 (by decide +kernel) rfl, gT_in 48 (by decide +kernel) rfl⟩
set_option maxRecDepth 100000 in
theorem coX12_isSmall : Cond.code yX12_isSmall cX12_isSmall 1 (some .boolean) ∈ gT := gT_in 1509 (by decide +kernel) rfl
set_option maxRecDepth 100000 in
theorem mlX12_208 : e_ms RX12 208 yX12_isSmall cX12_isSmall 1 (some .boolean) 1 := ⟨⟨gT_in 1507 (by decide +kernel) rfl, gT_in 111 (by decide +kernel) rfl, coX12_isSmall, by decide, by decide +kernel⟩, gT_in 1508 (by decide +kernel) rfl⟩
set_option maxRecDepth 100000 in
theorem coX12_isDigit : Cond.code yX12_isDigit cX12_isDigit 1 (some .boolean) ∈ gT := gT_in 1512 (by decide +kernel) rfl
set_option maxRecDepth 100000 in
theorem mlX12_211 : e_ms RX12 211 yX12_isDigit cX12_isDigit 1 (some .boolean) 1 := ⟨⟨gT_in 1510 (by decide +kernel) rfl, gT_in 111 (by decide +kernel) rfl, coX12_isDigit, by decide, by decide +kernel⟩, gT_in 1511 (by decide +kernel) rfl⟩
set_option maxRecDepth 100000 in
theorem coX12_readClause : Cond.code yX12_readClause cX12_readClause 4 none ∈ gT := gT_in 1522 (by decide +kernel) rfl
set_option maxRecDepth 100000 in
theorem mlX12_321 : e_mv RX12 321 yX12_readClause cX12_readClause 4 none 0 := ⟨⟨gT_in 1519 (by decide +kernel) rfl, gT_in 111 (by decide +kernel) rfl, coX12_readClause, by decide, by decide +kernel⟩, gT_in 1521 (by decide +kernel) rfl, gT_in 49 (by decide +kernel) rfl⟩
set_option maxRecDepth 100000 in
theorem coX12_isWord : Cond.code yX12_isWord cX12_isWord 3 (some .boolean) ∈ gT := gT_in 1526 (by decide +kernel) rfl
set_option maxRecDepth 100000 in
theorem mlX12_252 : e_mv RX12 252 yX12_isWord cX12_isWord 3 (some .boolean) 1 := ⟨⟨gT_in 1523 (by decide +kernel) rfl, gT_in 111 (by decide +kernel) rfl, coX12_isWord, by decide, by decide +kernel⟩, gT_in 1525 (by decide +kernel) rfl, gT_in 50 (by decide +kernel) rfl⟩
set_option maxRecDepth 100000 in
theorem coX12_must : Cond.code yX12_must cX12_must 2 none ∈ gT := gT_in 1530 (by decide +kernel) rfl
set_option maxRecDepth 100000 in
theorem mlX12_229 : e_mv RX12 229 yX12_must cX12_must 2 none 1 := ⟨⟨gT_in 1527 (by decide +kernel) rfl, gT_in 111 (by decide +kernel) rfl, coX12_must, by decide, by decide +kernel⟩, gT_in 1529 (by decide +kernel) rfl, gT_in 51 (by decide +kernel) rfl⟩
set_option maxRecDepth 100000 in
theorem coX12_readExpression : Cond.code yX12_readExpression cX12_readExpression 3 none ∈ gT := gT_in 1534 (by decide +kernel) rfl
set_option maxRecDepth 100000 in
theorem mlX12_313 : e_mv RX12 313 yX12_readExpression cX12_readExpression 3 none 1 := ⟨⟨gT_in 1531 (by decide +kernel) rfl, gT_in 111 (by decide +kernel) rfl, coX12_readExpression, by decide, by decide +kernel⟩, gT_in 1533 (by decide +kernel) rfl, gT_in 52 (by decide +kernel) rfl⟩
set_option maxRecDepth 100000 in
theorem coX12_readPlain : Cond.code yX12_readPlain cX12_readPlain 1 (some .int) ∈ gT := gT_in 1538 (by decide +kernel) rfl
set_option maxRecDepth 100000 in
theorem mlX12_300 : e_mv RX12 300 yX12_readPlain cX12_readPlain 1 (some .int) 0 := ⟨⟨gT_in 1535 (by decide +kernel) rfl, gT_in 111 (by decide +kernel) rfl, coX12_readPlain, by decide, by decide +kernel⟩, gT_in 1537 (by decide +kernel) rfl, gT_in 53 (by decide +kernel) rfl⟩
set_option maxRecDepth 100000 in
theorem coX12_push : Cond.code yX12_push cX12_push 3 none ∈ gT := gT_in 1543 (by decide +kernel) rfl
set_option maxRecDepth 100000 in
theorem mlX12_259 : e_mv RX12 259 yX12_push cX12_push 3 none 2 := ⟨⟨gT_in 1540 (by decide +kernel) rfl, gT_in 111 (by decide +kernel) rfl, coX12_push, by decide, by decide +kernel⟩, gT_in 1542 (by decide +kernel) rfl, gT_in 54 (by decide +kernel) rfl⟩
set_option maxRecDepth 100000 in
theorem coX12_isSign : Cond.code yX12_isSign cX12_isSign 2 (some .boolean) ∈ gT := gT_in 1547 (by decide +kernel) rfl
set_option maxRecDepth 100000 in
theorem mlX12_265 : e_mv RX12 265 yX12_isSign cX12_isSign 2 (some .boolean) 1 := ⟨⟨gT_in 1544 (by decide +kernel) rfl, gT_in 111 (by decide +kernel) rfl, coX12_isSign, by decide, by decide +kernel⟩, gT_in 1546 (by decide +kernel) rfl, gT_in 55 (by decide +kernel) rfl⟩
set_option maxRecDepth 100000 in
theorem coX12_openBracket : Cond.code yX12_openBracket cX12_openBracket 2 none ∈ gT := gT_in 1551 (by decide +kernel) rfl
set_option maxRecDepth 100000 in
theorem mlX12_268 : e_mv RX12 268 yX12_openBracket cX12_openBracket 2 none 1 := ⟨⟨gT_in 1548 (by decide +kernel) rfl, gT_in 111 (by decide +kernel) rfl, coX12_openBracket, by decide, by decide +kernel⟩, gT_in 1550 (by decide +kernel) rfl, gT_in 56 (by decide +kernel) rfl⟩
set_option maxRecDepth 100000 in
theorem coX12_readPart : Cond.code yX12_readPart cX12_readPart 3 (some .int) ∈ gT := gT_in 1555 (by decide +kernel) rfl
set_option maxRecDepth 100000 in
theorem mlX12_283 : e_mv RX12 283 yX12_readPart cX12_readPart 3 (some .int) 0 := ⟨⟨gT_in 1552 (by decide +kernel) rfl, gT_in 111 (by decide +kernel) rfl, coX12_readPart, by decide, by decide +kernel⟩, gT_in 1554 (by decide +kernel) rfl, gT_in 57 (by decide +kernel) rfl⟩
set_option maxRecDepth 100000 in
theorem coX12_partAt : Cond.code yX12_partAt cX12_partAt 3 (some .int) ∈ gT := gT_in 1559 (by decide +kernel) rfl
set_option maxRecDepth 100000 in
theorem mlX12_271 : e_mv RX12 271 yX12_partAt cX12_partAt 3 (some .int) 0 := ⟨⟨gT_in 1556 (by decide +kernel) rfl, gT_in 111 (by decide +kernel) rfl, coX12_partAt, by decide, by decide +kernel⟩, gT_in 1558 (by decide +kernel) rfl, gT_in 58 (by decide +kernel) rfl⟩
set_option maxRecDepth 100000 in
theorem coX12_leaf : Cond.code yX12_leaf cX12_leaf 4 none ∈ gT := gT_in 1564 (by decide +kernel) rfl
set_option maxRecDepth 100000 in
theorem mlX12_277 : e_mv RX12 277 yX12_leaf cX12_leaf 4 none 3 := ⟨⟨gT_in 1561 (by decide +kernel) rfl, gT_in 111 (by decide +kernel) rfl, coX12_leaf, by decide, by decide +kernel⟩, gT_in 1563 (by decide +kernel) rfl, gT_in 59 (by decide +kernel) rfl⟩
set_option maxRecDepth 100000 in
theorem coX12_emit : Cond.code yX12_emit cX12_emit 3 none ∈ gT := gT_in 1568 (by decide +kernel) rfl
set_option maxRecDepth 100000 in
theorem mlX12_242 : e_mv RX12 242 yX12_emit cX12_emit 3 none 2 := ⟨⟨gT_in 1565 (by decide +kernel) rfl, gT_in 111 (by decide +kernel) rfl, coX12_emit, by decide, by decide +kernel⟩, gT_in 1567 (by decide +kernel) rfl, gT_in 60 (by decide +kernel) rfl⟩
set_option maxRecDepth 100000 in
theorem coX12_behindSum : Cond.code yX12_behindSum cX12_behindSum 4 (some .int) ∈ gT := gT_in 1572 (by decide +kernel) rfl
set_option maxRecDepth 100000 in
theorem mlX12_303 : e_mv RX12 303 yX12_behindSum cX12_behindSum 4 (some .int) 1 := ⟨⟨gT_in 1569 (by decide +kernel) rfl, gT_in 111 (by decide +kernel) rfl, coX12_behindSum, by decide, by decide +kernel⟩, gT_in 1571 (by decide +kernel) rfl, gT_in 61 (by decide +kernel) rfl⟩
set_option maxRecDepth 100000 in
theorem coX12_binds : Cond.code yX12_binds cX12_binds 1 (some .int) ∈ gT := gT_in 1575 (by decide +kernel) rfl
set_option maxRecDepth 100000 in
theorem mlX12_239 : e_ms RX12 239 yX12_binds cX12_binds 1 (some .int) 1 := ⟨⟨gT_in 1573 (by decide +kernel) rfl, gT_in 111 (by decide +kernel) rfl, coX12_binds, by decide, by decide +kernel⟩, gT_in 1574 (by decide +kernel) rfl⟩
set_option maxRecDepth 100000 in
theorem coX12_settle : Cond.code yX12_settle cX12_settle 2 none ∈ gT := gT_in 1579 (by decide +kernel) rfl
set_option maxRecDepth 100000 in
theorem mlX12_286 : e_mv RX12 286 yX12_settle cX12_settle 2 none 1 := ⟨⟨gT_in 1576 (by decide +kernel) rfl, gT_in 111 (by decide +kernel) rfl, coX12_settle, by decide, by decide +kernel⟩, gT_in 1578 (by decide +kernel) rfl, gT_in 62 (by decide +kernel) rfl⟩
set_option maxRecDepth 100000 in
theorem coX12_inner : Cond.code yX12_inner cX12_inner 3 (some .int) ∈ gT := gT_in 1583 (by decide +kernel) rfl
set_option maxRecDepth 100000 in
theorem mlX12_289 : e_mv RX12 289 yX12_inner cX12_inner 3 (some .int) 0 := ⟨⟨gT_in 1580 (by decide +kernel) rfl, gT_in 111 (by decide +kernel) rfl, coX12_inner, by decide, by decide +kernel⟩, gT_in 1582 (by decide +kernel) rfl, gT_in 63 (by decide +kernel) rfl⟩
set_option maxRecDepth 100000 in
theorem coX12_isCompared : Cond.code yX12_isCompared cX12_isCompared 2 (some .boolean) ∈ gT := gT_in 1587 (by decide +kernel) rfl
set_option maxRecDepth 100000 in
theorem mlX12_292 : e_mv RX12 292 yX12_isCompared cX12_isCompared 2 (some .boolean) 0 := ⟨⟨gT_in 1584 (by decide +kernel) rfl, gT_in 111 (by decide +kernel) rfl, coX12_isCompared, by decide, by decide +kernel⟩, gT_in 1586 (by decide +kernel) rfl, gT_in 64 (by decide +kernel) rfl⟩
set_option maxRecDepth 100000 in
theorem coX12_behindTest : Cond.code yX12_behindTest cX12_behindTest 2 (some .int) ∈ gT := gT_in 1594 (by decide +kernel) rfl
set_option maxRecDepth 100000 in
theorem mlX12_307 : e_mv RX12 307 yX12_behindTest cX12_behindTest 2 (some .int) 0 := ⟨⟨gT_in 1591 (by decide +kernel) rfl, gT_in 111 (by decide +kernel) rfl, coX12_behindTest, by decide, by decide +kernel⟩, gT_in 1593 (by decide +kernel) rfl, gT_in 65 (by decide +kernel) rfl⟩
set_option maxRecDepth 100000 in
theorem coX12_force : Cond.code yX12_force cX12_force 2 (some .int) ∈ gT := gT_in 1601 (by decide +kernel) rfl
set_option maxRecDepth 100000 in
theorem mlL_77 : e_mv RL 77 yX12_force cX12_force 2 (some .int) 1 := ⟨⟨gT_in 1598 (by decide +kernel) rfl, gT_in 111 (by decide +kernel) rfl, coX12_force, by decide, by decide +kernel⟩, gT_in 1599 (by decide +kernel) rfl, gT_in 1600 (by decide +kernel) rfl⟩
set_option maxRecDepth 100000 in
theorem coX12_chance : Cond.code yX12_chance cX12_chance 4 (some .int) ∈ gT := gT_in 1605 (by decide +kernel) rfl
set_option maxRecDepth 100000 in
theorem mlL_81 : e_mv RL 81 yX12_chance cX12_chance 4 (some .int) 3 := ⟨⟨gT_in 1602 (by decide +kernel) rfl, gT_in 111 (by decide +kernel) rfl, coX12_chance, by decide, by decide +kernel⟩, gT_in 1603 (by decide +kernel) rfl, gT_in 1604 (by decide +kernel) rfl⟩
set_option maxRecDepth 100000 in
theorem coX12_chanceOf : Cond.code yX12_chanceOf cX12_chanceOf 5 (some .int) ∈ gT := gT_in 1609 (by decide +kernel) rfl
set_option maxRecDepth 100000 in
theorem mlX12_354 : e_mv RX12 354 yX12_chanceOf cX12_chanceOf 5 (some .int) 4 := ⟨⟨gT_in 1606 (by decide +kernel) rfl, gT_in 111 (by decide +kernel) rfl, coX12_chanceOf, by decide, by decide +kernel⟩, gT_in 1608 (by decide +kernel) rfl, gT_in 66 (by decide +kernel) rfl⟩
set_option maxRecDepth 100000 in
theorem coX12_tells : Cond.code yX12_tells cX12_tells 13 (some .int) ∈ gT := gT_in 1613 (by decide +kernel) rfl
set_option maxRecDepth 100000 in
theorem mlX12_350 : e_mv RX12 350 yX12_tells cX12_tells 13 (some .int) 8 := ⟨⟨gT_in 1610 (by decide +kernel) rfl, gT_in 111 (by decide +kernel) rfl, coX12_tells, by decide, by decide +kernel⟩, gT_in 1612 (by decide +kernel) rfl, gT_in 67 (by decide +kernel) rfl⟩
set_option maxRecDepth 100000 in
theorem coX12_isSo : Cond.code yX12_isSo cX12_isSo 2 (some .boolean) ∈ gT := gT_in 1617 (by decide +kernel) rfl
set_option maxRecDepth 100000 in
theorem mlX12_347 : e_mv RX12 347 yX12_isSo cX12_isSo 2 (some .boolean) 1 := ⟨⟨gT_in 1614 (by decide +kernel) rfl, gT_in 111 (by decide +kernel) rfl, coX12_isSo, by decide, by decide +kernel⟩, gT_in 1616 (by decide +kernel) rfl, gT_in 68 (by decide +kernel) rfl⟩
set_option maxRecDepth 100000 in
theorem coX12_reckonAll : Cond.code yX12_reckonAll cX12_reckonAll 7 none ∈ gT := gT_in 1621 (by decide +kernel) rfl
set_option maxRecDepth 100000 in
theorem mlX12_341 : e_mv RX12 341 yX12_reckonAll cX12_reckonAll 7 none 2 := ⟨⟨gT_in 1618 (by decide +kernel) rfl, gT_in 111 (by decide +kernel) rfl, coX12_reckonAll, by decide, by decide +kernel⟩, gT_in 1620 (by decide +kernel) rfl, gT_in 69 (by decide +kernel) rfl⟩
set_option maxRecDepth 100000 in
theorem coX12_reckon : Cond.code yX12_reckon cX12_reckon 6 (some .long) ∈ gT := gT_in 1625 (by decide +kernel) rfl
set_option maxRecDepth 100000 in
theorem mlX12_330 : e_mv RX12 330 yX12_reckon cX12_reckon 6 (some .long) 3 := ⟨⟨gT_in 1622 (by decide +kernel) rfl, gT_in 111 (by decide +kernel) rfl, coX12_reckon, by decide, by decide +kernel⟩, gT_in 1624 (by decide +kernel) rfl, gT_in 70 (by decide +kernel) rfl⟩
set_option maxRecDepth 100000 in
theorem coX12_price : Cond.code yX12_price cX12_price 3 (some .int) ∈ gT := gT_in 1631 (by decide +kernel) rfl
set_option maxRecDepth 100000 in
theorem mlL_85 : e_mv RL 85 yX12_price cX12_price 3 (some .int) 2 := ⟨⟨gT_in 1628 (by decide +kernel) rfl, gT_in 111 (by decide +kernel) rfl, coX12_price, by decide, by decide +kernel⟩, gT_in 1629 (by decide +kernel) rfl, gT_in 1630 (by decide +kernel) rfl⟩
set_option maxRecDepth 100000 in
theorem coX12_isSide : Cond.code yX12_isSide cX12_isSide 1 (some .boolean) ∈ gT := gT_in 1634 (by decide +kernel) rfl
set_option maxRecDepth 100000 in
theorem mlX12_358 : e_ms RX12 358 yX12_isSide cX12_isSide 1 (some .boolean) 1 := ⟨⟨gT_in 1632 (by decide +kernel) rfl, gT_in 111 (by decide +kernel) rfl, coX12_isSide, by decide, by decide +kernel⟩, gT_in 1633 (by decide +kernel) rfl⟩
set_option maxRecDepth 100000 in
theorem coX12_priceOf : Cond.code yX12_priceOf cX12_priceOf 3 (some .int) ∈ gT := gT_in 1638 (by decide +kernel) rfl
set_option maxRecDepth 100000 in
theorem mlX12_361 : e_mv RX12 361 yX12_priceOf cX12_priceOf 3 (some .int) 2 := ⟨⟨gT_in 1635 (by decide +kernel) rfl, gT_in 111 (by decide +kernel) rfl, coX12_priceOf, by decide, by decide +kernel⟩, gT_in 1637 (by decide +kernel) rfl, gT_in 71 (by decide +kernel) rfl⟩
set_option maxRecDepth 100000 in
theorem coX12_odds : Cond.code yX12_odds cX12_odds 4 (some .long) ∈ gT := gT_in 1642 (by decide +kernel) rfl
set_option maxRecDepth 100000 in
theorem mlL_90 : e_mv RL 90 yX12_odds cX12_odds 4 (some .long) 1 := ⟨⟨gT_in 1639 (by decide +kernel) rfl, gT_in 111 (by decide +kernel) rfl, coX12_odds, by decide, by decide +kernel⟩, gT_in 1640 (by decide +kernel) rfl, gT_in 1641 (by decide +kernel) rfl⟩
set_option maxRecDepth 100000 in
theorem coX12_layNow : Cond.code yX12_layNow cX12_layNow 1 none ∈ gT := gT_in 1646 (by decide +kernel) rfl
set_option maxRecDepth 100000 in
theorem mlX12_374 : e_mv RX12 374 yX12_layNow cX12_layNow 1 none 0 := ⟨⟨gT_in 1643 (by decide +kernel) rfl, gT_in 111 (by decide +kernel) rfl, coX12_layNow, by decide, by decide +kernel⟩, gT_in 1645 (by decide +kernel) rfl, gT_in 72 (by decide +kernel) rfl⟩
set_option maxRecDepth 100000 in
theorem coX12_layChances : Cond.code yX12_layChances cX12_layChances 4 none ∈ gT := gT_in 1650 (by decide +kernel) rfl
set_option maxRecDepth 100000 in
theorem mlX12_371 : e_mv RX12 371 yX12_layChances cX12_layChances 4 none 1 := ⟨⟨gT_in 1647 (by decide +kernel) rfl, gT_in 111 (by decide +kernel) rfl, coX12_layChances, by decide, by decide +kernel⟩, gT_in 1649 (by decide +kernel) rfl, gT_in 73 (by decide +kernel) rfl⟩
set_option maxRecDepth 100000 in
theorem coX12_quota : Cond.code yX12_quota cX12_quota 1 (some .int) ∈ gT := gT_in 1654 (by decide +kernel) rfl
set_option maxRecDepth 100000 in
theorem mlX12_377 : e_mv RX12 377 yX12_quota cX12_quota 1 (some .int) 0 := ⟨⟨gT_in 1651 (by decide +kernel) rfl, gT_in 111 (by decide +kernel) rfl, coX12_quota, by decide, by decide +kernel⟩, gT_in 1653 (by decide +kernel) rfl, gT_in 74 (by decide +kernel) rfl⟩
set_option maxRecDepth 100000 in
theorem coX12_wins : Cond.code yX12_wins cX12_wins 8 (some .long) ∈ gT := gT_in 1658 (by decide +kernel) rfl
set_option maxRecDepth 100000 in
theorem mlX12_380 : e_mv RX12 380 yX12_wins cX12_wins 8 (some .long) 4 := ⟨⟨gT_in 1655 (by decide +kernel) rfl, gT_in 111 (by decide +kernel) rfl, coX12_wins, by decide, by decide +kernel⟩, gT_in 1657 (by decide +kernel) rfl, gT_in 75 (by decide +kernel) rfl⟩
set_option maxRecDepth 100000 in
theorem coX12_countVotes : Cond.code yX12_countVotes cX12_countVotes 8 none ∈ gT := gT_in 1662 (by decide +kernel) rfl
set_option maxRecDepth 100000 in
theorem mlX12_367 : e_mv RX12 367 yX12_countVotes cX12_countVotes 8 none 3 := ⟨⟨gT_in 1659 (by decide +kernel) rfl, gT_in 111 (by decide +kernel) rfl, coX12_countVotes, by decide, by decide +kernel⟩, gT_in 1661 (by decide +kernel) rfl, gT_in 76 (by decide +kernel) rfl⟩
set_option maxRecDepth 100000 in
theorem coX12_is : Cond.code yX12_is cX12_is 2 (some .boolean) ∈ gT := gT_in 1665 (by decide +kernel) rfl
set_option maxRecDepth 100000 in
theorem mlX12_364 : e_ms RX12 364 yX12_is cX12_is 2 (some .boolean) 2 := ⟨⟨gT_in 1663 (by decide +kernel) rfl, gT_in 111 (by decide +kernel) rfl, coX12_is, by decide, by decide +kernel⟩, gT_in 1664 (by decide +kernel) rfl⟩
set_option maxRecDepth 100000 in
theorem coX12_tips : Cond.code yX12_tips cX12_tips 2 (some .long) ∈ gT := gT_in 1669 (by decide +kernel) rfl
set_option maxRecDepth 100000 in
theorem mlL_94 : e_mv RL 94 yX12_tips cX12_tips 2 (some .long) 1 := ⟨⟨gT_in 1666 (by decide +kernel) rfl, gT_in 111 (by decide +kernel) rfl, coX12_tips, by decide, by decide +kernel⟩, gT_in 1667 (by decide +kernel) rfl, gT_in 1668 (by decide +kernel) rfl⟩
set_option maxRecDepth 100000 in
theorem coX12_bribed : Cond.code yX12_bribed cX12_bribed 3 (some .long) ∈ gT := gT_in 1674 (by decide +kernel) rfl
set_option maxRecDepth 100000 in
theorem mlL_99 : e_mv RL 99 yX12_bribed cX12_bribed 3 (some .long) 2 := ⟨⟨gT_in 1671 (by decide +kernel) rfl, gT_in 111 (by decide +kernel) rfl, coX12_bribed, by decide, by decide +kernel⟩, gT_in 1672 (by decide +kernel) rfl, gT_in 1673 (by decide +kernel) rfl⟩
set_option maxRecDepth 100000 in
theorem coX12_layBribes : Cond.code yX12_layBribes cX12_layBribes 1 none ∈ gT := gT_in 1678 (by decide +kernel) rfl
set_option maxRecDepth 100000 in
theorem mlX12_401 : e_mv RX12 401 yX12_layBribes cX12_layBribes 1 none 0 := ⟨⟨gT_in 1675 (by decide +kernel) rfl, gT_in 111 (by decide +kernel) rfl, coX12_layBribes, by decide, by decide +kernel⟩, gT_in 1677 (by decide +kernel) rfl, gT_in 77 (by decide +kernel) rfl⟩
set_option maxRecDepth 100000 in
theorem coX12_layPrices : Cond.code yX12_layPrices cX12_layPrices 3 none ∈ gT := gT_in 1682 (by decide +kernel) rfl
set_option maxRecDepth 100000 in
theorem mlX12_398 : e_mv RX12 398 yX12_layPrices cX12_layPrices 3 none 0 := ⟨⟨gT_in 1679 (by decide +kernel) rfl, gT_in 111 (by decide +kernel) rfl, coX12_layPrices, by decide, by decide +kernel⟩, gT_in 1681 (by decide +kernel) rfl, gT_in 78 (by decide +kernel) rfl⟩
set_option maxRecDepth 100000 in
theorem coX12_layCosts : Cond.code yX12_layCosts cX12_layCosts 5 none ∈ gT := gT_in 1686 (by decide +kernel) rfl
set_option maxRecDepth 100000 in
theorem mlX12_389 : e_mv RX12 389 yX12_layCosts cX12_layCosts 5 none 0 := ⟨⟨gT_in 1683 (by decide +kernel) rfl, gT_in 111 (by decide +kernel) rfl, coX12_layCosts, by decide, by decide +kernel⟩, gT_in 1685 (by decide +kernel) rfl, gT_in 79 (by decide +kernel) rfl⟩
set_option maxRecDepth 100000 in
theorem coX12_priceAt : Cond.code yX12_priceAt cX12_priceAt 3 (some .int) ∈ gT := gT_in 1690 (by decide +kernel) rfl
set_option maxRecDepth 100000 in
theorem mlX12_386 : e_mv RX12 386 yX12_priceAt cX12_priceAt 3 (some .int) 2 := ⟨⟨gT_in 1687 (by decide +kernel) rfl, gT_in 111 (by decide +kernel) rfl, coX12_priceAt, by decide, by decide +kernel⟩, gT_in 1689 (by decide +kernel) rfl, gT_in 80 (by decide +kernel) rfl⟩
set_option maxRecDepth 100000 in
theorem coX12_can : Cond.code yX12_can cX12_can 3 (some .boolean) ∈ gT := gT_in 1694 (by decide +kernel) rfl
set_option maxRecDepth 100000 in
theorem mlX12_404 : e_mv RX12 404 yX12_can cX12_can 3 (some .boolean) 2 := ⟨⟨gT_in 1691 (by decide +kernel) rfl, gT_in 111 (by decide +kernel) rfl, coX12_can, by decide, by decide +kernel⟩, gT_in 1693 (by decide +kernel) rfl, gT_in 81 (by decide +kernel) rfl⟩
set_option maxRecDepth 100000 in
theorem coX12_canBribe : Cond.code yX12_canBribe cX12_canBribe 4 (some .boolean) ∈ gT := gT_in 1698 (by decide +kernel) rfl
set_option maxRecDepth 100000 in
theorem mlX12_394 : e_mv RX12 394 yX12_canBribe cX12_canBribe 4 (some .boolean) 3 := ⟨⟨gT_in 1695 (by decide +kernel) rfl, gT_in 111 (by decide +kernel) rfl, coX12_canBribe, by decide, by decide +kernel⟩, gT_in 1697 (by decide +kernel) rfl, gT_in 82 (by decide +kernel) rfl⟩
set_option maxRecDepth 100000 in
theorem coX12_reply : Cond.code yX12_reply cX12_reply 5 (some .int) ∈ gT := gT_in 1703 (by decide +kernel) rfl
set_option maxRecDepth 100000 in
theorem mlL_103 : e_mv RL 103 yX12_reply cX12_reply 5 (some .int) 3 := ⟨⟨gT_in 1700 (by decide +kernel) rfl, gT_in 111 (by decide +kernel) rfl, coX12_reply, by decide, by decide +kernel⟩, gT_in 1701 (by decide +kernel) rfl, gT_in 1702 (by decide +kernel) rfl⟩
set_option maxRecDepth 100000 in
theorem coX12_replyTo : Cond.code yX12_replyTo cX12_replyTo 9 (some .int) ∈ gT := gT_in 1707 (by decide +kernel) rfl
set_option maxRecDepth 100000 in
theorem mlX12_411 : e_mv RX12 411 yX12_replyTo cX12_replyTo 9 (some .int) 2 := ⟨⟨gT_in 1704 (by decide +kernel) rfl, gT_in 111 (by decide +kernel) rfl, coX12_replyTo, by decide, by decide +kernel⟩, gT_in 1706 (by decide +kernel) rfl, gT_in 83 (by decide +kernel) rfl⟩
set_option maxRecDepth 100000 in
theorem coX12_isBetter : Cond.code yX12_isBetter cX12_isBetter 11 (some .boolean) ∈ gT := gT_in 1711 (by decide +kernel) rfl
set_option maxRecDepth 100000 in
theorem mlX12_407 : e_mv RX12 407 yX12_isBetter cX12_isBetter 11 (some .boolean) 5 := ⟨⟨gT_in 1708 (by decide +kernel) rfl, gT_in 111 (by decide +kernel) rfl, coX12_isBetter, by decide, by decide +kernel⟩, gT_in 1710 (by decide +kernel) rfl, gT_in 84 (by decide +kernel) rfl⟩
set_option maxRecDepth 100000 in
theorem coX12_sure : Cond.code yX12_sure cX12_sure 4 (some .int) ∈ gT := gT_in 1715 (by decide +kernel) rfl
set_option maxRecDepth 100000 in
theorem mlL_107 : e_mv RL 107 yX12_sure cX12_sure 4 (some .int) 2 := ⟨⟨gT_in 1712 (by decide +kernel) rfl, gT_in 111 (by decide +kernel) rfl, coX12_sure, by decide, by decide +kernel⟩, gT_in 1713 (by decide +kernel) rfl, gT_in 1714 (by decide +kernel) rfl⟩
set_option maxRecDepth 100000 in
theorem coX12_findSure : Cond.code yX12_findSure cX12_findSure 9 (some .int) ∈ gT := gT_in 1719 (by decide +kernel) rfl
set_option maxRecDepth 100000 in
theorem mlX12_426 : e_mv RX12 426 yX12_findSure cX12_findSure 9 (some .int) 1 := ⟨⟨gT_in 1716 (by decide +kernel) rfl, gT_in 111 (by decide +kernel) rfl, coX12_findSure, by decide, by decide +kernel⟩, gT_in 1718 (by decide +kernel) rfl, gT_in 85 (by decide +kernel) rfl⟩
set_option maxRecDepth 100000 in
theorem coX12_layTable : Cond.code yX12_layTable cX12_layTable 3 none ∈ gT := gT_in 1723 (by decide +kernel) rfl
set_option maxRecDepth 100000 in
theorem mlX12_414 : e_mv RX12 414 yX12_layTable cX12_layTable 3 none 0 := ⟨⟨gT_in 1720 (by decide +kernel) rfl, gT_in 111 (by decide +kernel) rfl, coX12_layTable, by decide, by decide +kernel⟩, gT_in 1722 (by decide +kernel) rfl, gT_in 86 (by decide +kernel) rfl⟩
set_option maxRecDepth 100000 in
theorem coX12_at : Cond.code yX12_at cX12_at 4 (some .long) ∈ gT := gT_in 1728 (by decide +kernel) rfl
set_option maxRecDepth 100000 in
theorem mlX12_419 : e_mv RX12 419 yX12_at cX12_at 4 (some .long) 3 := ⟨⟨gT_in 1725 (by decide +kernel) rfl, gT_in 111 (by decide +kernel) rfl, coX12_at, by decide, by decide +kernel⟩, gT_in 1727 (by decide +kernel) rfl, gT_in 87 (by decide +kernel) rfl⟩
set_option maxRecDepth 100000 in
theorem coX12_value : Cond.code yX12_value cX12_value 3 (some .long) ∈ gT := gT_in 1732 (by decide +kernel) rfl
set_option maxRecDepth 100000 in
theorem mlL_111 : e_mv RL 111 yX12_value cX12_value 3 (some .long) 1 := ⟨⟨gT_in 1729 (by decide +kernel) rfl, gT_in 111 (by decide +kernel) rfl, coX12_value, by decide, by decide +kernel⟩, gT_in 1730 (by decide +kernel) rfl, gT_in 1731 (by decide +kernel) rfl⟩
set_option maxRecDepth 100000 in
theorem coX12_saddle : Cond.code yX12_saddle cX12_saddle 6 (some .int) ∈ gT := gT_in 1736 (by decide +kernel) rfl
set_option maxRecDepth 100000 in
theorem mlL_115 : e_mv RL 115 yX12_saddle cX12_saddle 6 (some .int) 1 := ⟨⟨gT_in 1733 (by decide +kernel) rfl, gT_in 111 (by decide +kernel) rfl, coX12_saddle, by decide, by decide +kernel⟩, gT_in 1734 (by decide +kernel) rfl, gT_in 1735 (by decide +kernel) rfl⟩
set_option maxRecDepth 100000 in
theorem coX12_enough : Cond.code yX12_enough cX12_enough 10 (some .int) ∈ gT := gT_in 1741 (by decide +kernel) rfl
set_option maxRecDepth 100000 in
theorem mlL_119 : e_mv RL 119 yX12_enough cX12_enough 10 (some .int) 3 := ⟨⟨gT_in 1738 (by decide +kernel) rfl, gT_in 111 (by decide +kernel) rfl, coX12_enough, by decide, by decide +kernel⟩, gT_in 1739 (by decide +kernel) rfl, gT_in 1740 (by decide +kernel) rfl⟩
set_option maxRecDepth 100000 in
theorem coX12_bits : Cond.code yX12_bits cX12_bits 3 (some .int) ∈ gT := gT_in 1744 (by decide +kernel) rfl
set_option maxRecDepth 100000 in
theorem mlX12_435 : e_ms RX12 435 yX12_bits cX12_bits 3 (some .int) 1 := ⟨⟨gT_in 1742 (by decide +kernel) rfl, gT_in 111 (by decide +kernel) rfl, coX12_bits, by decide, by decide +kernel⟩, gT_in 1743 (by decide +kernel) rfl⟩
set_option maxRecDepth 100000 in
theorem coX12_power : Cond.code yX12_power cX12_power 4 (some .long) ∈ gT := gT_in 1747 (by decide +kernel) rfl
set_option maxRecDepth 100000 in
theorem mlX12_431 : e_ms RX12 431 yX12_power cX12_power 4 (some .long) 1 := ⟨⟨gT_in 1745 (by decide +kernel) rfl, gT_in 111 (by decide +kernel) rfl, coX12_power, by decide, by decide +kernel⟩, gT_in 1746 (by decide +kernel) rfl⟩
set_option maxRecDepth 100000 in
theorem coX12_isEnough : Cond.code yX12_isEnough cX12_isEnough 4 (some .boolean) ∈ gT := gT_in 1750 (by decide +kernel) rfl
set_option maxRecDepth 100000 in
theorem mlX12_438 : e_ms RX12 438 yX12_isEnough cX12_isEnough 4 (some .boolean) 3 := ⟨⟨gT_in 1748 (by decide +kernel) rfl, gT_in 111 (by decide +kernel) rfl, coX12_isEnough, by decide, by decide +kernel⟩, gT_in 1749 (by decide +kernel) rfl⟩
set_option maxRecDepth 100000 in
theorem coX12_bribe : Cond.code yX12_bribe cX12_bribe 5 (some .int) ∈ gT := gT_in 1754 (by decide +kernel) rfl
set_option maxRecDepth 100000 in
theorem mlL_123 : e_mv RL 123 yX12_bribe cX12_bribe 5 (some .int) 2 := ⟨⟨gT_in 1751 (by decide +kernel) rfl, gT_in 111 (by decide +kernel) rfl, coX12_bribe, by decide, by decide +kernel⟩, gT_in 1752 (by decide +kernel) rfl, gT_in 1753 (by decide +kernel) rfl⟩
set_option maxRecDepth 100000 in
theorem coX12_steady : Cond.code yX12_steady cX12_steady 4 (some .int) ∈ gT := gT_in 1758 (by decide +kernel) rfl
set_option maxRecDepth 100000 in
theorem mlL_127 : e_mv RL 127 yX12_steady cX12_steady 4 (some .int) 2 := ⟨⟨gT_in 1755 (by decide +kernel) rfl, gT_in 111 (by decide +kernel) rfl, coX12_steady, by decide, by decide +kernel⟩, gT_in 1756 (by decide +kernel) rfl, gT_in 1757 (by decide +kernel) rfl⟩
set_option maxRecDepth 100000 in
theorem coX12_findSteady : Cond.code yX12_findSteady cX12_findSteady 11 (some .int) ∈ gT := gT_in 1762 (by decide +kernel) rfl
set_option maxRecDepth 100000 in
theorem mlX12_448 : e_mv RX12 448 yX12_findSteady cX12_findSteady 11 (some .int) 1 := ⟨⟨gT_in 1759 (by decide +kernel) rfl, gT_in 111 (by decide +kernel) rfl, coX12_findSteady, by decide, by decide +kernel⟩, gT_in 1761 (by decide +kernel) rfl, gT_in 88 (by decide +kernel) rfl⟩
set_option maxRecDepth 100000 in
theorem coX12_swing : Cond.code yX12_swing cX12_swing 3 (some .long) ∈ gT := gT_in 1766 (by decide +kernel) rfl
set_option maxRecDepth 100000 in
theorem mlL_131 : e_mv RL 131 yX12_swing cX12_swing 3 (some .long) 1 := ⟨⟨gT_in 1763 (by decide +kernel) rfl, gT_in 111 (by decide +kernel) rfl, coX12_swing, by decide, by decide +kernel⟩, gT_in 1764 (by decide +kernel) rfl, gT_in 1765 (by decide +kernel) rfl⟩
set_option maxRecDepth 100000 in
theorem coX12_fairest : Cond.code yX12_fairest cX12_fairest 9 (some .int) ∈ gT := gT_in 1770 (by decide +kernel) rfl
set_option maxRecDepth 100000 in
theorem mlL_135 : e_mv RL 135 yX12_fairest cX12_fairest 9 (some .int) 0 := ⟨⟨gT_in 1767 (by decide +kernel) rfl, gT_in 111 (by decide +kernel) rfl, coX12_fairest, by decide, by decide +kernel⟩, gT_in 1768 (by decide +kernel) rfl, gT_in 1769 (by decide +kernel) rfl⟩
set_option maxRecDepth 100000 in
theorem coX12_judged : Cond.code yX12_judged cX12_judged 4 (some .int) ∈ gT := gT_in 1774 (by decide +kernel) rfl
set_option maxRecDepth 100000 in
theorem mlL_139 : e_mv RL 139 yX12_judged cX12_judged 4 (some .int) 3 := ⟨⟨gT_in 1771 (by decide +kernel) rfl, gT_in 111 (by decide +kernel) rfl, coX12_judged, by decide, by decide +kernel⟩, gT_in 1772 (by decide +kernel) rfl, gT_in 1773 (by decide +kernel) rfl⟩
set_option maxRecDepth 100000 in
theorem coX12_isCase : Cond.code yX12_isCase cX12_isCase 3 (some .boolean) ∈ gT := gT_in 1777 (by decide +kernel) rfl
set_option maxRecDepth 100000 in
theorem mlX12_451 : e_ms RX12 451 yX12_isCase cX12_isCase 3 (some .boolean) 3 := ⟨⟨gT_in 1775 (by decide +kernel) rfl, gT_in 111 (by decide +kernel) rfl, coX12_isCase, by decide, by decide +kernel⟩, gT_in 1776 (by decide +kernel) rfl⟩
set_option maxRecDepth 100000 in
theorem coX12_addCase : Cond.code yX12_addCase cX12_addCase 5 none ∈ gT := gT_in 1781 (by decide +kernel) rfl
set_option maxRecDepth 100000 in
theorem mlX12_454 : e_mv RX12 454 yX12_addCase cX12_addCase 5 none 3 := ⟨⟨gT_in 1778 (by decide +kernel) rfl, gT_in 111 (by decide +kernel) rfl, coX12_addCase, by decide, by decide +kernel⟩, gT_in 1780 (by decide +kernel) rfl, gT_in 89 (by decide +kernel) rfl⟩
set_option maxRecDepth 100000 in
theorem coX12_annul : Cond.code yX12_annul cX12_annul 3 (some .int) ∈ gT := gT_in 1785 (by decide +kernel) rfl
set_option maxRecDepth 100000 in
theorem mlL_143 : e_mv RL 143 yX12_annul cX12_annul 3 (some .int) 1 := ⟨⟨gT_in 1782 (by decide +kernel) rfl, gT_in 111 (by decide +kernel) rfl, coX12_annul, by decide, by decide +kernel⟩, gT_in 1783 (by decide +kernel) rfl, gT_in 1784 (by decide +kernel) rfl⟩
set_option maxRecDepth 100000 in
theorem coX12_row : Cond.code yX12_row cX12_row 5 (some .int) ∈ gT := gT_in 1789 (by decide +kernel) rfl
set_option maxRecDepth 100000 in
theorem mlL_61 : e_mv RL 61 yX12_row cX12_row 5 (some .int) 0 := ⟨⟨gT_in 1786 (by decide +kernel) rfl, gT_in 111 (by decide +kernel) rfl, coX12_row, by decide, by decide +kernel⟩, gT_in 1787 (by decide +kernel) rfl, gT_in 1788 (by decide +kernel) rfl⟩
set_option maxRecDepth 100000 in
theorem coX12_quashed : Cond.code yX12_quashed cX12_quashed 1 (some .int) ∈ gT := gT_in 1793 (by decide +kernel) rfl
set_option maxRecDepth 100000 in
theorem mlL_65 : e_mv RL 65 yX12_quashed cX12_quashed 1 (some .int) 0 := ⟨⟨gT_in 1790 (by decide +kernel) rfl, gT_in 111 (by decide +kernel) rfl, coX12_quashed, by decide, by decide +kernel⟩, gT_in 1791 (by decide +kernel) rfl, gT_in 1792 (by decide +kernel) rfl⟩
set_option maxRecDepth 100000 in
theorem coX12_right : Cond.code yX12_right cX12_right 5 (some .int) ∈ gT := gT_in 1797 (by decide +kernel) rfl
set_option maxRecDepth 100000 in
theorem mlL_147 : e_mv RL 147 yX12_right cX12_right 5 (some .int) 2 := ⟨⟨gT_in 1794 (by decide +kernel) rfl, gT_in 111 (by decide +kernel) rfl, coX12_right, by decide, by decide +kernel⟩, gT_in 1795 (by decide +kernel) rfl, gT_in 1796 (by decide +kernel) rfl⟩
set_option maxRecDepth 100000 in
theorem coX12_rightIn : Cond.code yX12_rightIn cX12_rightIn 4 (some .int) ∈ gT := gT_in 1801 (by decide +kernel) rfl
set_option maxRecDepth 100000 in
theorem mlX12_460 : e_mv RX12 460 yX12_rightIn cX12_rightIn 4 (some .int) 1 := ⟨⟨gT_in 1798 (by decide +kernel) rfl, gT_in 111 (by decide +kernel) rfl, coX12_rightIn, by decide, by decide +kernel⟩, gT_in 1800 (by decide +kernel) rfl, gT_in 90 (by decide +kernel) rfl⟩
set_option maxRecDepth 100000 in
theorem coX12_rights : Cond.code yX12_rights cX12_rights 4 (some .int) ∈ gT := gT_in 1805 (by decide +kernel) rfl
set_option maxRecDepth 100000 in
theorem mlX12_463 : e_mv RX12 463 yX12_rights cX12_rights 4 (some .int) 1 := ⟨⟨gT_in 1802 (by decide +kernel) rfl, gT_in 111 (by decide +kernel) rfl, coX12_rights, by decide, by decide +kernel⟩, gT_in 1804 (by decide +kernel) rfl, gT_in 91 (by decide +kernel) rfl⟩
set_option maxRecDepth 100000 in
theorem coX12_wrongs : Cond.code yX12_wrongs cX12_wrongs 4 (some .int) ∈ gT := gT_in 1809 (by decide +kernel) rfl
set_option maxRecDepth 100000 in
theorem mlX12_466 : e_mv RX12 466 yX12_wrongs cX12_wrongs 4 (some .int) 1 := ⟨⟨gT_in 1806 (by decide +kernel) rfl, gT_in 111 (by decide +kernel) rfl, coX12_wrongs, by decide, by decide +kernel⟩, gT_in 1808 (by decide +kernel) rfl, gT_in 92 (by decide +kernel) rfl⟩
set_option maxRecDepth 100000 in
theorem coX12_trusted : Cond.code yX12_trusted cX12_trusted 5 (some .int) ∈ gT := gT_in 1813 (by decide +kernel) rfl
set_option maxRecDepth 100000 in
theorem mlL_159 : e_mv RL 159 yX12_trusted cX12_trusted 5 (some .int) 1 := ⟨⟨gT_in 1810 (by decide +kernel) rfl, gT_in 111 (by decide +kernel) rfl, coX12_trusted, by decide, by decide +kernel⟩, gT_in 1811 (by decide +kernel) rfl, gT_in 1812 (by decide +kernel) rfl⟩
set_option maxRecDepth 100000 in
theorem coX12_isAhead : Cond.code yX12_isAhead cX12_isAhead 5 (some .boolean) ∈ gT := gT_in 1817 (by decide +kernel) rfl
set_option maxRecDepth 100000 in
theorem mlX12_469 : e_mv RX12 469 yX12_isAhead cX12_isAhead 5 (some .boolean) 2 := ⟨⟨gT_in 1814 (by decide +kernel) rfl, gT_in 111 (by decide +kernel) rfl, coX12_isAhead, by decide, by decide +kernel⟩, gT_in 1816 (by decide +kernel) rfl, gT_in 93 (by decide +kernel) rfl⟩
set_option maxRecDepth 100000 in
theorem coX12_agree : Cond.code yX12_agree cX12_agree 9 (some .int) ∈ gT := gT_in 1821 (by decide +kernel) rfl
set_option maxRecDepth 100000 in
theorem mlL_151 : e_mv RL 151 yX12_agree cX12_agree 9 (some .int) 3 := ⟨⟨gT_in 1818 (by decide +kernel) rfl, gT_in 111 (by decide +kernel) rfl, coX12_agree, by decide, by decide +kernel⟩, gT_in 1819 (by decide +kernel) rfl, gT_in 1820 (by decide +kernel) rfl⟩
set_option maxRecDepth 100000 in
theorem coX12_again : Cond.code yX12_again cX12_again 5 (some .long) ∈ gT := gT_in 1825 (by decide +kernel) rfl
set_option maxRecDepth 100000 in
theorem mlL_155 : e_mv RL 155 yX12_again cX12_again 5 (some .long) 2 := ⟨⟨gT_in 1822 (by decide +kernel) rfl, gT_in 111 (by decide +kernel) rfl, coX12_again, by decide, by decide +kernel⟩, gT_in 1823 (by decide +kernel) rfl, gT_in 1824 (by decide +kernel) rfl⟩
set_option maxRecDepth 100000 in
theorem coX12_proofOf : Cond.code yX12_proofOf cX12_proofOf 11 (some .long) ∈ gT := gT_in 1829 (by decide +kernel) rfl
set_option maxRecDepth 100000 in
theorem mlX12_472 : e_mv RX12 472 yX12_proofOf cX12_proofOf 11 (some .long) 3 := ⟨⟨gT_in 1826 (by decide +kernel) rfl, gT_in 111 (by decide +kernel) rfl, coX12_proofOf, by decide, by decide +kernel⟩, gT_in 1828 (by decide +kernel) rfl, gT_in 94 (by decide +kernel) rfl⟩
set_option maxRecDepth 100000 in
theorem coX12_common : Cond.code yX12_common cX12_common 10 (some .long) ∈ gT := gT_in 1832 (by decide +kernel) rfl
set_option maxRecDepth 100000 in
theorem mlX12_475 : e_ms RX12 475 yX12_common cX12_common 10 (some .long) 2 := ⟨⟨gT_in 1830 (by decide +kernel) rfl, gT_in 111 (by decide +kernel) rfl, coX12_common, by decide, by decide +kernel⟩, gT_in 1831 (by decide +kernel) rfl⟩
set_option maxRecDepth 100000 in
theorem coX12_proof : Cond.code yX12_proof cX12_proof 4 (some .long) ∈ gT := gT_in 1836 (by decide +kernel) rfl
set_option maxRecDepth 100000 in
theorem mlL_164 : e_mv RL 164 yX12_proof cX12_proof 4 (some .long) 3 := ⟨⟨gT_in 1833 (by decide +kernel) rfl, gT_in 111 (by decide +kernel) rfl, coX12_proof, by decide, by decide +kernel⟩, gT_in 1834 (by decide +kernel) rfl, gT_in 1835 (by decide +kernel) rfl⟩
set_option maxRecDepth 100000 in
theorem coX12_appeal : Cond.code yX12_appeal cX12_appeal 11 (some .int) ∈ gT := gT_in 1840 (by decide +kernel) rfl
set_option maxRecDepth 100000 in
theorem mlL_168 : e_mv RL 168 yX12_appeal cX12_appeal 11 (some .int) 1 := ⟨⟨gT_in 1837 (by decide +kernel) rfl, gT_in 111 (by decide +kernel) rfl, coX12_appeal, by decide, by decide +kernel⟩, gT_in 1838 (by decide +kernel) rfl, gT_in 1839 (by decide +kernel) rfl⟩
set_option maxRecDepth 100000 in
theorem coX12_times : Cond.code yX12_times cX12_times 8 none ∈ gT := gT_in 1844 (by decide +kernel) rfl
set_option maxRecDepth 100000 in
theorem mlX12_479 : e_mv RX12 479 yX12_times cX12_times 8 none 1 := ⟨⟨gT_in 1841 (by decide +kernel) rfl, gT_in 111 (by decide +kernel) rfl, coX12_times, by decide, by decide +kernel⟩, gT_in 1843 (by decide +kernel) rfl, gT_in 95 (by decide +kernel) rfl⟩
set_option maxRecDepth 100000 in
theorem coX12_add : Cond.code yX12_add cX12_add 4 none ∈ gT := gT_in 1848 (by decide +kernel) rfl
set_option maxRecDepth 100000 in
theorem mlX12_483 : e_mv RX12 483 yX12_add cX12_add 4 none 0 := ⟨⟨gT_in 1845 (by decide +kernel) rfl, gT_in 111 (by decide +kernel) rfl, coX12_add, by decide, by decide +kernel⟩, gT_in 1847 (by decide +kernel) rfl, gT_in 96 (by decide +kernel) rfl⟩
set_option maxRecDepth 100000 in
theorem coX12_sitting : Cond.code yX12_sitting cX12_sitting 4 (some .int) ∈ gT := gT_in 1852 (by decide +kernel) rfl
set_option maxRecDepth 100000 in
theorem mlL_172 : e_mv RL 172 yX12_sitting cX12_sitting 4 (some .int) 1 := ⟨⟨gT_in 1849 (by decide +kernel) rfl, gT_in 111 (by decide +kernel) rfl, coX12_sitting, by decide, by decide +kernel⟩, gT_in 1850 (by decide +kernel) rfl, gT_in 1851 (by decide +kernel) rfl⟩
set_option maxRecDepth 100000 in
theorem coX12_minute : Cond.code yX12_minute cX12_minute 7 (some .int) ∈ gT := gT_in 1856 (by decide +kernel) rfl
set_option maxRecDepth 100000 in
theorem mlX12_495 : e_mv RX12 495 yX12_minute cX12_minute 7 (some .int) 1 := ⟨⟨gT_in 1853 (by decide +kernel) rfl, gT_in 111 (by decide +kernel) rfl, coX12_minute, by decide, by decide +kernel⟩, gT_in 1855 (by decide +kernel) rfl, gT_in 97 (by decide +kernel) rfl⟩
set_option maxRecDepth 100000 in
theorem coX12_draw : Cond.code yX12_draw cX12_draw 1 (some .int) ∈ gT := gT_in 1860 (by decide +kernel) rfl
set_option maxRecDepth 100000 in
theorem mlX12_498 : e_mv RX12 498 yX12_draw cX12_draw 1 (some .int) 0 := ⟨⟨gT_in 1857 (by decide +kernel) rfl, gT_in 111 (by decide +kernel) rfl, coX12_draw, by decide, by decide +kernel⟩, gT_in 1859 (by decide +kernel) rfl, gT_in 98 (by decide +kernel) rfl⟩
set_option maxRecDepth 100000 in
theorem coX12_lay : Cond.code yX12_lay cX12_lay 3 (some .int) ∈ gT := gT_in 1867 (by decide +kernel) rfl
set_option maxRecDepth 100000 in
theorem mlL_176 : e_mv RL 176 yX12_lay cX12_lay 3 (some .int) 2 := ⟨⟨gT_in 1864 (by decide +kernel) rfl, gT_in 111 (by decide +kernel) rfl, coX12_lay, by decide, by decide +kernel⟩, gT_in 1865 (by decide +kernel) rfl, gT_in 1866 (by decide +kernel) rfl⟩
set_option maxRecDepth 100000 in
theorem coX12_count : Cond.code yX12_count cX12_count 2 (some .int) ∈ gT := gT_in 1871 (by decide +kernel) rfl
set_option maxRecDepth 100000 in
theorem mlL_188 : e_mv RL 188 yX12_count cX12_count 2 (some .int) 1 := ⟨⟨gT_in 1868 (by decide +kernel) rfl, gT_in 111 (by decide +kernel) rfl, coX12_count, by decide, by decide +kernel⟩, gT_in 1869 (by decide +kernel) rfl, gT_in 1870 (by decide +kernel) rfl⟩
set_option maxRecDepth 100000 in
theorem coX12_status : Cond.code yX12_status cX12_status 1 (some .int) ∈ gT := gT_in 1877 (by decide +kernel) rfl
set_option maxRecDepth 100000 in
theorem mlL_192 : e_mv RL 192 yX12_status cX12_status 1 (some .int) 0 := ⟨⟨gT_in 1874 (by decide +kernel) rfl, gT_in 111 (by decide +kernel) rfl, coX12_status, by decide, by decide +kernel⟩, gT_in 1875 (by decide +kernel) rfl, gT_in 1876 (by decide +kernel) rfl⟩
