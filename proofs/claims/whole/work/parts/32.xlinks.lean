set_option maxRecDepth 100000 in
theorem cwX2_21 : e_cw RX2 21 := ⟨gT_in 1205 (by decide +kernel) rfl, gT_in 761 (by decide +kernel) rfl, gT_in 760 (by decide +kernel) rfl, gT_in 120 (by decide +kernel) rfl⟩
set_option maxRecDepth 100000 in
theorem cwX8_25 : e_cw RX8 25 := ⟨gT_in 1044 (by decide +kernel) rfl, gT_in 761 (by decide +kernel) rfl, gT_in 760 (by decide +kernel) rfl, gT_in 120 (by decide +kernel) rfl⟩
set_option maxRecDepth 100000 in
theorem cwX10_46 : e_cw RX10 46 := ⟨gT_in 1200 (by decide +kernel) rfl, gT_in 761 (by decide +kernel) rfl, gT_in 760 (by decide +kernel) rfl, gT_in 120 (by decide +kernel) rfl⟩
set_option maxRecDepth 100000 in
theorem cwJ7_150 : e_cw RJ7 150 := ⟨gT_in 759 (by decide +kernel) rfl, gT_in 761 (by decide +kernel) rfl, gT_in 760 (by decide +kernel) rfl, gT_in 120 (by decide +kernel) rfl⟩
set_option maxRecDepth 100000 in
theorem mmX10_76 : e_mm RX10 76 Lib.Math.min.name Lib.Math.min.code 2 (some .int) := ⟨gT_in 549 (by decide +kernel) rfl, gT_in 550 (by decide +kernel) rfl, gT_in 113 (by decide +kernel) rfl, gT_in 551 (by decide +kernel) rfl⟩
set_option maxRecDepth 100000 in
theorem mmX6_90 : e_mm RX6 90 Lib.Math.min.name Lib.Math.min.code 2 (some .int) := ⟨gT_in 621 (by decide +kernel) rfl, gT_in 550 (by decide +kernel) rfl, gT_in 113 (by decide +kernel) rfl, gT_in 551 (by decide +kernel) rfl⟩
set_option maxRecDepth 100000 in
theorem mmJ7_304 : e_mm RJ7 304 Lib.Math.min.name Lib.Math.min.code 2 (some .int) := ⟨gT_in 758 (by decide +kernel) rfl, gT_in 550 (by decide +kernel) rfl, gT_in 113 (by decide +kernel) rfl, gT_in 551 (by decide +kernel) rfl⟩
set_option maxRecDepth 100000 in
theorem mmX0_88 : e_mm RX0 88 Lib.Math.max.name Lib.Math.max.code 2 (some .int) := ⟨gT_in 830 (by decide +kernel) rfl, gT_in 831 (by decide +kernel) rfl, gT_in 113 (by decide +kernel) rfl, gT_in 832 (by decide +kernel) rfl⟩
set_option maxRecDepth 100000 in
theorem mmX0_58 : e_mm RX0 58 Lib.MathLoose.min_long.x Lib.MathLoose.min_long.code 4 (some .long) := ⟨gT_in 839 (by decide +kernel) rfl, gT_in 840 (by decide +kernel) rfl, gT_in 113 (by decide +kernel) rfl, gT_in 841 (by decide +kernel) rfl⟩
set_option maxRecDepth 100000 in
theorem mmX0_64 : e_mm RX0 64 Lib.MathLoose.max_long.x Lib.MathLoose.max_long.code 4 (some .long) := ⟨gT_in 842 (by decide +kernel) rfl, gT_in 843 (by decide +kernel) rfl, gT_in 113 (by decide +kernel) rfl, gT_in 844 (by decide +kernel) rfl⟩
set_option maxRecDepth 100000 in
theorem mmX8_35 : e_mm RX8 35 Lib.Math.max.name Lib.Math.max.code 2 (some .int) := ⟨gT_in 882 (by decide +kernel) rfl, gT_in 831 (by decide +kernel) rfl, gT_in 113 (by decide +kernel) rfl, gT_in 832 (by decide +kernel) rfl⟩
set_option maxRecDepth 100000 in
theorem mmX11_240 : e_mm RX11 240 Lib.MathLoose.abs_long.x Lib.MathLoose.abs_long.code 2 (some .long) := ⟨gT_in 907 (by decide +kernel) rfl, gT_in 908 (by decide +kernel) rfl, gT_in 113 (by decide +kernel) rfl, gT_in 909 (by decide +kernel) rfl⟩
set_option maxRecDepth 100000 in
theorem mmX1_181 : e_mm RX1 181 Lib.MathLoose.min_long.x Lib.MathLoose.min_long.code 4 (some .long) := ⟨gT_in 1032 (by decide +kernel) rfl, gT_in 840 (by decide +kernel) rfl, gT_in 113 (by decide +kernel) rfl, gT_in 841 (by decide +kernel) rfl⟩
set_option maxRecDepth 100000 in
theorem mmX1_187 : e_mm RX1 187 Lib.MathLoose.max_long.x Lib.MathLoose.max_long.code 4 (some .long) := ⟨gT_in 1033 (by decide +kernel) rfl, gT_in 843 (by decide +kernel) rfl, gT_in 113 (by decide +kernel) rfl, gT_in 844 (by decide +kernel) rfl⟩
set_option maxRecDepth 100000 in
theorem mmX3_37 : e_mm RX3 37 Lib.MathLoose.max_long.x Lib.MathLoose.max_long.code 4 (some .long) := ⟨gT_in 1148 (by decide +kernel) rfl, gT_in 843 (by decide +kernel) rfl, gT_in 113 (by decide +kernel) rfl, gT_in 844 (by decide +kernel) rfl⟩
set_option maxRecDepth 100000 in
theorem mnX1_143 : e_mn RX1 143 yX11_power cX11_power 4 (some .long) 1 := ⟨⟨"YardCourt", e_nest_in 1072 (by decide +kernel) rfl⟩, gT_in 100 (by decide +kernel) rfl, gT_in 903 (by decide +kernel) rfl, by decide, by decide +kernel, gT_in 902 (by decide +kernel) rfl⟩
